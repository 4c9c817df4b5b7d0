theorem dX1_look_0 : decode cX1_look 0 = .ok (.aload_n 0, 1) := by decide +kernel
theorem dX1_look_1 : decode cX1_look 1 = .ok (.iload_n 1, 1) := by decide +kernel
theorem dX1_look_2 : decode cX1_look 2 = .ok (.iload_n 2, 1) := by decide +kernel
theorem dX1_look_3 : decode cX1_look 3 = .ok (.invokevirtual 191, 3) := by decide +kernel
theorem dX1_look_6 : decode cX1_look 6 = .ok (.istore_n 3, 1) := by decide +kernel
theorem dX1_look_7 : decode cX1_look 7 = .ok (.iload_n 3, 1) := by decide +kernel
theorem dX1_look_8 : decode cX1_look 8 = .ok (.ifCond .eq 5, 3) := by decide +kernel
theorem dX1_look_11 : decode cX1_look 11 = .ok (.iload_n 3, 1) := by decide +kernel
theorem dX1_look_12 : decode cX1_look 12 = .ok (.ireturn, 1) := by decide +kernel
theorem dX1_look_13 : decode cX1_look 13 = .ok (.aload_n 0, 1) := by decide +kernel
theorem dX1_look_14 : decode cX1_look 14 = .ok (.iload_n 1, 1) := by decide +kernel
theorem dX1_look_15 : decode cX1_look 15 = .ok (.iload_n 2, 1) := by decide +kernel
theorem dX1_look_16 : decode cX1_look 16 = .ok (.invokevirtual 194, 3) := by decide +kernel
theorem dX1_look_19 : decode cX1_look 19 = .ok (.istore 4, 2) := by decide +kernel
theorem dX1_look_21 : decode cX1_look 21 = .ok (.iload 4, 2) := by decide +kernel
theorem dX1_look_23 : decode cX1_look 23 = .ok (.ifCond .ne 6, 3) := by decide +kernel
theorem dX1_look_26 : decode cX1_look 26 = .ok (.bipush (-9), 2) := by decide +kernel
theorem dX1_look_28 : decode cX1_look 28 = .ok (.ireturn, 1) := by decide +kernel
theorem dX1_look_29 : decode cX1_look 29 = .ok (.aload_n 0, 1) := by decide +kernel
theorem dX1_look_30 : decode cX1_look 30 = .ok (.iload_n 1, 1) := by decide +kernel
theorem dX1_look_31 : decode cX1_look 31 = .ok (.iload 4, 2) := by decide +kernel
theorem dX1_look_33 : decode cX1_look 33 = .ok (.invokevirtual 200, 3) := by decide +kernel
theorem dX1_look_36 : decode cX1_look 36 = .ok (.iconst 0, 1) := by decide +kernel
theorem dX1_look_37 : decode cX1_look 37 = .ok (.istore 5, 2) := by decide +kernel
theorem dX1_look_39 : decode cX1_look 39 = .ok (.iconst 1, 1) := by decide +kernel
theorem dX1_look_40 : decode cX1_look 40 = .ok (.istore 6, 2) := by decide +kernel
theorem dX1_look_42 : decode cX1_look 42 = .ok (.iload 6, 2) := by decide +kernel
theorem dX1_look_44 : decode cX1_look 44 = .ok (.bipush 20, 2) := by decide +kernel
theorem dX1_look_46 : decode cX1_look 46 = .ok (.if_icmp .ge 28, 3) := by decide +kernel
theorem dX1_look_49 : decode cX1_look 49 = .ok (.aload_n 0, 1) := by decide +kernel
theorem dX1_look_50 : decode cX1_look 50 = .ok (.iload 6, 2) := by decide +kernel
theorem dX1_look_52 : decode cX1_look 52 = .ok (.invokevirtual 203, 3) := by decide +kernel
theorem dX1_look_55 : decode cX1_look 55 = .ok (.aload_n 0, 1) := by decide +kernel
theorem dX1_look_56 : decode cX1_look 56 = .ok (.iload 5, 2) := by decide +kernel
theorem dX1_look_58 : decode cX1_look 58 = .ok (.invokevirtual 203, 3) := by decide +kernel
theorem dX1_look_61 : decode cX1_look 61 = .ok (.if_icmp .ge 7, 3) := by decide +kernel
theorem dX1_look_64 : decode cX1_look 64 = .ok (.iload 6, 2) := by decide +kernel
theorem dX1_look_66 : decode cX1_look 66 = .ok (.istore 5, 2) := by decide +kernel
theorem dX1_look_68 : decode cX1_look 68 = .ok (.iinc 6 1, 3) := by decide +kernel
theorem dX1_look_71 : decode cX1_look 71 = .ok (.goto (-29), 3) := by decide +kernel
theorem dX1_look_74 : decode cX1_look 74 = .ok (.aload_n 0, 1) := by decide +kernel
theorem dX1_look_75 : decode cX1_look 75 = .ok (.aload_n 0, 1) := by decide +kernel
theorem dX1_look_76 : decode cX1_look 76 = .ok (.iload 5, 2) := by decide +kernel
theorem dX1_look_78 : decode cX1_look 78 = .ok (.invokevirtual 203, 3) := by decide +kernel
theorem dX1_look_81 : decode cX1_look 81 = .ok (.invokevirtual 99, 3) := by decide +kernel
theorem dX1_look_84 : decode cX1_look 84 = .ok (.pop, 1) := by decide +kernel
theorem dX1_look_85 : decode cX1_look 85 = .ok (.iload 5, 2) := by decide +kernel
theorem dX1_look_87 : decode cX1_look 87 = .ok (.iconst 1, 1) := by decide +kernel
theorem dX1_look_88 : decode cX1_look 88 = .ok (.iadd, 1) := by decide +kernel
theorem dX1_look_89 : decode cX1_look 89 = .ok (.ireturn, 1) := by decide +kernel
theorem dX1_greatestDivisor_0 : decode cX1_greatestDivisor 0 = .ok (.lload_n 0, 1) := by decide +kernel
theorem dX1_greatestDivisor_1 : decode cX1_greatestDivisor 1 = .ok (.lstore 4, 2) := by decide +kernel
theorem dX1_greatestDivisor_3 : decode cX1_greatestDivisor 3 = .ok (.lload_n 2, 1) := by decide +kernel
theorem dX1_greatestDivisor_4 : decode cX1_greatestDivisor 4 = .ok (.lstore 6, 2) := by decide +kernel
theorem dX1_greatestDivisor_6 : decode cX1_greatestDivisor 6 = .ok (.iconst 0, 1) := by decide +kernel
theorem dX1_greatestDivisor_7 : decode cX1_greatestDivisor 7 = .ok (.istore 8, 2) := by decide +kernel
theorem dX1_greatestDivisor_9 : decode cX1_greatestDivisor 9 = .ok (.iload 8, 2) := by decide +kernel
theorem dX1_greatestDivisor_11 : decode cX1_greatestDivisor 11 = .ok (.sipush 1000, 3) := by decide +kernel
theorem dX1_greatestDivisor_14 : decode cX1_greatestDivisor 14 = .ok (.if_icmp .ge 31, 3) := by decide +kernel
theorem dX1_greatestDivisor_17 : decode cX1_greatestDivisor 17 = .ok (.lload 6, 2) := by decide +kernel
theorem dX1_greatestDivisor_19 : decode cX1_greatestDivisor 19 = .ok (.lconst 0, 1) := by decide +kernel
theorem dX1_greatestDivisor_20 : decode cX1_greatestDivisor 20 = .ok (.lcmp, 1) := by decide +kernel
theorem dX1_greatestDivisor_21 : decode cX1_greatestDivisor 21 = .ok (.ifCond .eq 24, 3) := by decide +kernel
theorem dX1_greatestDivisor_24 : decode cX1_greatestDivisor 24 = .ok (.lload 4, 2) := by decide +kernel
theorem dX1_greatestDivisor_26 : decode cX1_greatestDivisor 26 = .ok (.lload 6, 2) := by decide +kernel
theorem dX1_greatestDivisor_28 : decode cX1_greatestDivisor 28 = .ok (.lrem, 1) := by decide +kernel
theorem dX1_greatestDivisor_29 : decode cX1_greatestDivisor 29 = .ok (.lstore 9, 2) := by decide +kernel
theorem dX1_greatestDivisor_31 : decode cX1_greatestDivisor 31 = .ok (.lload 6, 2) := by decide +kernel
theorem dX1_greatestDivisor_33 : decode cX1_greatestDivisor 33 = .ok (.lstore 4, 2) := by decide +kernel
theorem dX1_greatestDivisor_35 : decode cX1_greatestDivisor 35 = .ok (.lload 9, 2) := by decide +kernel
theorem dX1_greatestDivisor_37 : decode cX1_greatestDivisor 37 = .ok (.lstore 6, 2) := by decide +kernel
theorem dX1_greatestDivisor_39 : decode cX1_greatestDivisor 39 = .ok (.iinc 8 1, 3) := by decide +kernel
theorem dX1_greatestDivisor_42 : decode cX1_greatestDivisor 42 = .ok (.goto (-33), 3) := by decide +kernel
theorem dX1_greatestDivisor_45 : decode cX1_greatestDivisor 45 = .ok (.lload 4, 2) := by decide +kernel
theorem dX1_greatestDivisor_47 : decode cX1_greatestDivisor 47 = .ok (.lreturn, 1) := by decide +kernel
theorem dX1_tellRatio_0 : decode cX1_tellRatio 0 = .ok (.lload_n 1, 1) := by decide +kernel
theorem dX1_tellRatio_1 : decode cX1_tellRatio 1 = .ok (.lload_n 3, 1) := by decide +kernel
theorem dX1_tellRatio_2 : decode cX1_tellRatio 2 = .ok (.invokestatic 257, 3) := by decide +kernel
theorem dX1_tellRatio_5 : decode cX1_tellRatio 5 = .ok (.lstore 5, 2) := by decide +kernel
theorem dX1_tellRatio_7 : decode cX1_tellRatio 7 = .ok (.lload 5, 2) := by decide +kernel
theorem dX1_tellRatio_9 : decode cX1_tellRatio 9 = .ok (.lconst 0, 1) := by decide +kernel
theorem dX1_tellRatio_10 : decode cX1_tellRatio 10 = .ok (.lcmp, 1) := by decide +kernel
theorem dX1_tellRatio_11 : decode cX1_tellRatio 11 = .ok (.ifCond .le 19, 3) := by decide +kernel
theorem dX1_tellRatio_14 : decode cX1_tellRatio 14 = .ok (.aload_n 0, 1) := by decide +kernel
theorem dX1_tellRatio_15 : decode cX1_tellRatio 15 = .ok (.lload_n 1, 1) := by decide +kernel
theorem dX1_tellRatio_16 : decode cX1_tellRatio 16 = .ok (.lload 5, 2) := by decide +kernel
theorem dX1_tellRatio_18 : decode cX1_tellRatio 18 = .ok (.ldiv, 1) := by decide +kernel
theorem dX1_tellRatio_19 : decode cX1_tellRatio 19 = .ok (.putfield 55, 3) := by decide +kernel
theorem dX1_tellRatio_22 : decode cX1_tellRatio 22 = .ok (.aload_n 0, 1) := by decide +kernel
theorem dX1_tellRatio_23 : decode cX1_tellRatio 23 = .ok (.lload_n 3, 1) := by decide +kernel
theorem dX1_tellRatio_24 : decode cX1_tellRatio 24 = .ok (.lload 5, 2) := by decide +kernel
theorem dX1_tellRatio_26 : decode cX1_tellRatio 26 = .ok (.ldiv, 1) := by decide +kernel
theorem dX1_tellRatio_27 : decode cX1_tellRatio 27 = .ok (.putfield 59, 3) := by decide +kernel
theorem dX1_tellRatio_30 : decode cX1_tellRatio 30 = .ok (.return_, 1) := by decide +kernel
theorem dX1_sets_0 : decode cX1_sets 0 = .ok (.iload_n 1, 1) := by decide +kernel
theorem dX1_sets_1 : decode cX1_sets 1 = .ok (.iconst 0, 1) := by decide +kernel
theorem dX1_sets_2 : decode cX1_sets 2 = .ok (.bipush 120, 2) := by decide +kernel
theorem dX1_sets_4 : decode cX1_sets 4 = .ok (.invokestatic 128, 3) := by decide +kernel
theorem dX1_sets_7 : decode cX1_sets 7 = .ok (.ifCond .ne 5, 3) := by decide +kernel
theorem dX1_sets_10 : decode cX1_sets 10 = .ok (.iconst (-1), 1) := by decide +kernel
theorem dX1_sets_11 : decode cX1_sets 11 = .ok (.ireturn, 1) := by decide +kernel
theorem dX1_sets_12 : decode cX1_sets 12 = .ok (.aload_n 0, 1) := by decide +kernel
theorem dX1_sets_13 : decode cX1_sets 13 = .ok (.getfield 33, 3) := by decide +kernel
theorem dX1_sets_16 : decode cX1_sets 16 = .ok (.getfield 122, 3) := by decide +kernel
theorem dX1_sets_19 : decode cX1_sets 19 = .ok (.ifCond .ne 6, 3) := by decide +kernel
theorem dX1_sets_22 : decode cX1_sets 22 = .ok (.bipush (-4), 2) := by decide +kernel
theorem dX1_sets_24 : decode cX1_sets 24 = .ok (.ireturn, 1) := by decide +kernel
theorem dX1_sets_25 : decode cX1_sets 25 = .ok (.iconst 0, 1) := by decide +kernel
theorem dX1_sets_26 : decode cX1_sets 26 = .ok (.istore_n 2, 1) := by decide +kernel
theorem dX1_sets_27 : decode cX1_sets 27 = .ok (.bipush (-9), 2) := by decide +kernel
theorem dX1_sets_29 : decode cX1_sets 29 = .ok (.istore_n 3, 1) := by decide +kernel
theorem dX1_sets_30 : decode cX1_sets 30 = .ok (.iconst 0, 1) := by decide +kernel
theorem dX1_sets_31 : decode cX1_sets 31 = .ok (.istore 4, 2) := by decide +kernel
theorem dX1_sets_33 : decode cX1_sets 33 = .ok (.iload 4, 2) := by decide +kernel
theorem dX1_sets_35 : decode cX1_sets 35 = .ok (.iconst 1, 1) := by decide +kernel
theorem dX1_sets_36 : decode cX1_sets 36 = .ok (.aload_n 0, 1) := by decide +kernel
theorem dX1_sets_37 : decode cX1_sets 37 = .ok (.getfield 33, 3) := by decide +kernel
theorem dX1_sets_40 : decode cX1_sets 40 = .ok (.getfield 122, 3) := by decide +kernel
theorem dX1_sets_43 : decode cX1_sets 43 = .ok (.ishl, 1) := by decide +kernel
theorem dX1_sets_44 : decode cX1_sets 44 = .ok (.if_icmp .ge 36, 3) := by decide +kernel
theorem dX1_sets_47 : decode cX1_sets 47 = .ok (.aload_n 0, 1) := by decide +kernel
theorem dX1_sets_48 : decode cX1_sets 48 = .ok (.getfield 33, 3) := by decide +kernel
theorem dX1_sets_51 : decode cX1_sets 51 = .ok (.iload 4, 2) := by decide +kernel
theorem dX1_sets_53 : decode cX1_sets 53 = .ok (.invokevirtual 206, 3) := by decide +kernel
theorem dX1_sets_56 : decode cX1_sets 56 = .ok (.iload_n 1, 1) := by decide +kernel
theorem dX1_sets_57 : decode cX1_sets 57 = .ok (.if_icmp .ne 17, 3) := by decide +kernel
theorem dX1_sets_60 : decode cX1_sets 60 = .ok (.iload_n 2, 1) := by decide +kernel
theorem dX1_sets_61 : decode cX1_sets 61 = .ok (.ifCond .ne 8, 3) := by decide +kernel
theorem dX1_sets_64 : decode cX1_sets 64 = .ok (.iload 4, 2) := by decide +kernel
theorem dX1_sets_66 : decode cX1_sets 66 = .ok (.goto 4, 3) := by decide +kernel
theorem dX1_sets_69 : decode cX1_sets 69 = .ok (.iload_n 3, 1) := by decide +kernel
theorem dX1_sets_70 : decode cX1_sets 70 = .ok (.istore_n 3, 1) := by decide +kernel
theorem dX1_sets_71 : decode cX1_sets 71 = .ok (.iinc 2 1, 3) := by decide +kernel
theorem dX1_sets_74 : decode cX1_sets 74 = .ok (.iinc 4 1, 3) := by decide +kernel
theorem dX1_sets_77 : decode cX1_sets 77 = .ok (.goto (-44), 3) := by decide +kernel
theorem dX1_sets_80 : decode cX1_sets 80 = .ok (.aload_n 0, 1) := by decide +kernel
theorem dX1_sets_81 : decode cX1_sets 81 = .ok (.iload_n 2, 1) := by decide +kernel
theorem dX1_sets_82 : decode cX1_sets 82 = .ok (.i2l, 1) := by decide +kernel
theorem dX1_sets_83 : decode cX1_sets 83 = .ok (.lconst 1, 1) := by decide +kernel
theorem dX1_sets_84 : decode cX1_sets 84 = .ok (.invokevirtual 209, 3) := by decide +kernel
theorem dX1_sets_87 : decode cX1_sets 87 = .ok (.aload_n 0, 1) := by decide +kernel
theorem dX1_sets_88 : decode cX1_sets 88 = .ok (.iload_n 3, 1) := by decide +kernel
theorem dX1_sets_89 : decode cX1_sets 89 = .ok (.invokevirtual 99, 3) := by decide +kernel
theorem dX1_sets_92 : decode cX1_sets 92 = .ok (.ireturn, 1) := by decide +kernel
theorem dX1_sure_0 : decode cX1_sure 0 = .ok (.iload_n 1, 1) := by decide +kernel
theorem dX1_sure_1 : decode cX1_sure 1 = .ok (.iconst 0, 1) := by decide +kernel
theorem dX1_sure_2 : decode cX1_sure 2 = .ok (.bipush 120, 2) := by decide +kernel
theorem dX1_sure_4 : decode cX1_sure 4 = .ok (.invokestatic 128, 3) := by decide +kernel
theorem dX1_sure_7 : decode cX1_sure 7 = .ok (.ifCond .ne 5, 3) := by decide +kernel
theorem dX1_sure_10 : decode cX1_sure 10 = .ok (.iconst (-1), 1) := by decide +kernel
theorem dX1_sure_11 : decode cX1_sure 11 = .ok (.ireturn, 1) := by decide +kernel
theorem dX1_sure_12 : decode cX1_sure 12 = .ok (.aload_n 0, 1) := by decide +kernel
theorem dX1_sure_13 : decode cX1_sure 13 = .ok (.getfield 33, 3) := by decide +kernel
theorem dX1_sure_16 : decode cX1_sure 16 = .ok (.getfield 122, 3) := by decide +kernel
theorem dX1_sure_19 : decode cX1_sure 19 = .ok (.ifCond .ne 6, 3) := by decide +kernel
theorem dX1_sure_22 : decode cX1_sure 22 = .ok (.bipush (-4), 2) := by decide +kernel
theorem dX1_sure_24 : decode cX1_sure 24 = .ok (.ireturn, 1) := by decide +kernel
theorem dX1_sure_25 : decode cX1_sure 25 = .ok (.iconst 1, 1) := by decide +kernel
theorem dX1_sure_26 : decode cX1_sure 26 = .ok (.aload_n 0, 1) := by decide +kernel
theorem dX1_sure_27 : decode cX1_sure 27 = .ok (.getfield 33, 3) := by decide +kernel
theorem dX1_sure_30 : decode cX1_sure 30 = .ok (.getfield 122, 3) := by decide +kernel
theorem dX1_sure_33 : decode cX1_sure 33 = .ok (.ishl, 1) := by decide +kernel
theorem dX1_sure_34 : decode cX1_sure 34 = .ok (.iconst 1, 1) := by decide +kernel
theorem dX1_sure_35 : decode cX1_sure 35 = .ok (.isub, 1) := by decide +kernel
theorem dX1_sure_36 : decode cX1_sure 36 = .ok (.istore_n 2, 1) := by decide +kernel
theorem dX1_sure_37 : decode cX1_sure 37 = .ok (.iload_n 2, 1) := by decide +kernel
theorem dX1_sure_38 : decode cX1_sure 38 = .ok (.istore_n 3, 1) := by decide +kernel
theorem dX1_sure_39 : decode cX1_sure 39 = .ok (.iconst 0, 1) := by decide +kernel
theorem dX1_sure_40 : decode cX1_sure 40 = .ok (.istore 4, 2) := by decide +kernel
theorem dX1_sure_42 : decode cX1_sure 42 = .ok (.iconst 1, 1) := by decide +kernel
theorem dX1_sure_43 : decode cX1_sure 43 = .ok (.istore 5, 2) := by decide +kernel
theorem dX1_sure_45 : decode cX1_sure 45 = .ok (.iconst 0, 1) := by decide +kernel
theorem dX1_sure_46 : decode cX1_sure 46 = .ok (.istore 6, 2) := by decide +kernel
theorem dX1_sure_48 : decode cX1_sure 48 = .ok (.iload 6, 2) := by decide +kernel
theorem dX1_sure_50 : decode cX1_sure 50 = .ok (.iload_n 2, 1) := by decide +kernel
theorem dX1_sure_51 : decode cX1_sure 51 = .ok (.if_icmp .gt 37, 3) := by decide +kernel
theorem dX1_sure_54 : decode cX1_sure 54 = .ok (.aload_n 0, 1) := by decide +kernel
theorem dX1_sure_55 : decode cX1_sure 55 = .ok (.getfield 33, 3) := by decide +kernel
theorem dX1_sure_58 : decode cX1_sure 58 = .ok (.iload 6, 2) := by decide +kernel
theorem dX1_sure_60 : decode cX1_sure 60 = .ok (.invokevirtual 206, 3) := by decide +kernel
theorem dX1_sure_63 : decode cX1_sure 63 = .ok (.iload_n 1, 1) := by decide +kernel
theorem dX1_sure_64 : decode cX1_sure 64 = .ok (.if_icmp .ne 18, 3) := by decide +kernel
theorem dX1_sure_67 : decode cX1_sure 67 = .ok (.iload_n 3, 1) := by decide +kernel
theorem dX1_sure_68 : decode cX1_sure 68 = .ok (.iload 6, 2) := by decide +kernel
theorem dX1_sure_70 : decode cX1_sure 70 = .ok (.iand, 1) := by decide +kernel
theorem dX1_sure_71 : decode cX1_sure 71 = .ok (.istore_n 3, 1) := by decide +kernel
theorem dX1_sure_72 : decode cX1_sure 72 = .ok (.iload 4, 2) := by decide +kernel
theorem dX1_sure_74 : decode cX1_sure 74 = .ok (.iload 6, 2) := by decide +kernel
theorem dX1_sure_76 : decode cX1_sure 76 = .ok (.ior, 1) := by decide +kernel
theorem dX1_sure_77 : decode cX1_sure 77 = .ok (.istore 4, 2) := by decide +kernel
theorem dX1_sure_79 : decode cX1_sure 79 = .ok (.iconst 0, 1) := by decide +kernel
theorem dX1_sure_80 : decode cX1_sure 80 = .ok (.istore 5, 2) := by decide +kernel
theorem dX1_sure_82 : decode cX1_sure 82 = .ok (.iinc 6 1, 3) := by decide +kernel
theorem dX1_sure_85 : decode cX1_sure 85 = .ok (.goto (-37), 3) := by decide +kernel
theorem dX1_sure_88 : decode cX1_sure 88 = .ok (.iload 5, 2) := by decide +kernel
theorem dX1_sure_90 : decode cX1_sure 90 = .ok (.ifCond .eq 9, 3) := by decide +kernel
theorem dX1_sure_93 : decode cX1_sure 93 = .ok (.aload_n 0, 1) := by decide +kernel
theorem dX1_sure_94 : decode cX1_sure 94 = .ok (.iconst 4, 1) := by decide +kernel
theorem dX1_sure_95 : decode cX1_sure 95 = .ok (.invokevirtual 87, 3) := by decide +kernel
theorem dX1_sure_98 : decode cX1_sure 98 = .ok (.ireturn, 1) := by decide +kernel
theorem dX1_sure_99 : decode cX1_sure 99 = .ok (.aload_n 0, 1) := by decide +kernel
theorem dX1_sure_100 : decode cX1_sure 100 = .ok (.iload_n 2, 1) := by decide +kernel
theorem dX1_sure_101 : decode cX1_sure 101 = .ok (.iload 4, 2) := by decide +kernel
theorem dX1_sure_103 : decode cX1_sure 103 = .ok (.iconst (-1), 1) := by decide +kernel
theorem dX1_sure_104 : decode cX1_sure 104 = .ok (.ixor, 1) := by decide +kernel
theorem dX1_sure_105 : decode cX1_sure 105 = .ok (.iand, 1) := by decide +kernel
theorem dX1_sure_106 : decode cX1_sure 106 = .ok (.invokevirtual 99, 3) := by decide +kernel
theorem dX1_sure_109 : decode cX1_sure 109 = .ok (.pop, 1) := by decide +kernel
theorem dX1_sure_110 : decode cX1_sure 110 = .ok (.iload_n 3, 1) := by decide +kernel
theorem dX1_sure_111 : decode cX1_sure 111 = .ok (.ireturn, 1) := by decide +kernel
theorem dX1_outcome_0 : decode cX1_outcome 0 = .ok (.iload_n 3, 1) := by decide +kernel
theorem dX1_outcome_1 : decode cX1_outcome 1 = .ok (.ifCond .gt 32, 3) := by decide +kernel
theorem dX1_outcome_4 : decode cX1_outcome 4 = .ok (.aload_n 0, 1) := by decide +kernel
theorem dX1_outcome_5 : decode cX1_outcome 5 = .ok (.iconst 0, 1) := by decide +kernel
theorem dX1_outcome_6 : decode cX1_outcome 6 = .ok (.invokevirtual 145, 3) := by decide +kernel
theorem dX1_outcome_9 : decode cX1_outcome 9 = .ok (.istore 4, 2) := by decide +kernel
theorem dX1_outcome_11 : decode cX1_outcome 11 = .ok (.iload 4, 2) := by decide +kernel
theorem dX1_outcome_13 : decode cX1_outcome 13 = .ok (.iload_n 1, 1) := by decide +kernel
theorem dX1_outcome_14 : decode cX1_outcome 14 = .ok (.if_icmp .ne 7, 3) := by decide +kernel
theorem dX1_outcome_17 : decode cX1_outcome 17 = .ok (.iconst 1, 1) := by decide +kernel
theorem dX1_outcome_18 : decode cX1_outcome 18 = .ok (.goto 14, 3) := by decide +kernel
theorem dX1_outcome_21 : decode cX1_outcome 21 = .ok (.iload 4, 2) := by decide +kernel
theorem dX1_outcome_23 : decode cX1_outcome 23 = .ok (.iload_n 2, 1) := by decide +kernel
theorem dX1_outcome_24 : decode cX1_outcome 24 = .ok (.if_icmp .ne 7, 3) := by decide +kernel
theorem dX1_outcome_27 : decode cX1_outcome 27 = .ok (.iconst (-1), 1) := by decide +kernel
theorem dX1_outcome_28 : decode cX1_outcome 28 = .ok (.goto 4, 3) := by decide +kernel
theorem dX1_outcome_31 : decode cX1_outcome 31 = .ok (.iconst 0, 1) := by decide +kernel
theorem dX1_outcome_32 : decode cX1_outcome 32 = .ok (.ireturn, 1) := by decide +kernel
theorem dX1_outcome_33 : decode cX1_outcome 33 = .ok (.iload_n 3, 1) := by decide +kernel
theorem dX1_outcome_34 : decode cX1_outcome 34 = .ok (.iconst 2, 1) := by decide +kernel
theorem dX1_outcome_35 : decode cX1_outcome 35 = .ok (.irem, 1) := by decide +kernel
theorem dX1_outcome_36 : decode cX1_outcome 36 = .ok (.ifCond .ne 7, 3) := by decide +kernel
theorem dX1_outcome_39 : decode cX1_outcome 39 = .ok (.iconst 1, 1) := by decide +kernel
theorem dX1_outcome_40 : decode cX1_outcome 40 = .ok (.goto 4, 3) := by decide +kernel
theorem dX1_outcome_43 : decode cX1_outcome 43 = .ok (.iconst 0, 1) := by decide +kernel
theorem dX1_outcome_44 : decode cX1_outcome 44 = .ok (.istore 4, 2) := by decide +kernel
theorem dX1_outcome_46 : decode cX1_outcome 46 = .ok (.iload 4, 2) := by decide +kernel
theorem dX1_outcome_48 : decode cX1_outcome 48 = .ok (.ifCond .eq 7, 3) := by decide +kernel
theorem dX1_outcome_51 : decode cX1_outcome 51 = .ok (.iload_n 1, 1) := by decide +kernel
theorem dX1_outcome_52 : decode cX1_outcome 52 = .ok (.goto 4, 3) := by decide +kernel
theorem dX1_outcome_55 : decode cX1_outcome 55 = .ok (.iload_n 2, 1) := by decide +kernel
theorem dX1_outcome_56 : decode cX1_outcome 56 = .ok (.istore 5, 2) := by decide +kernel
theorem dX1_outcome_58 : decode cX1_outcome 58 = .ok (.aload_n 0, 1) := by decide +kernel
theorem dX1_outcome_59 : decode cX1_outcome 59 = .ok (.getfield 156, 3) := by decide +kernel
theorem dX1_outcome_62 : decode cX1_outcome 62 = .ok (.iload 5, 2) := by decide +kernel
theorem dX1_outcome_64 : decode cX1_outcome 64 = .ok (.iaload, 1) := by decide +kernel
theorem dX1_outcome_65 : decode cX1_outcome 65 = .ok (.istore 6, 2) := by decide +kernel
theorem dX1_outcome_67 : decode cX1_outcome 67 = .ok (.iload 4, 2) := by decide +kernel
theorem dX1_outcome_69 : decode cX1_outcome 69 = .ok (.ifCond .eq 7, 3) := by decide +kernel
theorem dX1_outcome_72 : decode cX1_outcome 72 = .ok (.iconst (-1), 1) := by decide +kernel
theorem dX1_outcome_73 : decode cX1_outcome 73 = .ok (.goto 4, 3) := by decide +kernel
theorem dX1_outcome_76 : decode cX1_outcome 76 = .ok (.iconst 1, 1) := by decide +kernel
theorem dX1_outcome_77 : decode cX1_outcome 77 = .ok (.istore 7, 2) := by decide +kernel
theorem dX1_outcome_79 : decode cX1_outcome 79 = .ok (.iconst 0, 1) := by decide +kernel
theorem dX1_outcome_80 : decode cX1_outcome 80 = .ok (.istore 8, 2) := by decide +kernel
theorem dX1_outcome_82 : decode cX1_outcome 82 = .ok (.iload 8, 2) := by decide +kernel
theorem dX1_outcome_84 : decode cX1_outcome 84 = .ok (.iconst 2, 1) := by decide +kernel
theorem dX1_outcome_85 : decode cX1_outcome 85 = .ok (.if_icmp .gt 61, 3) := by decide +kernel
theorem dX1_outcome_88 : decode cX1_outcome 88 = .ok (.aload_n 0, 1) := by decide +kernel
theorem dX1_outcome_89 : decode cX1_outcome 89 = .ok (.getfield 156, 3) := by decide +kernel
theorem dX1_outcome_92 : decode cX1_outcome 92 = .ok (.iload 5, 2) := by decide +kernel
theorem dX1_outcome_94 : decode cX1_outcome 94 = .ok (.bipush 20, 2) := by decide +kernel
theorem dX1_outcome_96 : decode cX1_outcome 96 = .ok (.iload 6, 2) := by decide +kernel
theorem dX1_outcome_98 : decode cX1_outcome 98 = .ok (.iload 8, 2) := by decide +kernel
theorem dX1_outcome_100 : decode cX1_outcome 100 = .ok (.iadd, 1) := by decide +kernel
theorem dX1_outcome_101 : decode cX1_outcome 101 = .ok (.invokestatic 308, 3) := by decide +kernel
theorem dX1_outcome_104 : decode cX1_outcome 104 = .ok (.iastore, 1) := by decide +kernel
theorem dX1_outcome_105 : decode cX1_outcome 105 = .ok (.aload_n 0, 1) := by decide +kernel
theorem dX1_outcome_106 : decode cX1_outcome 106 = .ok (.iload_n 1, 1) := by decide +kernel
theorem dX1_outcome_107 : decode cX1_outcome 107 = .ok (.iload_n 2, 1) := by decide +kernel
theorem dX1_outcome_108 : decode cX1_outcome 108 = .ok (.iload_n 3, 1) := by decide +kernel
theorem dX1_outcome_109 : decode cX1_outcome 109 = .ok (.iconst 1, 1) := by decide +kernel
theorem dX1_outcome_110 : decode cX1_outcome 110 = .ok (.isub, 1) := by decide +kernel
theorem dX1_outcome_111 : decode cX1_outcome 111 = .ok (.invokestatic 213, 3) := by decide +kernel
theorem dX1_outcome_114 : decode cX1_outcome 114 = .ok (.istore 9, 2) := by decide +kernel
theorem dX1_outcome_116 : decode cX1_outcome 116 = .ok (.iload 4, 2) := by decide +kernel
theorem dX1_outcome_118 : decode cX1_outcome 118 = .ok (.ifCond .eq 13, 3) := by decide +kernel
theorem dX1_outcome_121 : decode cX1_outcome 121 = .ok (.iload 7, 2) := by decide +kernel
theorem dX1_outcome_123 : decode cX1_outcome 123 = .ok (.iload 9, 2) := by decide +kernel
theorem dX1_outcome_125 : decode cX1_outcome 125 = .ok (.invokestatic 288, 3) := by decide +kernel
theorem dX1_outcome_128 : decode cX1_outcome 128 = .ok (.goto 10, 3) := by decide +kernel
theorem dX1_outcome_131 : decode cX1_outcome 131 = .ok (.iload 7, 2) := by decide +kernel
theorem dX1_outcome_133 : decode cX1_outcome 133 = .ok (.iload 9, 2) := by decide +kernel
theorem dX1_outcome_135 : decode cX1_outcome 135 = .ok (.invokestatic 308, 3) := by decide +kernel
theorem dX1_outcome_138 : decode cX1_outcome 138 = .ok (.istore 7, 2) := by decide +kernel
theorem dX1_outcome_140 : decode cX1_outcome 140 = .ok (.iinc 8 1, 3) := by decide +kernel
theorem dX1_outcome_143 : decode cX1_outcome 143 = .ok (.goto (-61), 3) := by decide +kernel
theorem dX1_outcome_146 : decode cX1_outcome 146 = .ok (.aload_n 0, 1) := by decide +kernel
theorem dX1_outcome_147 : decode cX1_outcome 147 = .ok (.getfield 156, 3) := by decide +kernel
theorem dX1_outcome_150 : decode cX1_outcome 150 = .ok (.iload 5, 2) := by decide +kernel
theorem dX1_outcome_152 : decode cX1_outcome 152 = .ok (.iload 6, 2) := by decide +kernel
theorem dX1_outcome_154 : decode cX1_outcome 154 = .ok (.iastore, 1) := by decide +kernel
theorem dX1_outcome_155 : decode cX1_outcome 155 = .ok (.iload 7, 2) := by decide +kernel
theorem dX1_outcome_157 : decode cX1_outcome 157 = .ok (.ireturn, 1) := by decide +kernel
theorem dX1_duel_0 : decode cX1_duel 0 = .ok (.aload_n 0, 1) := by decide +kernel
theorem dX1_duel_1 : decode cX1_duel 1 = .ok (.getfield 33, 3) := by decide +kernel
theorem dX1_duel_4 : decode cX1_duel 4 = .ok (.iload_n 1, 1) := by decide +kernel
theorem dX1_duel_5 : decode cX1_duel 5 = .ok (.invokevirtual 125, 3) := by decide +kernel
theorem dX1_duel_8 : decode cX1_duel 8 = .ok (.ifCond .eq 28, 3) := by decide +kernel
theorem dX1_duel_11 : decode cX1_duel 11 = .ok (.aload_n 0, 1) := by decide +kernel
theorem dX1_duel_12 : decode cX1_duel 12 = .ok (.getfield 33, 3) := by decide +kernel
theorem dX1_duel_15 : decode cX1_duel 15 = .ok (.iload_n 2, 1) := by decide +kernel
theorem dX1_duel_16 : decode cX1_duel 16 = .ok (.invokevirtual 125, 3) := by decide +kernel
theorem dX1_duel_19 : decode cX1_duel 19 = .ok (.ifCond .eq 17, 3) := by decide +kernel
theorem dX1_duel_22 : decode cX1_duel 22 = .ok (.iload_n 1, 1) := by decide +kernel
theorem dX1_duel_23 : decode cX1_duel 23 = .ok (.iload_n 2, 1) := by decide +kernel
theorem dX1_duel_24 : decode cX1_duel 24 = .ok (.if_icmp .eq 12, 3) := by decide +kernel
theorem dX1_duel_27 : decode cX1_duel 27 = .ok (.iload_n 3, 1) := by decide +kernel
theorem dX1_duel_28 : decode cX1_duel 28 = .ok (.iconst 0, 1) := by decide +kernel
theorem dX1_duel_29 : decode cX1_duel 29 = .ok (.iconst 3, 1) := by decide +kernel
theorem dX1_duel_30 : decode cX1_duel 30 = .ok (.invokestatic 128, 3) := by decide +kernel
theorem dX1_duel_33 : decode cX1_duel 33 = .ok (.ifCond .ne 5, 3) := by decide +kernel
theorem dX1_duel_36 : decode cX1_duel 36 = .ok (.iconst (-1), 1) := by decide +kernel
theorem dX1_duel_37 : decode cX1_duel 37 = .ok (.ireturn, 1) := by decide +kernel
theorem dX1_duel_38 : decode cX1_duel 38 = .ok (.aload_n 0, 1) := by decide +kernel
theorem dX1_duel_39 : decode cX1_duel 39 = .ok (.getfield 36, 3) := by decide +kernel
theorem dX1_duel_42 : decode cX1_duel 42 = .ok (.aload_n 0, 1) := by decide +kernel
theorem dX1_duel_43 : decode cX1_duel 43 = .ok (.getfield 33, 3) := by decide +kernel
theorem dX1_duel_46 : decode cX1_duel 46 = .ok (.invokevirtual 118, 3) := by decide +kernel
theorem dX1_duel_49 : decode cX1_duel 49 = .ok (.aload_n 0, 1) := by decide +kernel
theorem dX1_duel_50 : decode cX1_duel 50 = .ok (.aload_n 0, 1) := by decide +kernel
theorem dX1_duel_51 : decode cX1_duel 51 = .ok (.getfield 36, 3) := by decide +kernel
theorem dX1_duel_54 : decode cX1_duel 54 = .ok (.iload_n 1, 1) := by decide +kernel
theorem dX1_duel_55 : decode cX1_duel 55 = .ok (.iload_n 2, 1) := by decide +kernel
theorem dX1_duel_56 : decode cX1_duel 56 = .ok (.iconst 2, 1) := by decide +kernel
theorem dX1_duel_57 : decode cX1_duel 57 = .ok (.iload_n 3, 1) := by decide +kernel
theorem dX1_duel_58 : decode cX1_duel 58 = .ok (.imul, 1) := by decide +kernel
theorem dX1_duel_59 : decode cX1_duel 59 = .ok (.invokestatic 213, 3) := by decide +kernel
theorem dX1_duel_62 : decode cX1_duel 62 = .ok (.invokevirtual 99, 3) := by decide +kernel
theorem dX1_duel_65 : decode cX1_duel 65 = .ok (.ireturn, 1) := by decide +kernel
theorem dX1_allWeight_0 : decode cX1_allWeight 0 = .ok (.iconst 1, 1) := by decide +kernel
theorem dX1_allWeight_1 : decode cX1_allWeight 1 = .ok (.istore_n 1, 1) := by decide +kernel
theorem dX1_allWeight_2 : decode cX1_allWeight 2 = .ok (.iconst 0, 1) := by decide +kernel
theorem dX1_allWeight_3 : decode cX1_allWeight 3 = .ok (.istore_n 2, 1) := by decide +kernel
theorem dX1_allWeight_4 : decode cX1_allWeight 4 = .ok (.iload_n 2, 1) := by decide +kernel
theorem dX1_allWeight_5 : decode cX1_allWeight 5 = .ok (.aload_n 0, 1) := by decide +kernel
theorem dX1_allWeight_6 : decode cX1_allWeight 6 = .ok (.getfield 33, 3) := by decide +kernel
theorem dX1_allWeight_9 : decode cX1_allWeight 9 = .ok (.getfield 122, 3) := by decide +kernel
theorem dX1_allWeight_12 : decode cX1_allWeight 12 = .ok (.if_icmp .ge 14, 3) := by decide +kernel
theorem dX1_allWeight_15 : decode cX1_allWeight 15 = .ok (.iload_n 1, 1) := by decide +kernel
theorem dX1_allWeight_16 : decode cX1_allWeight 16 = .ok (.bipush 12, 2) := by decide +kernel
theorem dX1_allWeight_18 : decode cX1_allWeight 18 = .ok (.imul, 1) := by decide +kernel
theorem dX1_allWeight_19 : decode cX1_allWeight 19 = .ok (.istore_n 1, 1) := by decide +kernel
theorem dX1_allWeight_20 : decode cX1_allWeight 20 = .ok (.iinc 2 1, 3) := by decide +kernel
theorem dX1_allWeight_23 : decode cX1_allWeight 23 = .ok (.goto (-19), 3) := by decide +kernel
theorem dX1_allWeight_26 : decode cX1_allWeight 26 = .ok (.iload_n 1, 1) := by decide +kernel
theorem dX1_allWeight_27 : decode cX1_allWeight 27 = .ok (.ireturn, 1) := by decide +kernel
theorem dX1_weigh_0 : decode cX1_weigh 0 = .ok (.aload_n 0, 1) := by decide +kernel
theorem dX1_weigh_1 : decode cX1_weigh 1 = .ok (.getfield 71, 3) := by decide +kernel
theorem dX1_weigh_4 : decode cX1_weigh 4 = .ok (.iconst 0, 1) := by decide +kernel
theorem dX1_weigh_5 : decode cX1_weigh 5 = .ok (.invokestatic 77, 3) := by decide +kernel
theorem dX1_weigh_8 : decode cX1_weigh 8 = .ok (.iconst 0, 1) := by decide +kernel
theorem dX1_weigh_9 : decode cX1_weigh 9 = .ok (.istore_n 2, 1) := by decide +kernel
theorem dX1_weigh_10 : decode cX1_weigh 10 = .ok (.iload_n 2, 1) := by decide +kernel
theorem dX1_weigh_11 : decode cX1_weigh 11 = .ok (.iconst 1, 1) := by decide +kernel
theorem dX1_weigh_12 : decode cX1_weigh 12 = .ok (.aload_n 0, 1) := by decide +kernel
theorem dX1_weigh_13 : decode cX1_weigh 13 = .ok (.getfield 33, 3) := by decide +kernel
theorem dX1_weigh_16 : decode cX1_weigh 16 = .ok (.getfield 122, 3) := by decide +kernel
theorem dX1_weigh_19 : decode cX1_weigh 19 = .ok (.ishl, 1) := by decide +kernel
theorem dX1_weigh_20 : decode cX1_weigh 20 = .ok (.if_icmp .ge 72, 3) := by decide +kernel
theorem dX1_weigh_23 : decode cX1_weigh 23 = .ok (.iconst 1, 1) := by decide +kernel
theorem dX1_weigh_24 : decode cX1_weigh 24 = .ok (.istore_n 3, 1) := by decide +kernel
theorem dX1_weigh_25 : decode cX1_weigh 25 = .ok (.iconst 0, 1) := by decide +kernel
theorem dX1_weigh_26 : decode cX1_weigh 26 = .ok (.istore 4, 2) := by decide +kernel
theorem dX1_weigh_28 : decode cX1_weigh 28 = .ok (.iload 4, 2) := by decide +kernel
theorem dX1_weigh_30 : decode cX1_weigh 30 = .ok (.aload_n 0, 1) := by decide +kernel
theorem dX1_weigh_31 : decode cX1_weigh 31 = .ok (.getfield 33, 3) := by decide +kernel
theorem dX1_weigh_34 : decode cX1_weigh 34 = .ok (.getfield 122, 3) := by decide +kernel
theorem dX1_weigh_37 : decode cX1_weigh 37 = .ok (.if_icmp .ge 29, 3) := by decide +kernel
theorem dX1_weigh_40 : decode cX1_weigh 40 = .ok (.iload_n 3, 1) := by decide +kernel
theorem dX1_weigh_41 : decode cX1_weigh 41 = .ok (.iload_n 2, 1) := by decide +kernel
theorem dX1_weigh_42 : decode cX1_weigh 42 = .ok (.iload 4, 2) := by decide +kernel
theorem dX1_weigh_44 : decode cX1_weigh 44 = .ok (.ishr, 1) := by decide +kernel
theorem dX1_weigh_45 : decode cX1_weigh 45 = .ok (.iconst 1, 1) := by decide +kernel
theorem dX1_weigh_46 : decode cX1_weigh 46 = .ok (.iand, 1) := by decide +kernel
theorem dX1_weigh_47 : decode cX1_weigh 47 = .ok (.ifCond .eq 7, 3) := by decide +kernel
theorem dX1_weigh_50 : decode cX1_weigh 50 = .ok (.iload_n 1, 1) := by decide +kernel
theorem dX1_weigh_51 : decode cX1_weigh 51 = .ok (.goto 7, 3) := by decide +kernel
theorem dX1_weigh_54 : decode cX1_weigh 54 = .ok (.bipush 12, 2) := by decide +kernel
theorem dX1_weigh_56 : decode cX1_weigh 56 = .ok (.iload_n 1, 1) := by decide +kernel
theorem dX1_weigh_57 : decode cX1_weigh 57 = .ok (.isub, 1) := by decide +kernel
theorem dX1_weigh_58 : decode cX1_weigh 58 = .ok (.imul, 1) := by decide +kernel
theorem dX1_weigh_59 : decode cX1_weigh 59 = .ok (.istore_n 3, 1) := by decide +kernel
theorem dX1_weigh_60 : decode cX1_weigh 60 = .ok (.iinc 4 1, 3) := by decide +kernel
theorem dX1_weigh_63 : decode cX1_weigh 63 = .ok (.goto (-35), 3) := by decide +kernel
theorem dX1_weigh_66 : decode cX1_weigh 66 = .ok (.aload_n 0, 1) := by decide +kernel
theorem dX1_weigh_67 : decode cX1_weigh 67 = .ok (.getfield 71, 3) := by decide +kernel
theorem dX1_weigh_70 : decode cX1_weigh 70 = .ok (.aload_n 0, 1) := by decide +kernel
theorem dX1_weigh_71 : decode cX1_weigh 71 = .ok (.getfield 33, 3) := by decide +kernel
theorem dX1_weigh_74 : decode cX1_weigh 74 = .ok (.iload_n 2, 1) := by decide +kernel
theorem dX1_weigh_75 : decode cX1_weigh 75 = .ok (.invokevirtual 145, 3) := by decide +kernel
theorem dX1_weigh_78 : decode cX1_weigh 78 = .ok (.invokestatic 296, 3) := by decide +kernel
theorem dX1_weigh_81 : decode cX1_weigh 81 = .ok (.dup2, 1) := by decide +kernel
theorem dX1_weigh_82 : decode cX1_weigh 82 = .ok (.iaload, 1) := by decide +kernel
theorem dX1_weigh_83 : decode cX1_weigh 83 = .ok (.iload_n 3, 1) := by decide +kernel
theorem dX1_weigh_84 : decode cX1_weigh 84 = .ok (.iadd, 1) := by decide +kernel
theorem dX1_weigh_85 : decode cX1_weigh 85 = .ok (.iastore, 1) := by decide +kernel
theorem dX1_weigh_86 : decode cX1_weigh 86 = .ok (.iinc 2 1, 3) := by decide +kernel
theorem dX1_weigh_89 : decode cX1_weigh 89 = .ok (.goto (-79), 3) := by decide +kernel
theorem dX1_weigh_92 : decode cX1_weigh 92 = .ok (.return_, 1) := by decide +kernel
theorem dX1_odds_0 : decode cX1_odds 0 = .ok (.aload_n 0, 1) := by decide +kernel
theorem dX1_odds_1 : decode cX1_odds 1 = .ok (.getfield 33, 3) := by decide +kernel
theorem dX1_odds_4 : decode cX1_odds 4 = .ok (.iload_n 1, 1) := by decide +kernel
theorem dX1_odds_5 : decode cX1_odds 5 = .ok (.invokevirtual 125, 3) := by decide +kernel
theorem dX1_odds_8 : decode cX1_odds 8 = .ok (.ifCond .eq 13, 3) := by decide +kernel
theorem dX1_odds_11 : decode cX1_odds 11 = .ok (.iload_n 2, 1) := by decide +kernel
theorem dX1_odds_12 : decode cX1_odds 12 = .ok (.iconst 0, 1) := by decide +kernel
theorem dX1_odds_13 : decode cX1_odds 13 = .ok (.bipush 12, 2) := by decide +kernel
theorem dX1_odds_15 : decode cX1_odds 15 = .ok (.invokestatic 128, 3) := by decide +kernel
theorem dX1_odds_18 : decode cX1_odds 18 = .ok (.ifCond .ne 5, 3) := by decide +kernel
theorem dX1_odds_21 : decode cX1_odds 21 = .ok (.iconst (-1), 1) := by decide +kernel
theorem dX1_odds_22 : decode cX1_odds 22 = .ok (.ireturn, 1) := by decide +kernel
theorem dX1_odds_23 : decode cX1_odds 23 = .ok (.aload_n 0, 1) := by decide +kernel
theorem dX1_odds_24 : decode cX1_odds 24 = .ok (.iload_n 2, 1) := by decide +kernel
theorem dX1_odds_25 : decode cX1_odds 25 = .ok (.invokevirtual 217, 3) := by decide +kernel
theorem dX1_odds_28 : decode cX1_odds 28 = .ok (.aload_n 0, 1) := by decide +kernel
theorem dX1_odds_29 : decode cX1_odds 29 = .ok (.aload_n 0, 1) := by decide +kernel
theorem dX1_odds_30 : decode cX1_odds 30 = .ok (.getfield 71, 3) := by decide +kernel
theorem dX1_odds_33 : decode cX1_odds 33 = .ok (.iload_n 1, 1) := by decide +kernel
theorem dX1_odds_34 : decode cX1_odds 34 = .ok (.iaload, 1) := by decide +kernel
theorem dX1_odds_35 : decode cX1_odds 35 = .ok (.i2l, 1) := by decide +kernel
theorem dX1_odds_36 : decode cX1_odds 36 = .ok (.aload_n 0, 1) := by decide +kernel
theorem dX1_odds_37 : decode cX1_odds 37 = .ok (.invokevirtual 220, 3) := by decide +kernel
theorem dX1_odds_40 : decode cX1_odds 40 = .ok (.i2l, 1) := by decide +kernel
theorem dX1_odds_41 : decode cX1_odds 41 = .ok (.invokevirtual 209, 3) := by decide +kernel
theorem dX1_odds_44 : decode cX1_odds 44 = .ok (.iconst 1, 1) := by decide +kernel
theorem dX1_odds_45 : decode cX1_odds 45 = .ok (.ireturn, 1) := by decide +kernel
theorem mt_X1_countParts : (Cond.instanceMethod yX1_countParts ∈ gd_tbl ∧ Cond.selects yX1_countParts.cls yX1_countParts yX1_countParts ∈ gd_tbl) ∧ Cond.initialized yX1_countParts.cls ∈ gd_tbl ∧ Cond.code yX1_countParts cX1_countParts 5 (none) ∈ gd_tbl := ⟨⟨in_gd (i := 489) (by decide +kernel) rfl, in_gd (i := 27) (by decide +kernel) rfl⟩, in_gd (i := 84) (by decide +kernel) rfl, in_gd (i := 490) (by decide +kernel) rfl⟩
theorem yo_X1_countParts : yOk yX1_countParts 2 := ⟨by decide, by decide, by decide +kernel⟩
theorem l_X1_200 : mlV RX1 200 yX1_countParts cX1_countParts 5 (none) := ⟨in_gd (i := 487) (by decide +kernel) rfl, mt_X1_countParts⟩
theorem mt_X1_greatestPart : (Cond.instanceMethod yX1_greatestPart ∈ gd_tbl ∧ Cond.selects yX1_greatestPart.cls yX1_greatestPart yX1_greatestPart ∈ gd_tbl) ∧ Cond.initialized yX1_greatestPart.cls ∈ gd_tbl ∧ Cond.code yX1_greatestPart cX1_greatestPart 7 (some .int) ∈ gd_tbl := ⟨⟨in_gd (i := 496) (by decide +kernel) rfl, in_gd (i := 28) (by decide +kernel) rfl⟩, in_gd (i := 84) (by decide +kernel) rfl, in_gd (i := 497) (by decide +kernel) rfl⟩
theorem yo_X1_greatestPart : yOk yX1_greatestPart 1 := ⟨by decide, by decide, by decide +kernel⟩
theorem l_X1_203 : mlV RX1 203 yX1_greatestPart cX1_greatestPart 7 (some .int) := ⟨in_gd (i := 494) (by decide +kernel) rfl, mt_X1_greatestPart⟩
theorem mt_X1_greatestDivisor : Cond.static yX1_greatestDivisor ∈ gd_tbl ∧ Cond.initialized yX1_greatestDivisor.cls ∈ gd_tbl ∧ Cond.code yX1_greatestDivisor cX1_greatestDivisor 11 (some .long) ∈ gd_tbl := ⟨in_gd (i := 511) (by decide +kernel) rfl, in_gd (i := 84) (by decide +kernel) rfl, in_gd (i := 512) (by decide +kernel) rfl⟩
theorem yo_X1_greatestDivisor : yOk yX1_greatestDivisor 2 := ⟨by decide, by decide, by decide +kernel⟩
theorem l_X1_257 : mlS RX1 257 yX1_greatestDivisor cX1_greatestDivisor 11 (some .long) := ⟨in_gd (i := 510) (by decide +kernel) rfl, mt_X1_greatestDivisor⟩
theorem fl_X1_55 : FLk RX1 55 1 12 := Or.inl (in_gd (i := 154) (by decide +kernel) rfl)
theorem fl_X1_59 : FLk RX1 59 1 13 := Or.inl (in_gd (i := 155) (by decide +kernel) rfl)
theorem mt_X1_tellRatio : (Cond.instanceMethod yX1_tellRatio ∈ gd_tbl ∧ Cond.selects yX1_tellRatio.cls yX1_tellRatio yX1_tellRatio ∈ gd_tbl) ∧ Cond.initialized yX1_tellRatio.cls ∈ gd_tbl ∧ Cond.code yX1_tellRatio cX1_tellRatio 7 (none) ∈ gd_tbl := ⟨⟨in_gd (i := 508) (by decide +kernel) rfl, in_gd (i := 30) (by decide +kernel) rfl⟩, in_gd (i := 84) (by decide +kernel) rfl, in_gd (i := 509) (by decide +kernel) rfl⟩
theorem yo_X1_tellRatio : yOk yX1_tellRatio 2 := ⟨by decide, by decide, by decide +kernel⟩
theorem l_X1_209 : mlV RX1 209 yX1_tellRatio cX1_tellRatio 7 (none) := ⟨in_gd (i := 506) (by decide +kernel) rfl, mt_X1_tellRatio⟩
theorem mt_X0_daringOf : (Cond.instanceMethod yX0_daringOf ∈ gd_tbl ∧ Cond.selects yX0_daringOf.cls yX0_daringOf yX0_daringOf ∈ gd_tbl) ∧ Cond.initialized yX0_daringOf.cls ∈ gd_tbl ∧ Cond.code yX0_daringOf cX0_daringOf 4 (some .int) ∈ gd_tbl := ⟨⟨in_gd (i := 504) (by decide +kernel) rfl, in_gd (i := 29) (by decide +kernel) rfl⟩, in_gd (i := 85) (by decide +kernel) rfl, in_gd (i := 505) (by decide +kernel) rfl⟩
theorem yo_X0_daringOf : yOk yX0_daringOf 1 := ⟨by decide, by decide, by decide +kernel⟩
theorem l_X1_206 : mlW RX1 206 yX0_daringOf cX0_daringOf 4 (some .int) "DareFord" := ⟨in_ns (i := 502) (by decide +kernel) rfl, mt_X0_daringOf⟩
theorem jl_X1_308 : Cond.methodLink RX1 308 Lib.Math.min.name ∈ gd_tbl := in_gd (i := 524) (by decide +kernel) rfl
theorem mt_X1_outcome : Cond.static yX1_outcome ∈ gd_tbl ∧ Cond.initialized yX1_outcome.cls ∈ gd_tbl ∧ Cond.code yX1_outcome cX1_outcome 10 (some .int) ∈ gd_tbl := ⟨in_gd (i := 522) (by decide +kernel) rfl, in_gd (i := 84) (by decide +kernel) rfl, in_gd (i := 523) (by decide +kernel) rfl⟩
theorem yo_X1_outcome : yOk yX1_outcome 4 := ⟨by decide, by decide, by decide +kernel⟩
theorem l_X1_213 : mlS RX1 213 yX1_outcome cX1_outcome 10 (some .int) := ⟨in_gd (i := 521) (by decide +kernel) rfl, mt_X1_outcome⟩
theorem fl_X1_71 : FLk RX1 71 1 17 := Or.inl (in_gd (i := 159) (by decide +kernel) rfl)
theorem mt_X1_weigh : (Cond.instanceMethod yX1_weigh ∈ gd_tbl ∧ Cond.selects yX1_weigh.cls yX1_weigh yX1_weigh ∈ gd_tbl) ∧ Cond.initialized yX1_weigh.cls ∈ gd_tbl ∧ Cond.code yX1_weigh cX1_weigh 5 (none) ∈ gd_tbl := ⟨⟨in_gd (i := 531) (by decide +kernel) rfl, in_gd (i := 31) (by decide +kernel) rfl⟩, in_gd (i := 84) (by decide +kernel) rfl, in_gd (i := 532) (by decide +kernel) rfl⟩
theorem yo_X1_weigh : yOk yX1_weigh 1 := ⟨by decide, by decide, by decide +kernel⟩
theorem l_X1_217 : mlV RX1 217 yX1_weigh cX1_weigh 5 (none) := ⟨in_gd (i := 529) (by decide +kernel) rfl, mt_X1_weigh⟩
theorem mt_X1_allWeight : (Cond.instanceMethod yX1_allWeight ∈ gd_tbl ∧ Cond.selects yX1_allWeight.cls yX1_allWeight yX1_allWeight ∈ gd_tbl) ∧ Cond.initialized yX1_allWeight.cls ∈ gd_tbl ∧ Cond.code yX1_allWeight cX1_allWeight 3 (some .int) ∈ gd_tbl := ⟨⟨in_gd (i := 535) (by decide +kernel) rfl, in_gd (i := 32) (by decide +kernel) rfl⟩, in_gd (i := 84) (by decide +kernel) rfl, in_gd (i := 536) (by decide +kernel) rfl⟩
theorem yo_X1_allWeight : yOk yX1_allWeight 0 := ⟨by decide, by decide, by decide +kernel⟩
theorem l_X1_220 : mlV RX1 220 yX1_allWeight cX1_allWeight 3 (some .int) := ⟨in_gd (i := 533) (by decide +kernel) rfl, mt_X1_allWeight⟩
def fX1_look_L42 (K7 : Int → Option (Int × Mem)) (μ5 : Mem) : Nat → Int → Int → Option (Int × Mem)
  | 0, _, _ => none
  | n13 + 1, x11, x12 =>
    if 20 ≤ x12 then
      K7 x11
    else
      (fX1_greatestPart x12 μ5).bind fun x14 =>
      (fX1_greatestPart x11 μ5).bind fun x15 =>
      mlet (fun (x16 : Int) =>
        mlet (w32 (x12 + 1)) fun x18 =>
        fX1_look_L42 K7 μ5 n13 x16 x18
        ) fun (K17 : Int → Option (Int × Mem)) =>
      if x15 ≤ x14 then
        K17 x11
      else
        K17 x12
def fX1_look (p1 : Int) (p2 : Int) (μ : Mem) : Option (Int × Mem) :=
  bnd2 (fX1_refusalOfHolders p1 p2 μ) fun x1 μ2 =>
  if x1 = 0 then
    bnd2 (fX1_daringsBy p1 p2 μ2) fun x3 μ4 =>
    if ¬ x3 = 0 then
      (fX1_countParts p1 x3 μ4).bind fun μ5 =>
      mlet (fun (x6 : Int) =>
        (fX1_greatestPart x6 μ5).bind fun x8 =>
        bnd2 (fX1_tell x8 μ5) fun x9 μ10 =>
        some ((w32 (x6 + 1)), μ10)
        ) fun (K7 : Int → Option (Int × Mem)) =>
      fX1_look_L42 K7 μ5 fuel 0 1
    else
      some ((-9), μ4)
  else
    some (x1, μ2)
theorem K_X1_look  (p1 : Int) (p2 : Int)  (μ : Mem) : Con yX1_look cX1_look 7 (some .int) 9 [.inr (.inr 0), .inl p1, .inl p2] μ (fX1_look p1 p2 μ) wI := by
  refine con_of (own := RX1) (by decide) rfl (Nat.le_of_ble_eq_true rfl) ?_
  show Sim cX1_look 7 RX1 (9) (some .int) wI 0 [(0, .inr (.inr 0)), (1, .inl p1), (2, .inl p2)] [] μ (fX1_look p1 p2 μ)
  unfold fX1_look
  refine S_aload_n dX1_look_0 rfl ?_
  refine S_iload_n dX1_look_1 rfl ?_
  refine S_iload_n dX1_look_2 rfl ?_
  refine S_callV_M2 dX1_look_3 [.inl p1, .inl p2] (K_X1_refusalOfHolders p1 p2 μ) l_X1_191 yo_X1_refusalOfHolders rfl rfl rfl rfl rfl (fun x1 μ2 => ?_)
  refine S_istore_n (lv' := [(3, .inl x1), (0, .inr (.inr 0)), (1, .inl p1), (2, .inl p2)]) dX1_look_6 rfl rfl ?_
  refine S_iload_n dX1_look_7 rfl ?_
  refine S_if_eq (tgt := 13) dX1_look_8 (by decide) (fun h22 => ?_) (fun h22 => ?_)
  · refine S_aload_n dX1_look_13 rfl ?_
    refine S_iload_n dX1_look_14 rfl ?_
    refine S_iload_n dX1_look_15 rfl ?_
    refine S_callV_M2 dX1_look_16 [.inl p1, .inl p2] (K_X1_daringsBy p1 p2 μ2) l_X1_194 yo_X1_daringsBy rfl rfl rfl rfl rfl (fun x3 μ4 => ?_)
    refine S_istore (lv' := [(4, .inl x3), (3, .inl x1), (0, .inr (.inr 0)), (1, .inl p1), (2, .inl p2)]) dX1_look_19 rfl rfl ?_
    refine S_iload dX1_look_21 rfl ?_
    refine S_if_ne (tgt := 29) dX1_look_23 (by decide) (fun h21 => ?_) (fun h21 => ?_)
    · refine S_aload_n dX1_look_29 rfl ?_
      refine S_iload_n dX1_look_30 rfl ?_
      refine S_iload dX1_look_31 rfl ?_
      refine S_callV_V dX1_look_33 [.inl p1, .inl x3] (K_X1_countParts p1 x3 μ4) l_X1_200 yo_X1_countParts rfl rfl rfl rfl rfl (fun μ5 => ?_)
      refine S_iconst dX1_look_36 rfl ?_
      refine S_istore (lv' := [(5, .inl 0), (4, .inl x3), (3, .inl x1), (0, .inr (.inr 0)), (1, .inl p1), (2, .inl p2)]) dX1_look_37 rfl rfl ?_
      refine S_iconst dX1_look_39 rfl ?_
      refine S_istore (lv' := [(6, .inl 1), (5, .inl 0), (4, .inl x3), (3, .inl x1), (0, .inr (.inr 0)), (1, .inl p1), (2, .inl p2)]) dX1_look_40 rfl rfl ?_
      refine S_jn (fun (K7 : Int → Option (Int × Mem)) => ∀ (x6 : Int), Sim cX1_look 7 RX1 (9) (some .int) wI 74 [(0, .inr (.inr 0)), (5, .inl x6)] [] μ5 (K7 x6)) ?_ (fun K7 hK7 => ?_)
      · intro x6
        refine S_aload_n dX1_look_74 rfl ?_
        refine S_aload_n dX1_look_75 rfl ?_
        refine S_iload dX1_look_76 rfl ?_
        refine S_callV_I dX1_look_78 [.inl x6] (K_X1_greatestPart x6 μ5) l_X1_203 yo_X1_greatestPart rfl rfl rfl rfl rfl (fun x8 => ?_)
        refine S_callV_M2 dX1_look_81 [.inl x8] (K_X1_tell x8 μ5) l_X1_99 yo_X1_tell rfl rfl rfl rfl rfl (fun x9 μ10 => ?_)
        refine S_pop dX1_look_84 rfl ?_
        refine S_iload dX1_look_85 rfl ?_
        refine S_iconst dX1_look_87 rfl ?_
        refine S_iadd dX1_look_88 ?_
        exact S_iret dX1_look_89 rfl rfl
      have hL42 : ∀ (n13 : Nat) (x11 : Int) (x12 : Int), Sim cX1_look 7 RX1 (9) (some .int) wI 42 [(0, .inr (.inr 0)), (5, .inl x11), (6, .inl x12)] [] μ5 (fX1_look_L42 K7 μ5 n13 x11 x12) := by
        intro n13
        induction n13 with
        | zero =>
          intro x11 x12
          exact S_none rfl
        | succ n13 ih =>
          intro x11 x12
          rw [fX1_look_L42]
          refine S_iload dX1_look_42 rfl ?_
          refine S_bipush dX1_look_44 rfl (by decide) ?_
          refine S_ic_ge (tgt := 74) dX1_look_46 (by decide) (fun h20 => ?_) (fun h20 => ?_)
          · exact S_sub [0, 1] rfl (hK7 x11)
          · refine S_aload_n dX1_look_49 rfl ?_
            refine S_iload dX1_look_50 rfl ?_
            refine S_callV_I dX1_look_52 [.inl x12] (K_X1_greatestPart x12 μ5) l_X1_203 yo_X1_greatestPart rfl rfl rfl rfl rfl (fun x14 => ?_)
            refine S_aload_n dX1_look_55 rfl ?_
            refine S_iload dX1_look_56 rfl ?_
            refine S_callV_I dX1_look_58 [.inl x11] (K_X1_greatestPart x11 μ5) l_X1_203 yo_X1_greatestPart rfl rfl rfl rfl rfl (fun x15 => ?_)
            refine S_jn (fun (K17 : Int → Option (Int × Mem)) => ∀ (x16 : Int), Sim cX1_look 7 RX1 (9) (some .int) wI 68 [(0, .inr (.inr 0)), (5, .inl x16), (6, .inl x12)] [] μ5 (K17 x16)) ?_ (fun K17 hK17 => ?_)
            · intro x16
              refine S_iinc (lv' := fun x18 => [(6, .inl x18), (0, .inr (.inr 0)), (5, .inl x16)]) dX1_look_68 rfl rfl rfl (fun _ => rfl) (fun x18 => ?_)
              refine S_goto (tgt := 42) dX1_look_71 (by decide) ?_
              exact S_sub [1, 2, 0] rfl (ih x16 x18)
            refine S_ic_ge (tgt := 68) dX1_look_61 (by decide) (fun h19 => ?_) (fun h19 => ?_)
            · exact S_sub [0, 1, 2] rfl (hK17 x11)
            · refine S_iload dX1_look_64 rfl ?_
              refine S_istore (lv' := [(5, .inl x12), (0, .inr (.inr 0)), (6, .inl x12)]) dX1_look_66 rfl rfl ?_
              exact S_sub [1, 0, 2] rfl (hK17 x12)
      exact S_sub [4, 1, 0] rfl (hL42 fuel 0 1)
    · refine S_bipush dX1_look_26 rfl (by decide) ?_
      exact S_iret dX1_look_28 rfl rfl
  · refine S_iload_n dX1_look_11 rfl ?_
    exact S_iret dX1_look_12 rfl rfl
def fX1_greatestDivisor_L9 : Nat → Int → Int → Int → Option Int
  | 0, _, _, _ => none
  | n4 + 1, x1, x2, x3 =>
    if 1000 ≤ x3 then
      some x1
    else
      if (lcmpZ x2 0) = 0 then
        some x1
      else
        grd (¬ x2 = 0) <|
        mlet ((x1.tmod x2)) fun x5 =>
        mlet (w32 (x3 + 1)) fun x6 =>
        fX1_greatestDivisor_L9 n4 x2 x5 x6
def fX1_greatestDivisor (p1 : Int) (p2 : Int) (μ : Mem) : Option Int :=
  fX1_greatestDivisor_L9 fuel p1 p2 0
theorem K_X1_greatestDivisor  (p1 : Int) (p2 : Int)  (μ : Mem) : Con yX1_greatestDivisor cX1_greatestDivisor 11 (some .long) 2 [.inr (.inl p1), .inr (.inl p2)] μ (fX1_greatestDivisor p1 p2 μ) (rL μ) := by
  refine con_of (own := RX1) (by decide) rfl (Nat.le_of_ble_eq_true rfl) ?_
  show Sim cX1_greatestDivisor 11 RX1 (2) (some .long) (rL μ) 0 [(0, .inr (.inl p1)), (2, .inr (.inl p2))] [] μ (fX1_greatestDivisor p1 p2 μ)
  unfold fX1_greatestDivisor
  refine S_lload_n dX1_greatestDivisor_0 rfl ?_
  refine S_lstore (lv' := [(4, .inr (.inl p1)), (0, .inr (.inl p1)), (2, .inr (.inl p2))]) dX1_greatestDivisor_1 rfl rfl ?_
  refine S_lload_n dX1_greatestDivisor_3 rfl ?_
  refine S_lstore (lv' := [(6, .inr (.inl p2)), (4, .inr (.inl p1)), (0, .inr (.inl p1)), (2, .inr (.inl p2))]) dX1_greatestDivisor_4 rfl rfl ?_
  refine S_iconst dX1_greatestDivisor_6 rfl ?_
  refine S_istore (lv' := [(8, .inl 0), (6, .inr (.inl p2)), (4, .inr (.inl p1)), (0, .inr (.inl p1)), (2, .inr (.inl p2))]) dX1_greatestDivisor_7 rfl rfl ?_
  have hL9 : ∀ (n4 : Nat) (x1 : Int) (x2 : Int) (x3 : Int), Sim cX1_greatestDivisor 11 RX1 (2) (some .long) (rL μ) 9 [(4, .inr (.inl x1)), (6, .inr (.inl x2)), (8, .inl x3)] [] μ (fX1_greatestDivisor_L9 n4 x1 x2 x3) := by
    intro n4
    induction n4 with
    | zero =>
      intro x1 x2 x3
      exact S_none rfl
    | succ n4 ih =>
      intro x1 x2 x3
      rw [fX1_greatestDivisor_L9]
      refine S_iload dX1_greatestDivisor_9 rfl ?_
      refine S_sipush dX1_greatestDivisor_11 rfl (by decide) ?_
      refine S_ic_ge (tgt := 45) dX1_greatestDivisor_14 (by decide) (fun h8 => ?_) (fun h8 => ?_)
      · refine S_lload dX1_greatestDivisor_45 rfl ?_
        exact S_lret dX1_greatestDivisor_47 rfl rfl
      · refine S_lload dX1_greatestDivisor_17 rfl ?_
        refine S_lconst (n := 0) dX1_greatestDivisor_19 (by decide) rfl ?_
        refine S_lcmp dX1_greatestDivisor_20 ?_
        refine S_if_eq (tgt := 45) dX1_greatestDivisor_21 (by decide) (fun h7 => ?_) (fun h7 => ?_)
        · refine S_lload dX1_greatestDivisor_45 rfl ?_
          exact S_lret dX1_greatestDivisor_47 rfl rfl
        · refine S_lload dX1_greatestDivisor_24 rfl ?_
          refine S_lload dX1_greatestDivisor_26 rfl ?_
          refine S_lrem dX1_greatestDivisor_28 ?_
          refine S_letL (fun x5 => ?_)
          refine S_lstore (lv' := [(9, .inr (.inl x5)), (4, .inr (.inl x1)), (6, .inr (.inl x2)), (8, .inl x3)]) dX1_greatestDivisor_29 rfl rfl ?_
          refine S_lload dX1_greatestDivisor_31 rfl ?_
          refine S_lstore (lv' := [(4, .inr (.inl x2)), (9, .inr (.inl x5)), (6, .inr (.inl x2)), (8, .inl x3)]) dX1_greatestDivisor_33 rfl rfl ?_
          refine S_lload dX1_greatestDivisor_35 rfl ?_
          refine S_lstore (lv' := [(6, .inr (.inl x5)), (4, .inr (.inl x2)), (9, .inr (.inl x5)), (8, .inl x3)]) dX1_greatestDivisor_37 rfl rfl ?_
          refine S_iinc (lv' := fun x6 => [(8, .inl x6), (6, .inr (.inl x5)), (4, .inr (.inl x2)), (9, .inr (.inl x5))]) dX1_greatestDivisor_39 rfl rfl rfl (fun _ => rfl) (fun x6 => ?_)
          refine S_goto (tgt := 9) dX1_greatestDivisor_42 (by decide) ?_
          exact S_sub [2, 1, 0] rfl (ih x2 x5 x6)
  exact S_sub [2, 1, 0] rfl (hL9 fuel p1 p2 0)
def fX1_tellRatio (p1 : Int) (p2 : Int) (μ : Mem) : Option Mem :=
  (fX1_greatestDivisor p1 p2 μ).bind fun x1 =>
  if (lcmpZ x1 0) ≤ 0 then
    some μ
  else
    grd (¬ x1 = 0) <|
    mlet (wr μ 0 12 (w64 (p1.tdiv x1))) fun μ2 =>
    grd (¬ x1 = 0) <|
    mlet (wr μ2 0 13 (w64 (p2.tdiv x1))) fun μ3 =>
    some μ3
theorem K_X1_tellRatio  (p1 : Int) (p2 : Int)  (μ : Mem) : Con yX1_tellRatio cX1_tellRatio 7 (none) 3 [.inr (.inr 0), .inr (.inl p1), .inr (.inl p2)] μ (fX1_tellRatio p1 p2 μ) wV := by
  refine con_of (own := RX1) (by decide) rfl (Nat.le_of_ble_eq_true rfl) ?_
  show Sim cX1_tellRatio 7 RX1 (3) (none) wV 0 [(0, .inr (.inr 0)), (1, .inr (.inl p1)), (3, .inr (.inl p2))] [] μ (fX1_tellRatio p1 p2 μ)
  unfold fX1_tellRatio
  refine S_lload_n dX1_tellRatio_0 rfl ?_
  refine S_lload_n dX1_tellRatio_1 rfl ?_
  refine S_callS_L dX1_tellRatio_2 [.inr (.inl p1), .inr (.inl p2)] (K_X1_greatestDivisor p1 p2 μ) l_X1_257 yo_X1_greatestDivisor rfl rfl rfl (fun x1 => ?_)
  refine S_lstore (lv' := [(5, .inr (.inl x1)), (0, .inr (.inr 0)), (1, .inr (.inl p1)), (3, .inr (.inl p2))]) dX1_tellRatio_5 rfl rfl ?_
  refine S_lload dX1_tellRatio_7 rfl ?_
  refine S_lconst (n := 0) dX1_tellRatio_9 (by decide) rfl ?_
  refine S_lcmp dX1_tellRatio_10 ?_
  refine S_if_le (tgt := 30) dX1_tellRatio_11 (by decide) (fun h4 => ?_) (fun h4 => ?_)
  · exact S_vret dX1_tellRatio_30 rfl rfl
  · refine S_aload_n dX1_tellRatio_14 rfl ?_
    refine S_lload_n dX1_tellRatio_15 rfl ?_
    refine S_lload dX1_tellRatio_16 rfl ?_
    refine S_ldiv dX1_tellRatio_18 ?_
    refine S_putL dX1_tellRatio_19 rfl fl_X1_55 rfl rfl rfl rfl (fun μ2 => ?_)
    refine S_aload_n dX1_tellRatio_22 rfl ?_
    refine S_lload_n dX1_tellRatio_23 rfl ?_
    refine S_lload dX1_tellRatio_24 rfl ?_
    refine S_ldiv dX1_tellRatio_26 ?_
    refine S_putL dX1_tellRatio_27 rfl fl_X1_59 rfl rfl rfl rfl (fun μ3 => ?_)
    exact S_vret dX1_tellRatio_30 rfl rfl
def fX1_sets_L33 (μ : Mem) (K4 : Int → Int → Option (Int × Mem)) (p1 : Int) : Nat → Int → Int → Int → Option (Int × Mem)
  | 0, _, _, _ => none
  | n11 + 1, x8, x9, x10 =>
    if (bshl 1 (μ 20 4)) ≤ x10 then
      K4 x8 x9
    else
      (fX0_daringOf 20 x10 μ).bind fun x12 =>
      mlet (fun (x13 : Int) (x14 : Int) =>
        mlet (w32 (x10 + 1)) fun x16 =>
        fX1_sets_L33 μ K4 p1 n11 x13 x14 x16
        ) fun (K15 : Int → Int → Option (Int × Mem)) =>
      if ¬ x12 = p1 then
        K15 x8 x9
      else
        mlet (fun (x17 : Int) =>
          mlet (w32 (x8 + 1)) fun x19 =>
          K15 x19 x17
          ) fun (K18 : Int → Option (Int × Mem)) =>
        if ¬ x8 = 0 then
          K18 x9
        else
          K18 x10
def fX1_sets (p1 : Int) (μ : Mem) : Option (Int × Mem) :=
  (fX1_isWithin p1 0 120 μ).bind fun x1 =>
  if ¬ x1 = 0 then
    if ¬ (μ 20 4) = 0 then
      mlet (fun (x2 : Int) (x3 : Int) =>
        (fX1_tellRatio x2 1 μ).bind fun μ5 =>
        bnd2 (fX1_tell x3 μ5) fun x6 μ7 =>
        some (x6, μ7)
        ) fun (K4 : Int → Int → Option (Int × Mem)) =>
      fX1_sets_L33 μ K4 p1 fuel 0 (-9) 0
    else
      some ((-4), μ)
  else
    some ((-1), μ)
theorem K_X1_sets  (p1 : Int)  (μ : Mem) : Con yX1_sets cX1_sets 5 (some .int) 4 [.inr (.inr 0), .inl p1] μ (fX1_sets p1 μ) wI := by
  refine con_of (own := RX1) (by decide) rfl (Nat.le_of_ble_eq_true rfl) ?_
  show Sim cX1_sets 5 RX1 (4) (some .int) wI 0 [(0, .inr (.inr 0)), (1, .inl p1)] [] μ (fX1_sets p1 μ)
  unfold fX1_sets
  refine S_iload_n dX1_sets_0 rfl ?_
  refine S_iconst dX1_sets_1 rfl ?_
  refine S_bipush dX1_sets_2 rfl (by decide) ?_
  refine S_callS_I dX1_sets_4 [.inl p1, .inl 0, .inl 120] (K_X1_isWithin p1 0 120 μ) l_X1_128 yo_X1_isWithin rfl rfl rfl (fun x1 => ?_)
  refine S_if_ne (tgt := 12) dX1_sets_7 (by decide) (fun h24 => ?_) (fun h24 => ?_)
  · refine S_aload_n dX1_sets_12 rfl ?_
    refine S_getR (c1 := 20) dX1_sets_13 rfl fl_X1_33 rfl rfl rfl ?_
    refine S_getI dX1_sets_16 rfl fl_X1_122 rfl rfl ?_
    refine S_if_ne (tgt := 25) dX1_sets_19 (by decide) (fun h23 => ?_) (fun h23 => ?_)
    · refine S_iconst dX1_sets_25 rfl ?_
      refine S_istore_n (lv' := [(2, .inl 0), (0, .inr (.inr 0)), (1, .inl p1)]) dX1_sets_26 rfl rfl ?_
      refine S_bipush dX1_sets_27 rfl (by decide) ?_
      refine S_istore_n (lv' := [(3, .inl (-9)), (2, .inl 0), (0, .inr (.inr 0)), (1, .inl p1)]) dX1_sets_29 rfl rfl ?_
      refine S_iconst dX1_sets_30 rfl ?_
      refine S_istore (lv' := [(4, .inl 0), (3, .inl (-9)), (2, .inl 0), (0, .inr (.inr 0)), (1, .inl p1)]) dX1_sets_31 rfl rfl ?_
      refine S_jn (fun (K4 : Int → Int → Option (Int × Mem)) => ∀ (x2 : Int) (x3 : Int), Sim cX1_sets 5 RX1 (4) (some .int) wI 80 [(0, .inr (.inr 0)), (2, .inl x2), (3, .inl x3)] [] μ (K4 x2 x3)) ?_ (fun K4 hK4 => ?_)
      · intro x2 x3
        refine S_aload_n dX1_sets_80 rfl ?_
        refine S_iload_n dX1_sets_81 rfl ?_
        refine S_i2l dX1_sets_82 ?_
        refine S_lconst (n := 1) dX1_sets_83 (by decide) rfl ?_
        refine S_callV_V dX1_sets_84 [.inr (.inl x2), .inr (.inl 1)] (K_X1_tellRatio x2 1 μ) l_X1_209 yo_X1_tellRatio rfl rfl rfl rfl rfl (fun μ5 => ?_)
        refine S_aload_n dX1_sets_87 rfl ?_
        refine S_iload_n dX1_sets_88 rfl ?_
        refine S_callV_M2 dX1_sets_89 [.inl x3] (K_X1_tell x3 μ5) l_X1_99 yo_X1_tell rfl rfl rfl rfl rfl (fun x6 μ7 => ?_)
        exact S_iret dX1_sets_92 rfl rfl
      have hL33 : ∀ (n11 : Nat) (x8 : Int) (x9 : Int) (x10 : Int), Sim cX1_sets 5 RX1 (4) (some .int) wI 33 [(0, .inr (.inr 0)), (1, .inl p1), (2, .inl x8), (3, .inl x9), (4, .inl x10)] [] μ (fX1_sets_L33 μ K4 p1 n11 x8 x9 x10) := by
        intro n11
        induction n11 with
        | zero =>
          intro x8 x9 x10
          exact S_none rfl
        | succ n11 ih =>
          intro x8 x9 x10
          rw [fX1_sets_L33]
          refine S_iload dX1_sets_33 rfl ?_
          refine S_iconst dX1_sets_35 rfl ?_
          refine S_aload_n dX1_sets_36 rfl ?_
          refine S_getR (c1 := 20) dX1_sets_37 rfl fl_X1_33 rfl rfl rfl ?_
          refine S_getI dX1_sets_40 rfl fl_X1_122 rfl rfl ?_
          refine S_ishl dX1_sets_43 ?_
          refine S_ic_ge (tgt := 80) dX1_sets_44 (by decide) (fun h22 => ?_) (fun h22 => ?_)
          · exact S_sub [0, 2, 3] rfl (hK4 x8 x9)
          · refine S_aload_n dX1_sets_47 rfl ?_
            refine S_getR (c1 := 20) dX1_sets_48 rfl fl_X1_33 rfl rfl rfl ?_
            refine S_iload dX1_sets_51 rfl ?_
            refine S_callW_I dX1_sets_53 [.inl x10] (K_X0_daringOf (by unfold isBk; decide) x10 μ) l_X1_206 yo_X0_daringOf rfl rfl rfl rfl rfl (fun x12 => ?_)
            refine S_iload_n dX1_sets_56 rfl ?_
            refine S_jn (fun (K15 : Int → Int → Option (Int × Mem)) => ∀ (x13 : Int) (x14 : Int), Sim cX1_sets 5 RX1 (4) (some .int) wI 74 [(0, .inr (.inr 0)), (1, .inl p1), (2, .inl x13), (3, .inl x14), (4, .inl x10)] [] μ (K15 x13 x14)) ?_ (fun K15 hK15 => ?_)
            · intro x13 x14
              refine S_iinc (lv' := fun x16 => [(4, .inl x16), (0, .inr (.inr 0)), (1, .inl p1), (2, .inl x13), (3, .inl x14)]) dX1_sets_74 rfl rfl rfl (fun _ => rfl) (fun x16 => ?_)
              refine S_goto (tgt := 33) dX1_sets_77 (by decide) ?_
              exact S_sub [1, 2, 3, 4, 0] rfl (ih x13 x14 x16)
            refine S_ic_ne (tgt := 74) dX1_sets_57 (by decide) (fun h21 => ?_) (fun h21 => ?_)
            · exact S_sub [0, 1, 2, 3, 4] rfl (hK15 x8 x9)
            · refine S_iload_n dX1_sets_60 rfl ?_
              refine S_jn (fun (K18 : Int → Option (Int × Mem)) => ∀ (x17 : Int), Sim cX1_sets 5 RX1 (4) (some .int) wI 70 [(0, .inr (.inr 0)), (1, .inl p1), (2, .inl x8), (4, .inl x10)] [.inl x17] μ (K18 x17)) ?_ (fun K18 hK18 => ?_)
              · intro x17
                refine S_istore_n (lv' := [(3, .inl x17), (0, .inr (.inr 0)), (1, .inl p1), (2, .inl x8), (4, .inl x10)]) dX1_sets_70 rfl rfl ?_
                refine S_iinc (lv' := fun x19 => [(2, .inl x19), (3, .inl x17), (0, .inr (.inr 0)), (1, .inl p1), (4, .inl x10)]) dX1_sets_71 rfl rfl rfl (fun _ => rfl) (fun x19 => ?_)
                exact S_sub [2, 3, 0, 1, 4] rfl (hK15 x19 x17)
              refine S_if_ne (tgt := 69) dX1_sets_61 (by decide) (fun h20 => ?_) (fun h20 => ?_)
              · refine S_iload_n dX1_sets_69 rfl ?_
                exact S_sub [0, 1, 2, 4] rfl (hK18 x9)
              · refine S_iload dX1_sets_64 rfl ?_
                refine S_goto (tgt := 70) dX1_sets_66 (by decide) ?_
                exact S_sub [0, 1, 2, 4] rfl (hK18 x10)
      exact S_sub [3, 4, 2, 1, 0] rfl (hL33 fuel 0 (-9) 0)
    · refine S_bipush dX1_sets_22 rfl (by decide) ?_
      exact S_iret dX1_sets_24 rfl rfl
  · refine S_iconst dX1_sets_10 rfl ?_
    exact S_iret dX1_sets_11 rfl rfl
def fX1_sure_L48 (x2 : Int) (K6 : Int → Int → Int → Option (Int × Mem)) (μ : Mem) (p1 : Int) : Nat → Int → Int → Int → Int → Option (Int × Mem)
  | 0, _, _, _, _ => none
  | n16 + 1, x12, x13, x14, x15 =>
    if x2 < x15 then
      K6 x12 x13 x14
    else
      (fX0_daringOf 20 x15 μ).bind fun x17 =>
      mlet (fun (x18 : Int) (x19 : Int) (x20 : Int) =>
        mlet (w32 (x15 + 1)) fun x22 =>
        fX1_sure_L48 x2 K6 μ p1 n16 x18 x19 x20 x22
        ) fun (K21 : Int → Int → Int → Option (Int × Mem)) =>
      if ¬ x17 = p1 then
        K21 x12 x13 x14
      else
        mlet ((band x12 x15)) fun x23 =>
        mlet ((bor x13 x15)) fun x24 =>
        K21 x23 x24 0
def fX1_sure (p1 : Int) (μ : Mem) : Option (Int × Mem) :=
  (fX1_isWithin p1 0 120 μ).bind fun x1 =>
  if ¬ x1 = 0 then
    if ¬ (μ 20 4) = 0 then
      mlet ((w32 ((bshl 1 (μ 20 4)) - 1))) fun x2 =>
      mlet (fun (x3 : Int) (x4 : Int) (x5 : Int) =>
        if x5 = 0 then
          bnd2 (fX1_tell (band x2 (bxor x4 (-1))) μ) fun x7 μ8 =>
          some (x3, μ8)
        else
          bnd2 (fX1_found 4 μ) fun x9 μ10 =>
          some (x9, μ10)
        ) fun (K6 : Int → Int → Int → Option (Int × Mem)) =>
      fX1_sure_L48 x2 K6 μ p1 fuel x2 0 1 0
    else
      some ((-4), μ)
  else
    some ((-1), μ)
theorem K_X1_sure  (p1 : Int)  (μ : Mem) : Con yX1_sure cX1_sure 7 (some .int) 4 [.inr (.inr 0), .inl p1] μ (fX1_sure p1 μ) wI := by
  refine con_of (own := RX1) (by decide) rfl (Nat.le_of_ble_eq_true rfl) ?_
  show Sim cX1_sure 7 RX1 (4) (some .int) wI 0 [(0, .inr (.inr 0)), (1, .inl p1)] [] μ (fX1_sure p1 μ)
  unfold fX1_sure
  refine S_iload_n dX1_sure_0 rfl ?_
  refine S_iconst dX1_sure_1 rfl ?_
  refine S_bipush dX1_sure_2 rfl (by decide) ?_
  refine S_callS_I dX1_sure_4 [.inl p1, .inl 0, .inl 120] (K_X1_isWithin p1 0 120 μ) l_X1_128 yo_X1_isWithin rfl rfl rfl (fun x1 => ?_)
  refine S_if_ne (tgt := 12) dX1_sure_7 (by decide) (fun h28 => ?_) (fun h28 => ?_)
  · refine S_aload_n dX1_sure_12 rfl ?_
    refine S_getR (c1 := 20) dX1_sure_13 rfl fl_X1_33 rfl rfl rfl ?_
    refine S_getI dX1_sure_16 rfl fl_X1_122 rfl rfl ?_
    refine S_if_ne (tgt := 25) dX1_sure_19 (by decide) (fun h27 => ?_) (fun h27 => ?_)
    · refine S_iconst dX1_sure_25 rfl ?_
      refine S_aload_n dX1_sure_26 rfl ?_
      refine S_getR (c1 := 20) dX1_sure_27 rfl fl_X1_33 rfl rfl rfl ?_
      refine S_getI dX1_sure_30 rfl fl_X1_122 rfl rfl ?_
      refine S_ishl dX1_sure_33 ?_
      refine S_iconst dX1_sure_34 rfl ?_
      refine S_isub dX1_sure_35 ?_
      refine S_let (fun x2 => ?_)
      refine S_istore_n (lv' := [(2, .inl x2), (0, .inr (.inr 0)), (1, .inl p1)]) dX1_sure_36 rfl rfl ?_
      refine S_iload_n dX1_sure_37 rfl ?_
      refine S_istore_n (lv' := [(3, .inl x2), (2, .inl x2), (0, .inr (.inr 0)), (1, .inl p1)]) dX1_sure_38 rfl rfl ?_
      refine S_iconst dX1_sure_39 rfl ?_
      refine S_istore (lv' := [(4, .inl 0), (3, .inl x2), (2, .inl x2), (0, .inr (.inr 0)), (1, .inl p1)]) dX1_sure_40 rfl rfl ?_
      refine S_iconst dX1_sure_42 rfl ?_
      refine S_istore (lv' := [(5, .inl 1), (4, .inl 0), (3, .inl x2), (2, .inl x2), (0, .inr (.inr 0)), (1, .inl p1)]) dX1_sure_43 rfl rfl ?_
      refine S_iconst dX1_sure_45 rfl ?_
      refine S_istore (lv' := [(6, .inl 0), (5, .inl 1), (4, .inl 0), (3, .inl x2), (2, .inl x2), (0, .inr (.inr 0)), (1, .inl p1)]) dX1_sure_46 rfl rfl ?_
      refine S_jn (fun (K6 : Int → Int → Int → Option (Int × Mem)) => ∀ (x3 : Int) (x4 : Int) (x5 : Int), Sim cX1_sure 7 RX1 (4) (some .int) wI 88 [(0, .inr (.inr 0)), (2, .inl x2), (3, .inl x3), (4, .inl x4), (5, .inl x5)] [] μ (K6 x3 x4 x5)) ?_ (fun K6 hK6 => ?_)
      · intro x3 x4 x5
        refine S_iload dX1_sure_88 rfl ?_
        refine S_if_eq (tgt := 99) dX1_sure_90 (by decide) (fun h11 => ?_) (fun h11 => ?_)
        · refine S_aload_n dX1_sure_99 rfl ?_
          refine S_iload_n dX1_sure_100 rfl ?_
          refine S_iload dX1_sure_101 rfl ?_
          refine S_iconst dX1_sure_103 rfl ?_
          refine S_ixor dX1_sure_104 ?_
          refine S_iand dX1_sure_105 ?_
          refine S_callV_M2 dX1_sure_106 [.inl (band x2 (bxor x4 (-1)))] (K_X1_tell (band x2 (bxor x4 (-1))) μ) l_X1_99 yo_X1_tell rfl rfl rfl rfl rfl (fun x7 μ8 => ?_)
          refine S_pop dX1_sure_109 rfl ?_
          refine S_iload_n dX1_sure_110 rfl ?_
          exact S_iret dX1_sure_111 rfl rfl
        · refine S_aload_n dX1_sure_93 rfl ?_
          refine S_iconst dX1_sure_94 rfl ?_
          refine S_callV_M2 dX1_sure_95 [.inl 4] (K_X1_found 4 μ) l_X1_87 yo_X1_found rfl rfl rfl rfl rfl (fun x9 μ10 => ?_)
          exact S_iret dX1_sure_98 rfl rfl
      have hL48 : ∀ (n16 : Nat) (x12 : Int) (x13 : Int) (x14 : Int) (x15 : Int), Sim cX1_sure 7 RX1 (4) (some .int) wI 48 [(0, .inr (.inr 0)), (1, .inl p1), (2, .inl x2), (3, .inl x12), (4, .inl x13), (5, .inl x14), (6, .inl x15)] [] μ (fX1_sure_L48 x2 K6 μ p1 n16 x12 x13 x14 x15) := by
        intro n16
        induction n16 with
        | zero =>
          intro x12 x13 x14 x15
          exact S_none rfl
        | succ n16 ih =>
          intro x12 x13 x14 x15
          rw [fX1_sure_L48]
          refine S_iload dX1_sure_48 rfl ?_
          refine S_iload_n dX1_sure_50 rfl ?_
          refine S_ic_gt (tgt := 88) dX1_sure_51 (by decide) (fun h26 => ?_) (fun h26 => ?_)
          · exact S_sub [0, 2, 3, 4, 5] rfl (hK6 x12 x13 x14)
          · refine S_aload_n dX1_sure_54 rfl ?_
            refine S_getR (c1 := 20) dX1_sure_55 rfl fl_X1_33 rfl rfl rfl ?_
            refine S_iload dX1_sure_58 rfl ?_
            refine S_callW_I dX1_sure_60 [.inl x15] (K_X0_daringOf (by unfold isBk; decide) x15 μ) l_X1_206 yo_X0_daringOf rfl rfl rfl rfl rfl (fun x17 => ?_)
            refine S_iload_n dX1_sure_63 rfl ?_
            refine S_jn (fun (K21 : Int → Int → Int → Option (Int × Mem)) => ∀ (x18 : Int) (x19 : Int) (x20 : Int), Sim cX1_sure 7 RX1 (4) (some .int) wI 82 [(0, .inr (.inr 0)), (1, .inl p1), (2, .inl x2), (3, .inl x18), (4, .inl x19), (5, .inl x20), (6, .inl x15)] [] μ (K21 x18 x19 x20)) ?_ (fun K21 hK21 => ?_)
            · intro x18 x19 x20
              refine S_iinc (lv' := fun x22 => [(6, .inl x22), (0, .inr (.inr 0)), (1, .inl p1), (2, .inl x2), (3, .inl x18), (4, .inl x19), (5, .inl x20)]) dX1_sure_82 rfl rfl rfl (fun _ => rfl) (fun x22 => ?_)
              refine S_goto (tgt := 48) dX1_sure_85 (by decide) ?_
              exact S_sub [1, 2, 3, 4, 5, 6, 0] rfl (ih x18 x19 x20 x22)
            refine S_ic_ne (tgt := 82) dX1_sure_64 (by decide) (fun h25 => ?_) (fun h25 => ?_)
            · exact S_sub [0, 1, 2, 3, 4, 5, 6] rfl (hK21 x12 x13 x14)
            · refine S_iload_n dX1_sure_67 rfl ?_
              refine S_iload dX1_sure_68 rfl ?_
              refine S_iand dX1_sure_70 ?_
              refine S_let (fun x23 => ?_)
              refine S_istore_n (lv' := [(3, .inl x23), (0, .inr (.inr 0)), (1, .inl p1), (2, .inl x2), (4, .inl x13), (5, .inl x14), (6, .inl x15)]) dX1_sure_71 rfl rfl ?_
              refine S_iload dX1_sure_72 rfl ?_
              refine S_iload dX1_sure_74 rfl ?_
              refine S_ior dX1_sure_76 ?_
              refine S_let (fun x24 => ?_)
              refine S_istore (lv' := [(4, .inl x24), (3, .inl x23), (0, .inr (.inr 0)), (1, .inl p1), (2, .inl x2), (5, .inl x14), (6, .inl x15)]) dX1_sure_77 rfl rfl ?_
              refine S_iconst dX1_sure_79 rfl ?_
              refine S_istore (lv' := [(5, .inl 0), (4, .inl x24), (3, .inl x23), (0, .inr (.inr 0)), (1, .inl p1), (2, .inl x2), (6, .inl x15)]) dX1_sure_80 rfl rfl ?_
              exact S_sub [3, 4, 5, 2, 1, 0, 6] rfl (hK21 x23 x24 0)
      exact S_sub [5, 6, 4, 3, 2, 1, 0] rfl (hL48 fuel x2 0 1 0)
    · refine S_bipush dX1_sure_22 rfl (by decide) ?_
      exact S_iret dX1_sure_24 rfl rfl
  · refine S_iconst dX1_sure_10 rfl ?_
    exact S_iret dX1_sure_11 rfl rfl
def fX1_outcome_L82 (K10 : Int → Mem → Option (Int × Mem)) (x3 : Int) (p1 : Nat) (x5 : Int) (self : Nat → Int → Int → Int → Mem → Option (Int × Mem)) (p2 : Int) (p3 : Int) (p4 : Int) (x1 : Int) : Nat → Int → Int → Mem → Option (Int × Mem)
  | 0, _, _, _ => none
  | n15 + 1, x12, x13, μ14 =>
    if 2 < x13 then
      K10 x12 μ14
    else
      grd (0 ≤ x3 ∧ x3 < 6) <|
      mlet (wr μ14 (p1 + 3) (x3).toNat (mmin 20 (w32 (x5 + x13)))) fun μ16 =>
      bnd2 (self p1 p2 p3 (w32 (p4 - 1)) μ16) fun x17 μ18 =>
      mlet (fun (x19 : Int) =>
        mlet (w32 (x13 + 1)) fun x21 =>
        fX1_outcome_L82 K10 x3 p1 x5 self p2 p3 p4 x1 n15 x19 x21 μ18
        ) fun (K20 : Int → Option (Int × Mem)) =>
      if x1 = 0 then
        K20 (mmin x12 x17)
      else
        K20 (mmax x12 x17)
def fX1_outcome_B (self : Nat → Int → Int → Int → Mem → Option (Int × Mem)) (p1 : Nat) (p2 : Int) (p3 : Int) (p4 : Int) (μ : Mem) : Option (Int × Mem) :=
  if 0 < p4 then
    mlet (fun (x1 : Int) =>
      mlet (fun (x3 : Int) =>
        grd (0 ≤ x3 ∧ x3 < 6) <|
        mlet ((μ (p1 + 3) (x3).toNat)) fun x5 =>
        mlet (fun (x6 : Int) =>
          mlet (fun (x8 : Int) (μ9 : Mem) =>
            grd (0 ≤ x3 ∧ x3 < 6) <|
            mlet (wr μ9 (p1 + 3) (x3).toNat x5) fun μ11 =>
            some (x8, μ11)
            ) fun (K10 : Int → Mem → Option (Int × Mem)) =>
          fX1_outcome_L82 K10 x3 p1 x5 self p2 p3 p4 x1 fuel x6 0 μ
          ) fun (K7 : Int → Option (Int × Mem)) =>
        if x1 = 0 then
          K7 1
        else
          K7 (-1)
        ) fun (K4 : Int → Option (Int × Mem)) =>
      if x1 = 0 then
        K4 p3
      else
        K4 p2
      ) fun (K2 : Int → Option (Int × Mem)) =>
    if ¬ (p4.tmod 2) = 0 then
      K2 0
    else
      K2 1
  else
    (fX0_holder p1 0 μ).bind fun x27 =>
    if ¬ x27 = p2 then
      if ¬ x27 = p3 then
        some (0, μ)
      else
        some ((-1), μ)
    else
      some (1, μ)
def fX1_outcome_N : Nat → Nat → Int → Int → Int → Mem → Option (Int × Mem)
  | 0 => fun _ _ _ _ _ => none
  | n + 1 => fX1_outcome_B (fX1_outcome_N n)
def fX1_outcome (p1 : Nat) (p2 : Int) (p3 : Int) (p4 : Int) (μ : Mem) : Option (Int × Mem) := fX1_outcome_N 8 p1 p2 p3 p4 μ
theorem K_X1_outcome_N : ∀ (n0 : Nat) (p1 : Nat) (p2 : Int) (p3 : Int) (p4 : Int) (hp1 : isBk p1) (μ : Mem), Con yX1_outcome cX1_outcome 10 (some .int) (n0 + 6) [.inr (.inr p1), .inl p2, .inl p3, .inl p4] μ (fX1_outcome_N n0 p1 p2 p3 p4 μ) wI
  | 0 => fun _ _ _ _ _ _ => fun _ h => by unfold fX1_outcome_N at h; cases h
  | n0 + 1 => fun p1 p2 p3 p4 hp1 μ => by
    have hself := K_X1_outcome_N n0
    refine con_of (own := RX1) (by decide) rfl (Nat.le_of_ble_eq_true rfl) ?_
    show Sim cX1_outcome 10 RX1 (n0 + 1 + 6) (some .int) wI 0 [(0, .inr (.inr p1)), (1, .inl p2), (2, .inl p3), (3, .inl p4)] [] μ (fX1_outcome_B (fX1_outcome_N n0) p1 p2 p3 p4 μ)
    generalize fX1_outcome_N n0 = self at hself ⊢
    rw [show n0 + 1 + 6 = n0 + 7 from by omega]
    unfold fX1_outcome_B
    refine S_iload_n dX1_outcome_0 rfl ?_
    refine S_if_gt (tgt := 33) dX1_outcome_1 (by decide) (fun h30 => ?_) (fun h30 => ?_)
    · refine S_iload_n dX1_outcome_33 rfl ?_
      refine S_iconst dX1_outcome_34 rfl ?_
      refine S_iremK dX1_outcome_35 (by decide) ?_
      refine S_jn (fun (K2 : Int → Option (Int × Mem)) => ∀ (x1 : Int), Sim cX1_outcome 10 RX1 (n0 + 7) (some .int) wI 44 [(0, .inr (.inr p1)), (1, .inl p2), (2, .inl p3), (3, .inl p4)] [.inl x1] μ (K2 x1)) ?_ (fun K2 hK2 => ?_)
      · intro x1
        refine S_istore (lv' := [(4, .inl x1), (0, .inr (.inr p1)), (1, .inl p2), (2, .inl p3), (3, .inl p4)]) dX1_outcome_44 rfl rfl ?_
        refine S_iload dX1_outcome_46 rfl ?_
        refine S_jn (fun (K4 : Int → Option (Int × Mem)) => ∀ (x3 : Int), Sim cX1_outcome 10 RX1 (n0 + 7) (some .int) wI 56 [(0, .inr (.inr p1)), (1, .inl p2), (2, .inl p3), (3, .inl p4), (4, .inl x1)] [.inl x3] μ (K4 x3)) ?_ (fun K4 hK4 => ?_)
        · intro x3
          refine S_istore (lv' := [(5, .inl x3), (0, .inr (.inr p1)), (1, .inl p2), (2, .inl p3), (3, .inl p4), (4, .inl x1)]) dX1_outcome_56 rfl rfl ?_
          refine S_aload_n dX1_outcome_58 rfl ?_
          refine S_getR (c1 := (p1 + 3)) dX1_outcome_59 (kd_bk hp1) fl_X1_156 rfl rfl rfl ?_
          refine S_iload dX1_outcome_62 rfl ?_
          refine S_iald (N := 6) dX1_outcome_64 (kd_ba (k := 2) hp1 rfl (by decide)) (bk_lt (k := 3) hp1 (by decide)) rfl ?_
          refine S_let (fun x5 => ?_)
          refine S_istore (lv' := [(6, .inl x5), (5, .inl x3), (0, .inr (.inr p1)), (1, .inl p2), (2, .inl p3), (3, .inl p4), (4, .inl x1)]) dX1_outcome_65 rfl rfl ?_
          refine S_iload dX1_outcome_67 rfl ?_
          refine S_jn (fun (K7 : Int → Option (Int × Mem)) => ∀ (x6 : Int), Sim cX1_outcome 10 RX1 (n0 + 7) (some .int) wI 77 [(0, .inr (.inr p1)), (1, .inl p2), (2, .inl p3), (3, .inl p4), (4, .inl x1), (5, .inl x3), (6, .inl x5)] [.inl x6] μ (K7 x6)) ?_ (fun K7 hK7 => ?_)
          · intro x6
            refine S_istore (lv' := [(7, .inl x6), (0, .inr (.inr p1)), (1, .inl p2), (2, .inl p3), (3, .inl p4), (4, .inl x1), (5, .inl x3), (6, .inl x5)]) dX1_outcome_77 rfl rfl ?_
            refine S_iconst dX1_outcome_79 rfl ?_
            refine S_istore (lv' := [(8, .inl 0), (7, .inl x6), (0, .inr (.inr p1)), (1, .inl p2), (2, .inl p3), (3, .inl p4), (4, .inl x1), (5, .inl x3), (6, .inl x5)]) dX1_outcome_80 rfl rfl ?_
            refine S_jn (fun (K10 : Int → Mem → Option (Int × Mem)) => ∀ (x8 : Int) (μ9 : Mem), Sim cX1_outcome 10 RX1 (n0 + 7) (some .int) wI 146 [(0, .inr (.inr p1)), (5, .inl x3), (6, .inl x5), (7, .inl x8)] [] μ9 (K10 x8 μ9)) ?_ (fun K10 hK10 => ?_)
            · intro x8 μ9
              refine S_aload_n dX1_outcome_146 rfl ?_
              refine S_getR (c1 := (p1 + 3)) dX1_outcome_147 (kd_bk hp1) fl_X1_156 rfl rfl rfl ?_
              refine S_iload dX1_outcome_150 rfl ?_
              refine S_iload dX1_outcome_152 rfl ?_
              refine S_iast (N := 6) dX1_outcome_154 (kd_ba (k := 2) hp1 rfl (by decide)) (bk_lt (k := 3) hp1 (by decide)) rfl (fun μ11 => ?_)
              refine S_iload dX1_outcome_155 rfl ?_
              exact S_iret dX1_outcome_157 rfl rfl
            have hL82 : ∀ (n15 : Nat) (x12 : Int) (x13 : Int) (μ14 : Mem), Sim cX1_outcome 10 RX1 (n0 + 7) (some .int) wI 82 [(0, .inr (.inr p1)), (1, .inl p2), (2, .inl p3), (3, .inl p4), (4, .inl x1), (5, .inl x3), (6, .inl x5), (7, .inl x12), (8, .inl x13)] [] μ14 (fX1_outcome_L82 K10 x3 p1 x5 self p2 p3 p4 x1 n15 x12 x13 μ14) := by
              intro n15
              induction n15 with
              | zero =>
                intro x12 x13 μ14
                exact S_none rfl
              | succ n15 ih =>
                intro x12 x13 μ14
                rw [fX1_outcome_L82]
                refine S_iload dX1_outcome_82 rfl ?_
                refine S_iconst dX1_outcome_84 rfl ?_
                refine S_ic_gt (tgt := 146) dX1_outcome_85 (by decide) (fun h23 => ?_) (fun h23 => ?_)
                · exact S_sub [0, 5, 6, 7] rfl (hK10 x12 μ14)
                · refine S_aload_n dX1_outcome_88 rfl ?_
                  refine S_getR (c1 := (p1 + 3)) dX1_outcome_89 (kd_bk hp1) fl_X1_156 rfl rfl rfl ?_
                  refine S_iload dX1_outcome_92 rfl ?_
                  refine S_bipush dX1_outcome_94 rfl (by decide) ?_
                  refine S_iload dX1_outcome_96 rfl ?_
                  refine S_iload dX1_outcome_98 rfl ?_
                  refine S_iadd dX1_outcome_100 ?_
                  refine S_mmin dX1_outcome_101 jl_X1_308 jm_min jm_M jc_min ble1 rfl ?_
                  refine S_iast (N := 6) dX1_outcome_104 (kd_ba (k := 2) hp1 rfl (by decide)) (bk_lt (k := 3) hp1 (by decide)) rfl (fun μ16 => ?_)
                  refine S_aload_n dX1_outcome_105 rfl ?_
                  refine S_iload_n dX1_outcome_106 rfl ?_
                  refine S_iload_n dX1_outcome_107 rfl ?_
                  refine S_iload_n dX1_outcome_108 rfl ?_
                  refine S_iconst dX1_outcome_109 rfl ?_
                  refine S_isub dX1_outcome_110 ?_
                  refine S_callS_M2 dX1_outcome_111 [.inr (.inr p1), .inl p2, .inl p3, .inl (w32 (p4 - 1))] (hself p1 p2 p3 (w32 (p4 - 1)) hp1 μ16) l_X1_213 yo_X1_outcome (dOk_r rfl) rfl rfl (fun x17 μ18 => ?_)
                  refine S_istore (lv' := [(9, .inl x17), (0, .inr (.inr p1)), (1, .inl p2), (2, .inl p3), (3, .inl p4), (4, .inl x1), (5, .inl x3), (6, .inl x5), (7, .inl x12), (8, .inl x13)]) dX1_outcome_114 rfl rfl ?_
                  refine S_iload dX1_outcome_116 rfl ?_
                  refine S_jn (fun (K20 : Int → Option (Int × Mem)) => ∀ (x19 : Int), Sim cX1_outcome 10 RX1 (n0 + 7) (some .int) wI 138 [(0, .inr (.inr p1)), (1, .inl p2), (2, .inl p3), (3, .inl p4), (4, .inl x1), (5, .inl x3), (6, .inl x5), (8, .inl x13)] [.inl x19] μ18 (K20 x19)) ?_ (fun K20 hK20 => ?_)
                  · intro x19
                    refine S_istore (lv' := [(7, .inl x19), (0, .inr (.inr p1)), (1, .inl p2), (2, .inl p3), (3, .inl p4), (4, .inl x1), (5, .inl x3), (6, .inl x5), (8, .inl x13)]) dX1_outcome_138 rfl rfl ?_
                    refine S_iinc (lv' := fun x21 => [(8, .inl x21), (7, .inl x19), (0, .inr (.inr p1)), (1, .inl p2), (2, .inl p3), (3, .inl p4), (4, .inl x1), (5, .inl x3), (6, .inl x5)]) dX1_outcome_140 rfl rfl rfl (fun _ => rfl) (fun x21 => ?_)
                    refine S_goto (tgt := 82) dX1_outcome_143 (by decide) ?_
                    exact S_sub [2, 3, 4, 5, 6, 7, 8, 1, 0] rfl (ih x19 x21 μ18)
                  refine S_if_eq (tgt := 131) dX1_outcome_118 (by decide) (fun h22 => ?_) (fun h22 => ?_)
                  · refine S_iload dX1_outcome_131 rfl ?_
                    refine S_iload dX1_outcome_133 rfl ?_
                    refine S_mmin dX1_outcome_135 jl_X1_308 jm_min jm_M jc_min ble1 rfl ?_
                    exact S_sub [1, 2, 3, 4, 5, 6, 7, 9] rfl (hK20 (mmin x12 x17))
                  · refine S_iload dX1_outcome_121 rfl ?_
                    refine S_iload dX1_outcome_123 rfl ?_
                    refine S_mmax dX1_outcome_125 jl_X1_288 jm_max jm_M jc_max ble1 rfl ?_
                    refine S_goto (tgt := 138) dX1_outcome_128 (by decide) ?_
                    exact S_sub [1, 2, 3, 4, 5, 6, 7, 9] rfl (hK20 (mmax x12 x17))
            exact S_sub [2, 3, 4, 5, 6, 7, 8, 1, 0] rfl (hL82 fuel x6 0 μ)
          refine S_if_eq (tgt := 76) dX1_outcome_69 (by decide) (fun h24 => ?_) (fun h24 => ?_)
          · refine S_iconst dX1_outcome_76 rfl ?_
            exact S_sub [2, 3, 4, 5, 6, 1, 0] rfl (hK7 1)
          · refine S_iconst dX1_outcome_72 rfl ?_
            refine S_goto (tgt := 77) dX1_outcome_73 (by decide) ?_
            exact S_sub [2, 3, 4, 5, 6, 1, 0] rfl (hK7 (-1))
        refine S_if_eq (tgt := 55) dX1_outcome_48 (by decide) (fun h25 => ?_) (fun h25 => ?_)
        · refine S_iload_n dX1_outcome_55 rfl ?_
          exact S_sub [1, 2, 3, 4, 0] rfl (hK4 p3)
        · refine S_iload_n dX1_outcome_51 rfl ?_
          refine S_goto (tgt := 56) dX1_outcome_52 (by decide) ?_
          exact S_sub [1, 2, 3, 4, 0] rfl (hK4 p2)
      refine S_if_ne (tgt := 43) dX1_outcome_36 (by decide) (fun h26 => ?_) (fun h26 => ?_)
      · refine S_iconst dX1_outcome_43 rfl ?_
        exact S_sub [0, 1, 2, 3] rfl (hK2 0)
      · refine S_iconst dX1_outcome_39 rfl ?_
        refine S_goto (tgt := 44) dX1_outcome_40 (by decide) ?_
        exact S_sub [0, 1, 2, 3] rfl (hK2 1)
    · refine S_aload_n dX1_outcome_4 rfl ?_
      refine S_iconst dX1_outcome_5 rfl ?_
      refine S_callW_I dX1_outcome_6 [.inl 0] (K_X0_holder hp1 0 μ) l_X1_145 yo_X0_holder (kd_bk hp1) rfl (dOk_s rfl rfl) rfl rfl (fun x27 => ?_)
      refine S_istore (lv' := [(4, .inl x27), (0, .inr (.inr p1)), (1, .inl p2), (2, .inl p3), (3, .inl p4)]) dX1_outcome_9 rfl rfl ?_
      refine S_iload dX1_outcome_11 rfl ?_
      refine S_iload_n dX1_outcome_13 rfl ?_
      refine S_ic_ne (tgt := 21) dX1_outcome_14 (by decide) (fun h29 => ?_) (fun h29 => ?_)
      · refine S_iload dX1_outcome_21 rfl ?_
        refine S_iload_n dX1_outcome_23 rfl ?_
        refine S_ic_ne (tgt := 31) dX1_outcome_24 (by decide) (fun h28 => ?_) (fun h28 => ?_)
        · refine S_iconst dX1_outcome_31 rfl ?_
          exact S_iret dX1_outcome_32 rfl rfl
        · refine S_iconst dX1_outcome_27 rfl ?_
          refine S_goto (tgt := 32) dX1_outcome_28 (by decide) ?_
          exact S_iret dX1_outcome_32 rfl rfl
      · refine S_iconst dX1_outcome_17 rfl ?_
        refine S_goto (tgt := 32) dX1_outcome_18 (by decide) ?_
        exact S_iret dX1_outcome_32 rfl rfl
theorem K_X1_outcome {p1 : Nat} (hp1 : isBk p1) (p2 : Int) (p3 : Int) (p4 : Int) (μ : Mem) : Con yX1_outcome cX1_outcome 10 (some .int) (14) [.inr (.inr p1), .inl p2, .inl p3, .inl p4] μ (fX1_outcome p1 p2 p3 p4 μ) wI := K_X1_outcome_N 8 p1 p2 p3 p4 hp1 μ
def fX1_duel (p1 : Int) (p2 : Int) (p3 : Int) (μ : Mem) : Option (Int × Mem) :=
  (fX0_has 20 p1 μ).bind fun x1 =>
  if x1 = 0 then
    some ((-1), μ)
  else
    (fX0_has 20 p2 μ).bind fun x2 =>
    if x2 = 0 then
      some ((-1), μ)
    else
      if p1 = p2 then
        some ((-1), μ)
      else
        (fX1_isWithin p3 0 3 μ).bind fun x3 =>
        if ¬ x3 = 0 then
          (fX0_become 25 20 μ).bind fun μ4 =>
          bnd2 (fX1_outcome 25 p1 p2 (w32 (2 * p3)) μ4) fun x5 μ6 =>
          bnd2 (fX1_tell x5 μ6) fun x7 μ8 =>
          some (x7, μ8)
        else
          some ((-1), μ)
theorem K_X1_duel  (p1 : Int) (p2 : Int) (p3 : Int)  (μ : Mem) : Con yX1_duel cX1_duel 4 (some .int) 15 [.inr (.inr 0), .inl p1, .inl p2, .inl p3] μ (fX1_duel p1 p2 p3 μ) wI := by
  refine con_of (own := RX1) (by decide) rfl (Nat.le_of_ble_eq_true rfl) ?_
  show Sim cX1_duel 4 RX1 (15) (some .int) wI 0 [(0, .inr (.inr 0)), (1, .inl p1), (2, .inl p2), (3, .inl p3)] [] μ (fX1_duel p1 p2 p3 μ)
  unfold fX1_duel
  refine S_aload_n dX1_duel_0 rfl ?_
  refine S_getR (c1 := 20) dX1_duel_1 rfl fl_X1_33 rfl rfl rfl ?_
  refine S_iload_n dX1_duel_4 rfl ?_
  refine S_callW_I dX1_duel_5 [.inl p1] (K_X0_has (by unfold isBk; decide) p1 μ) l_X1_125 yo_X0_has rfl rfl rfl rfl rfl (fun x1 => ?_)
  refine S_if_eq (tgt := 36) dX1_duel_8 (by decide) (fun h12 => ?_) (fun h12 => ?_)
  · refine S_iconst dX1_duel_36 rfl ?_
    exact S_iret dX1_duel_37 rfl rfl
  · refine S_aload_n dX1_duel_11 rfl ?_
    refine S_getR (c1 := 20) dX1_duel_12 rfl fl_X1_33 rfl rfl rfl ?_
    refine S_iload_n dX1_duel_15 rfl ?_
    refine S_callW_I dX1_duel_16 [.inl p2] (K_X0_has (by unfold isBk; decide) p2 μ) l_X1_125 yo_X0_has rfl rfl rfl rfl rfl (fun x2 => ?_)
    refine S_if_eq (tgt := 36) dX1_duel_19 (by decide) (fun h11 => ?_) (fun h11 => ?_)
    · refine S_iconst dX1_duel_36 rfl ?_
      exact S_iret dX1_duel_37 rfl rfl
    · refine S_iload_n dX1_duel_22 rfl ?_
      refine S_iload_n dX1_duel_23 rfl ?_
      refine S_ic_eq (tgt := 36) dX1_duel_24 (by decide) (fun h10 => ?_) (fun h10 => ?_)
      · refine S_iconst dX1_duel_36 rfl ?_
        exact S_iret dX1_duel_37 rfl rfl
      · refine S_iload_n dX1_duel_27 rfl ?_
        refine S_iconst dX1_duel_28 rfl ?_
        refine S_iconst dX1_duel_29 rfl ?_
        refine S_callS_I dX1_duel_30 [.inl p3, .inl 0, .inl 3] (K_X1_isWithin p3 0 3 μ) l_X1_128 yo_X1_isWithin rfl rfl rfl (fun x3 => ?_)
        refine S_if_ne (tgt := 38) dX1_duel_33 (by decide) (fun h9 => ?_) (fun h9 => ?_)
        · refine S_aload_n dX1_duel_38 rfl ?_
          refine S_getR (c1 := 25) dX1_duel_39 rfl fl_X1_36 rfl rfl rfl ?_
          refine S_aload_n dX1_duel_42 rfl ?_
          refine S_getR (c1 := 20) dX1_duel_43 rfl fl_X1_33 rfl rfl rfl ?_
          refine S_callW_V dX1_duel_46 [.inr (.inr 20)] (K_X0_become (by unfold isBk; decide) (by unfold isBk; decide) μ) l_X1_118 yo_X0_become rfl rfl rfl rfl rfl (fun μ4 => ?_)
          refine S_aload_n dX1_duel_49 rfl ?_
          refine S_aload_n dX1_duel_50 rfl ?_
          refine S_getR (c1 := 25) dX1_duel_51 rfl fl_X1_36 rfl rfl rfl ?_
          refine S_iload_n dX1_duel_54 rfl ?_
          refine S_iload_n dX1_duel_55 rfl ?_
          refine S_iconst dX1_duel_56 rfl ?_
          refine S_iload_n dX1_duel_57 rfl ?_
          refine S_imul dX1_duel_58 ?_
          refine S_callS_M2 dX1_duel_59 [.inr (.inr 25), .inl p1, .inl p2, .inl (w32 (2 * p3))] (K_X1_outcome (by unfold isBk; decide) p1 p2 (w32 (2 * p3)) μ4) l_X1_213 yo_X1_outcome rfl rfl rfl (fun x5 μ6 => ?_)
          refine S_callV_M2 dX1_duel_62 [.inl x5] (K_X1_tell x5 μ6) l_X1_99 yo_X1_tell rfl rfl rfl rfl rfl (fun x7 μ8 => ?_)
          exact S_iret dX1_duel_65 rfl rfl
        · refine S_iconst dX1_duel_36 rfl ?_
          exact S_iret dX1_duel_37 rfl rfl
def fX1_allWeight_L4 (μ : Mem) : Nat → Int → Int → Option Int
  | 0, _, _ => none
  | n3 + 1, x1, x2 =>
    if (μ 20 4) ≤ x2 then
      some x1
    else
      mlet ((w32 (x1 * 12))) fun x4 =>
      mlet (w32 (x2 + 1)) fun x5 =>
      fX1_allWeight_L4 μ n3 x4 x5
def fX1_allWeight (μ : Mem) : Option Int :=
  fX1_allWeight_L4 μ fuel 1 0
theorem K_X1_allWeight    (μ : Mem) : Con yX1_allWeight cX1_allWeight 3 (some .int) 2 [.inr (.inr 0)] μ (fX1_allWeight  μ) (rI μ) := by
  refine con_of (own := RX1) (by decide) rfl (Nat.le_of_ble_eq_true rfl) ?_
  show Sim cX1_allWeight 3 RX1 (2) (some .int) (rI μ) 0 [(0, .inr (.inr 0))] [] μ (fX1_allWeight  μ)
  unfold fX1_allWeight
  refine S_iconst dX1_allWeight_0 rfl ?_
  refine S_istore_n (lv' := [(1, .inl 1), (0, .inr (.inr 0))]) dX1_allWeight_1 rfl rfl ?_
  refine S_iconst dX1_allWeight_2 rfl ?_
  refine S_istore_n (lv' := [(2, .inl 0), (1, .inl 1), (0, .inr (.inr 0))]) dX1_allWeight_3 rfl rfl ?_
  have hL4 : ∀ (n3 : Nat) (x1 : Int) (x2 : Int), Sim cX1_allWeight 3 RX1 (2) (some .int) (rI μ) 4 [(0, .inr (.inr 0)), (1, .inl x1), (2, .inl x2)] [] μ (fX1_allWeight_L4 μ n3 x1 x2) := by
    intro n3
    induction n3 with
    | zero =>
      intro x1 x2
      exact S_none rfl
    | succ n3 ih =>
      intro x1 x2
      rw [fX1_allWeight_L4]
      refine S_iload_n dX1_allWeight_4 rfl ?_
      refine S_aload_n dX1_allWeight_5 rfl ?_
      refine S_getR (c1 := 20) dX1_allWeight_6 rfl fl_X1_33 rfl rfl rfl ?_
      refine S_getI dX1_allWeight_9 rfl fl_X1_122 rfl rfl ?_
      refine S_ic_ge (tgt := 26) dX1_allWeight_12 (by decide) (fun h6 => ?_) (fun h6 => ?_)
      · refine S_iload_n dX1_allWeight_26 rfl ?_
        exact S_iret dX1_allWeight_27 rfl rfl
      · refine S_iload_n dX1_allWeight_15 rfl ?_
        refine S_bipush dX1_allWeight_16 rfl (by decide) ?_
        refine S_imul dX1_allWeight_18 ?_
        refine S_let (fun x4 => ?_)
        refine S_istore_n (lv' := [(1, .inl x4), (0, .inr (.inr 0)), (2, .inl x2)]) dX1_allWeight_19 rfl rfl ?_
        refine S_iinc (lv' := fun x5 => [(2, .inl x5), (1, .inl x4), (0, .inr (.inr 0))]) dX1_allWeight_20 rfl rfl rfl (fun _ => rfl) (fun x5 => ?_)
        refine S_goto (tgt := 4) dX1_allWeight_23 (by decide) ?_
        exact S_sub [2, 1, 0] rfl (ih x4 x5)
  exact S_sub [2, 1, 0] rfl (hL4 fuel 1 0)
def fX1_weigh_L28 (μ3 : Mem) (K6 : Int → Option Mem) (x2 : Int) (p1 : Int) : Nat → Int → Int → Option Mem
  | 0, _, _ => none
  | n13 + 1, x11, x12 =>
    if (μ3 20 4) ≤ x12 then
      K6 x11
    else
      mlet (fun (x14 : Int) =>
        mlet ((w32 (x11 * x14))) fun x16 =>
        mlet (w32 (x12 + 1)) fun x17 =>
        fX1_weigh_L28 μ3 K6 x2 p1 n13 x16 x17
        ) fun (K15 : Int → Option Mem) =>
      if (band (bshr x2 x12) 1) = 0 then
        K15 (w32 (12 - p1))
      else
        K15 p1
def fX1_weigh_L10 (p1 : Int) : Nat → Int → Mem → Option Mem
  | 0, _, _ => none
  | n4 + 1, x2, μ3 =>
    if (bshl 1 (μ3 20 4)) ≤ x2 then
      some μ3
    else
      mlet (fun (x5 : Int) =>
        (fX0_holder 20 x2 μ3).bind fun x7 =>
        (fX1_placeOf x7 μ3).bind fun x8 =>
        grd (0 ≤ x8 ∧ x8 < 7) <|
        grd (0 ≤ x8 ∧ x8 < 7) <|
        mlet (wr μ3 38 (x8).toNat (w32 ((μ3 38 (x8).toNat) + x5))) fun μ9 =>
        mlet (w32 (x2 + 1)) fun x10 =>
        fX1_weigh_L10 p1 n4 x10 μ9
        ) fun (K6 : Int → Option Mem) =>
      fX1_weigh_L28 μ3 K6 x2 p1 fuel 1 0
def fX1_weigh (p1 : Int) (μ : Mem) : Option Mem :=
  (some (filM μ 38 7 0)).bind fun μ1 =>
  fX1_weigh_L10 p1 fuel 0 μ1
theorem K_X1_weigh  (p1 : Int)  (μ : Mem) : Con yX1_weigh cX1_weigh 5 (none) 6 [.inr (.inr 0), .inl p1] μ (fX1_weigh p1 μ) wV := by
  refine con_of (own := RX1) (by decide) rfl (Nat.le_of_ble_eq_true rfl) ?_
  show Sim cX1_weigh 5 RX1 (6) (none) wV 0 [(0, .inr (.inr 0)), (1, .inl p1)] [] μ (fX1_weigh p1 μ)
  unfold fX1_weigh
  refine S_aload_n dX1_weigh_0 rfl ?_
  refine S_getR (c1 := 38) dX1_weigh_1 rfl fl_X1_71 rfl rfl rfl ?_
  refine S_iconst dX1_weigh_4 rfl ?_
  refine S_callS_V dX1_weigh_5 [.inr (.inr 38), .inl 0] (K_fillI rfl (by decide) (by decide) 0 μ) jl_X1_77 jy_fillI rfl rfl rfl (fun μ1 => ?_)
  refine S_iconst dX1_weigh_8 rfl ?_
  refine S_istore_n (lv' := [(2, .inl 0), (0, .inr (.inr 0)), (1, .inl p1)]) dX1_weigh_9 rfl rfl ?_
  have hL10 : ∀ (n4 : Nat) (x2 : Int) (μ3 : Mem), Sim cX1_weigh 5 RX1 (6) (none) wV 10 [(0, .inr (.inr 0)), (1, .inl p1), (2, .inl x2)] [] μ3 (fX1_weigh_L10 p1 n4 x2 μ3) := by
    intro n4
    induction n4 with
    | zero =>
      intro x2 μ3
      exact S_none rfl
    | succ n4 ih =>
      intro x2 μ3
      rw [fX1_weigh_L10]
      refine S_iload_n dX1_weigh_10 rfl ?_
      refine S_iconst dX1_weigh_11 rfl ?_
      refine S_aload_n dX1_weigh_12 rfl ?_
      refine S_getR (c1 := 20) dX1_weigh_13 rfl fl_X1_33 rfl rfl rfl ?_
      refine S_getI dX1_weigh_16 rfl fl_X1_122 rfl rfl ?_
      refine S_ishl dX1_weigh_19 ?_
      refine S_ic_ge (tgt := 92) dX1_weigh_20 (by decide) (fun h20 => ?_) (fun h20 => ?_)
      · exact S_vret dX1_weigh_92 rfl rfl
      · refine S_iconst dX1_weigh_23 rfl ?_
        refine S_istore_n (lv' := [(3, .inl 1), (0, .inr (.inr 0)), (1, .inl p1), (2, .inl x2)]) dX1_weigh_24 rfl rfl ?_
        refine S_iconst dX1_weigh_25 rfl ?_
        refine S_istore (lv' := [(4, .inl 0), (3, .inl 1), (0, .inr (.inr 0)), (1, .inl p1), (2, .inl x2)]) dX1_weigh_26 rfl rfl ?_
        refine S_jn (fun (K6 : Int → Option Mem) => ∀ (x5 : Int), Sim cX1_weigh 5 RX1 (6) (none) wV 66 [(0, .inr (.inr 0)), (1, .inl p1), (2, .inl x2), (3, .inl x5)] [] μ3 (K6 x5)) ?_ (fun K6 hK6 => ?_)
        · intro x5
          refine S_aload_n dX1_weigh_66 rfl ?_
          refine S_getR (c1 := 38) dX1_weigh_67 rfl fl_X1_71 rfl rfl rfl ?_
          refine S_aload_n dX1_weigh_70 rfl ?_
          refine S_getR (c1 := 20) dX1_weigh_71 rfl fl_X1_33 rfl rfl rfl ?_
          refine S_iload_n dX1_weigh_74 rfl ?_
          refine S_callW_I dX1_weigh_75 [.inl x2] (K_X0_holder (by unfold isBk; decide) x2 μ3) l_X1_145 yo_X0_holder rfl rfl rfl rfl rfl (fun x7 => ?_)
          refine S_callS_I dX1_weigh_78 [.inl x7] (K_X1_placeOf x7 μ3) l_X1_296 yo_X1_placeOf rfl rfl rfl (fun x8 => ?_)
          refine S_dup2 dX1_weigh_81 rfl rfl ?_
          refine S_iald (N := 7) dX1_weigh_82 rfl (by decide) rfl ?_
          refine S_iload_n dX1_weigh_83 rfl ?_
          refine S_iadd dX1_weigh_84 ?_
          refine S_iast (N := 7) dX1_weigh_85 rfl (by decide) rfl (fun μ9 => ?_)
          refine S_iinc (lv' := fun x10 => [(2, .inl x10), (0, .inr (.inr 0)), (1, .inl p1), (3, .inl x5)]) dX1_weigh_86 rfl rfl rfl (fun _ => rfl) (fun x10 => ?_)
          refine S_goto (tgt := 10) dX1_weigh_89 (by decide) ?_
          exact S_sub [1, 2, 0] rfl (ih x10 μ9)
        have hL28 : ∀ (n13 : Nat) (x11 : Int) (x12 : Int), Sim cX1_weigh 5 RX1 (6) (none) wV 28 [(0, .inr (.inr 0)), (1, .inl p1), (2, .inl x2), (3, .inl x11), (4, .inl x12)] [] μ3 (fX1_weigh_L28 μ3 K6 x2 p1 n13 x11 x12) := by
          intro n13
          induction n13 with
          | zero =>
            intro x11 x12
            exact S_none rfl
          | succ n13 ih =>
            intro x11 x12
            rw [fX1_weigh_L28]
            refine S_iload dX1_weigh_28 rfl ?_
            refine S_aload_n dX1_weigh_30 rfl ?_
            refine S_getR (c1 := 20) dX1_weigh_31 rfl fl_X1_33 rfl rfl rfl ?_
            refine S_getI dX1_weigh_34 rfl fl_X1_122 rfl rfl ?_
            refine S_ic_ge (tgt := 66) dX1_weigh_37 (by decide) (fun h19 => ?_) (fun h19 => ?_)
            · exact S_sub [0, 1, 2, 3] rfl (hK6 x11)
            · refine S_iload_n dX1_weigh_40 rfl ?_
              refine S_iload_n dX1_weigh_41 rfl ?_
              refine S_iload dX1_weigh_42 rfl ?_
              refine S_ishr dX1_weigh_44 ?_
              refine S_iconst dX1_weigh_45 rfl ?_
              refine S_iand dX1_weigh_46 ?_
              refine S_jn (fun (K15 : Int → Option Mem) => ∀ (x14 : Int), Sim cX1_weigh 5 RX1 (6) (none) wV 58 [(0, .inr (.inr 0)), (1, .inl p1), (2, .inl x2), (4, .inl x12)] [.inl x14, .inl x11] μ3 (K15 x14)) ?_ (fun K15 hK15 => ?_)
              · intro x14
                refine S_imul dX1_weigh_58 ?_
                refine S_let (fun x16 => ?_)
                refine S_istore_n (lv' := [(3, .inl x16), (0, .inr (.inr 0)), (1, .inl p1), (2, .inl x2), (4, .inl x12)]) dX1_weigh_59 rfl rfl ?_
                refine S_iinc (lv' := fun x17 => [(4, .inl x17), (3, .inl x16), (0, .inr (.inr 0)), (1, .inl p1), (2, .inl x2)]) dX1_weigh_60 rfl rfl rfl (fun _ => rfl) (fun x17 => ?_)
                refine S_goto (tgt := 28) dX1_weigh_63 (by decide) ?_
                exact S_sub [2, 3, 4, 1, 0] rfl (ih x16 x17)
              refine S_if_eq (tgt := 54) dX1_weigh_47 (by decide) (fun h18 => ?_) (fun h18 => ?_)
              · refine S_bipush dX1_weigh_54 rfl (by decide) ?_
                refine S_iload_n dX1_weigh_56 rfl ?_
                refine S_isub dX1_weigh_57 ?_
                exact S_sub [0, 1, 2, 4] rfl (hK15 (w32 (12 - p1)))
              · refine S_iload_n dX1_weigh_50 rfl ?_
                refine S_goto (tgt := 58) dX1_weigh_51 (by decide) ?_
                exact S_sub [0, 1, 2, 4] rfl (hK15 p1)
        exact S_sub [2, 3, 4, 1, 0] rfl (hL28 fuel 1 0)
  exact S_sub [1, 2, 0] rfl (hL10 fuel 0 μ1)
def fX1_odds (p1 : Int) (p2 : Int) (μ : Mem) : Option (Int × Mem) :=
  (fX0_has 20 p1 μ).bind fun x1 =>
  if x1 = 0 then
    some ((-1), μ)
  else
    (fX1_isWithin p2 0 12 μ).bind fun x2 =>
    if ¬ x2 = 0 then
      (fX1_weigh p2 μ).bind fun μ3 =>
      grd (0 ≤ p1 ∧ p1 < 7) <|
      (fX1_allWeight μ3).bind fun x4 =>
      (fX1_tellRatio (μ3 38 (p1).toNat) x4 μ3).bind fun μ5 =>
      some (1, μ5)
    else
      some ((-1), μ)
theorem K_X1_odds  (p1 : Int) (p2 : Int)  (μ : Mem) : Con yX1_odds cX1_odds 3 (some .int) 7 [.inr (.inr 0), .inl p1, .inl p2] μ (fX1_odds p1 p2 μ) wI := by
  refine con_of (own := RX1) (by decide) rfl (Nat.le_of_ble_eq_true rfl) ?_
  show Sim cX1_odds 3 RX1 (7) (some .int) wI 0 [(0, .inr (.inr 0)), (1, .inl p1), (2, .inl p2)] [] μ (fX1_odds p1 p2 μ)
  unfold fX1_odds
  refine S_aload_n dX1_odds_0 rfl ?_
  refine S_getR (c1 := 20) dX1_odds_1 rfl fl_X1_33 rfl rfl rfl ?_
  refine S_iload_n dX1_odds_4 rfl ?_
  refine S_callW_I dX1_odds_5 [.inl p1] (K_X0_has (by unfold isBk; decide) p1 μ) l_X1_125 yo_X0_has rfl rfl rfl rfl rfl (fun x1 => ?_)
  refine S_if_eq (tgt := 21) dX1_odds_8 (by decide) (fun h7 => ?_) (fun h7 => ?_)
  · refine S_iconst dX1_odds_21 rfl ?_
    exact S_iret dX1_odds_22 rfl rfl
  · refine S_iload_n dX1_odds_11 rfl ?_
    refine S_iconst dX1_odds_12 rfl ?_
    refine S_bipush dX1_odds_13 rfl (by decide) ?_
    refine S_callS_I dX1_odds_15 [.inl p2, .inl 0, .inl 12] (K_X1_isWithin p2 0 12 μ) l_X1_128 yo_X1_isWithin rfl rfl rfl (fun x2 => ?_)
    refine S_if_ne (tgt := 23) dX1_odds_18 (by decide) (fun h6 => ?_) (fun h6 => ?_)
    · refine S_aload_n dX1_odds_23 rfl ?_
      refine S_iload_n dX1_odds_24 rfl ?_
      refine S_callV_V dX1_odds_25 [.inl p2] (K_X1_weigh p2 μ) l_X1_217 yo_X1_weigh rfl rfl rfl rfl rfl (fun μ3 => ?_)
      refine S_aload_n dX1_odds_28 rfl ?_
      refine S_aload_n dX1_odds_29 rfl ?_
      refine S_getR (c1 := 38) dX1_odds_30 rfl fl_X1_71 rfl rfl rfl ?_
      refine S_iload_n dX1_odds_33 rfl ?_
      refine S_iald (N := 7) dX1_odds_34 rfl (by decide) rfl ?_
      refine S_i2l dX1_odds_35 ?_
      refine S_aload_n dX1_odds_36 rfl ?_
      refine S_callV_I dX1_odds_37 [] (K_X1_allWeight μ3) l_X1_220 yo_X1_allWeight rfl rfl rfl rfl rfl (fun x4 => ?_)
      refine S_i2l dX1_odds_40 ?_
      refine S_callV_V dX1_odds_41 [.inr (.inl (μ3 38 (p1).toNat)), .inr (.inl x4)] (K_X1_tellRatio (μ3 38 (p1).toNat) x4 μ3) l_X1_209 yo_X1_tellRatio rfl rfl rfl rfl rfl (fun μ5 => ?_)
      refine S_iconst dX1_odds_44 rfl ?_
      exact S_iret dX1_odds_45 rfl rfl
    · refine S_iconst dX1_odds_21 rfl ?_
      exact S_iret dX1_odds_22 rfl rfl
