theorem dX1_leastShame_0 : decode cX1_leastShame 0 = .ok (.aload_n 0, 1) := by decide +kernel
theorem dX1_leastShame_1 : decode cX1_leastShame 1 = .ok (.getfield 33, 3) := by decide +kernel
theorem dX1_leastShame_4 : decode cX1_leastShame 4 = .ok (.iload_n 1, 1) := by decide +kernel
theorem dX1_leastShame_5 : decode cX1_leastShame 5 = .ok (.iload_n 2, 1) := by decide +kernel
theorem dX1_leastShame_6 : decode cX1_leastShame 6 = .ok (.invokevirtual 305, 3) := by decide +kernel
theorem dX1_leastShame_9 : decode cX1_leastShame 9 = .ok (.istore 4, 2) := by decide +kernel
theorem dX1_leastShame_11 : decode cX1_leastShame 11 = .ok (.iconst 0, 1) := by decide +kernel
theorem dX1_leastShame_12 : decode cX1_leastShame 12 = .ok (.istore 5, 2) := by decide +kernel
theorem dX1_leastShame_14 : decode cX1_leastShame 14 = .ok (.iload 5, 2) := by decide +kernel
theorem dX1_leastShame_16 : decode cX1_leastShame 16 = .ok (.aload_n 0, 1) := by decide +kernel
theorem dX1_leastShame_17 : decode cX1_leastShame 17 = .ok (.getfield 33, 3) := by decide +kernel
theorem dX1_leastShame_20 : decode cX1_leastShame 20 = .ok (.getfield 156, 3) := by decide +kernel
theorem dX1_leastShame_23 : decode cX1_leastShame 23 = .ok (.iload_n 1, 1) := by decide +kernel
theorem dX1_leastShame_24 : decode cX1_leastShame 24 = .ok (.iaload, 1) := by decide +kernel
theorem dX1_leastShame_25 : decode cX1_leastShame 25 = .ok (.if_icmp .gt 51, 3) := by decide +kernel
theorem dX1_leastShame_28 : decode cX1_leastShame 28 = .ok (.aload_n 0, 1) := by decide +kernel
theorem dX1_leastShame_29 : decode cX1_leastShame 29 = .ok (.getfield 33, 3) := by decide +kernel
theorem dX1_leastShame_32 : decode cX1_leastShame 32 = .ok (.iload_n 1, 1) := by decide +kernel
theorem dX1_leastShame_33 : decode cX1_leastShame 33 = .ok (.aload_n 0, 1) := by decide +kernel
theorem dX1_leastShame_34 : decode cX1_leastShame 34 = .ok (.getfield 33, 3) := by decide +kernel
theorem dX1_leastShame_37 : decode cX1_leastShame 37 = .ok (.getfield 156, 3) := by decide +kernel
theorem dX1_leastShame_40 : decode cX1_leastShame 40 = .ok (.iload_n 1, 1) := by decide +kernel
theorem dX1_leastShame_41 : decode cX1_leastShame 41 = .ok (.iaload, 1) := by decide +kernel
theorem dX1_leastShame_42 : decode cX1_leastShame 42 = .ok (.iload 5, 2) := by decide +kernel
theorem dX1_leastShame_44 : decode cX1_leastShame 44 = .ok (.isub, 1) := by decide +kernel
theorem dX1_leastShame_45 : decode cX1_leastShame 45 = .ok (.invokevirtual 299, 3) := by decide +kernel
theorem dX1_leastShame_48 : decode cX1_leastShame 48 = .ok (.istore 6, 2) := by decide +kernel
theorem dX1_leastShame_50 : decode cX1_leastShame 50 = .ok (.iload 6, 2) := by decide +kernel
theorem dX1_leastShame_52 : decode cX1_leastShame 52 = .ok (.iload_n 3, 1) := by decide +kernel
theorem dX1_leastShame_53 : decode cX1_leastShame 53 = .ok (.if_icmp .lt 14, 3) := by decide +kernel
theorem dX1_leastShame_56 : decode cX1_leastShame 56 = .ok (.iload 6, 2) := by decide +kernel
theorem dX1_leastShame_58 : decode cX1_leastShame 58 = .ok (.iload_n 3, 1) := by decide +kernel
theorem dX1_leastShame_59 : decode cX1_leastShame 59 = .ok (.if_icmp .ne 11, 3) := by decide +kernel
theorem dX1_leastShame_62 : decode cX1_leastShame 62 = .ok (.iload 4, 2) := by decide +kernel
theorem dX1_leastShame_64 : decode cX1_leastShame 64 = .ok (.ifCond .eq 6, 3) := by decide +kernel
theorem dX1_leastShame_67 : decode cX1_leastShame 67 = .ok (.iload 5, 2) := by decide +kernel
theorem dX1_leastShame_69 : decode cX1_leastShame 69 = .ok (.ireturn, 1) := by decide +kernel
theorem dX1_leastShame_70 : decode cX1_leastShame 70 = .ok (.iinc 5 1, 3) := by decide +kernel
theorem dX1_leastShame_73 : decode cX1_leastShame 73 = .ok (.goto (-59), 3) := by decide +kernel
theorem dX1_leastShame_76 : decode cX1_leastShame 76 = .ok (.bipush (-9), 2) := by decide +kernel
theorem dX1_leastShame_78 : decode cX1_leastShame 78 = .ok (.ireturn, 1) := by decide +kernel
theorem dX1_priceByShares_0 : decode cX1_priceByShares 0 = .ok (.aload_n 0, 1) := by decide +kernel
theorem dX1_priceByShares_1 : decode cX1_priceByShares 1 = .ok (.getfield 33, 3) := by decide +kernel
theorem dX1_priceByShares_4 : decode cX1_priceByShares 4 = .ok (.iload_n 1, 1) := by decide +kernel
theorem dX1_priceByShares_5 : decode cX1_priceByShares 5 = .ok (.aload_n 0, 1) := by decide +kernel
theorem dX1_priceByShares_6 : decode cX1_priceByShares 6 = .ok (.getfield 33, 3) := by decide +kernel
theorem dX1_priceByShares_9 : decode cX1_priceByShares 9 = .ok (.getfield 156, 3) := by decide +kernel
theorem dX1_priceByShares_12 : decode cX1_priceByShares 12 = .ok (.iload_n 1, 1) := by decide +kernel
theorem dX1_priceByShares_13 : decode cX1_priceByShares 13 = .ok (.iaload, 1) := by decide +kernel
theorem dX1_priceByShares_14 : decode cX1_priceByShares 14 = .ok (.iload_n 2, 1) := by decide +kernel
theorem dX1_priceByShares_15 : decode cX1_priceByShares 15 = .ok (.iadd, 1) := by decide +kernel
theorem dX1_priceByShares_16 : decode cX1_priceByShares 16 = .ok (.invokevirtual 299, 3) := by decide +kernel
theorem dX1_priceByShares_19 : decode cX1_priceByShares 19 = .ok (.istore_n 3, 1) := by decide +kernel
theorem dX1_priceByShares_20 : decode cX1_priceByShares 20 = .ok (.iload_n 3, 1) := by decide +kernel
theorem dX1_priceByShares_21 : decode cX1_priceByShares 21 = .ok (.ifCond .ne 6, 3) := by decide +kernel
theorem dX1_priceByShares_24 : decode cX1_priceByShares 24 = .ok (.bipush (-9), 2) := by decide +kernel
theorem dX1_priceByShares_26 : decode cX1_priceByShares 26 = .ok (.ireturn, 1) := by decide +kernel
theorem dX1_priceByShares_27 : decode cX1_priceByShares 27 = .ok (.iload_n 2, 1) := by decide +kernel
theorem dX1_priceByShares_28 : decode cX1_priceByShares 28 = .ok (.istore 4, 2) := by decide +kernel
theorem dX1_priceByShares_30 : decode cX1_priceByShares 30 = .ok (.iconst 0, 1) := by decide +kernel
theorem dX1_priceByShares_31 : decode cX1_priceByShares 31 = .ok (.istore 5, 2) := by decide +kernel
theorem dX1_priceByShares_33 : decode cX1_priceByShares 33 = .ok (.iload 5, 2) := by decide +kernel
theorem dX1_priceByShares_35 : decode cX1_priceByShares 35 = .ok (.aload_n 0, 1) := by decide +kernel
theorem dX1_priceByShares_36 : decode cX1_priceByShares 36 = .ok (.getfield 33, 3) := by decide +kernel
theorem dX1_priceByShares_39 : decode cX1_priceByShares 39 = .ok (.getfield 122, 3) := by decide +kernel
theorem dX1_priceByShares_42 : decode cX1_priceByShares 42 = .ok (.if_icmp .ge 71, 3) := by decide +kernel
theorem dX1_priceByShares_45 : decode cX1_priceByShares 45 = .ok (.aload_n 0, 1) := by decide +kernel
theorem dX1_priceByShares_46 : decode cX1_priceByShares 46 = .ok (.getfield 68, 3) := by decide +kernel
theorem dX1_priceByShares_49 : decode cX1_priceByShares 49 = .ok (.iload 5, 2) := by decide +kernel
theorem dX1_priceByShares_51 : decode cX1_priceByShares 51 = .ok (.iload 5, 2) := by decide +kernel
theorem dX1_priceByShares_53 : decode cX1_priceByShares 53 = .ok (.iload_n 1, 1) := by decide +kernel
theorem dX1_priceByShares_54 : decode cX1_priceByShares 54 = .ok (.if_icmp .ne 7, 3) := by decide +kernel
theorem dX1_priceByShares_57 : decode cX1_priceByShares 57 = .ok (.iload_n 2, 1) := by decide +kernel
theorem dX1_priceByShares_58 : decode cX1_priceByShares 58 = .ok (.goto 11, 3) := by decide +kernel
theorem dX1_priceByShares_61 : decode cX1_priceByShares 61 = .ok (.aload_n 0, 1) := by decide +kernel
theorem dX1_priceByShares_62 : decode cX1_priceByShares 62 = .ok (.iload 5, 2) := by decide +kernel
theorem dX1_priceByShares_64 : decode cX1_priceByShares 64 = .ok (.iload_n 1, 1) := by decide +kernel
theorem dX1_priceByShares_65 : decode cX1_priceByShares 65 = .ok (.iload_n 3, 1) := by decide +kernel
theorem dX1_priceByShares_66 : decode cX1_priceByShares 66 = .ok (.invokevirtual 302, 3) := by decide +kernel
theorem dX1_priceByShares_69 : decode cX1_priceByShares 69 = .ok (.iastore, 1) := by decide +kernel
theorem dX1_priceByShares_70 : decode cX1_priceByShares 70 = .ok (.aload_n 0, 1) := by decide +kernel
theorem dX1_priceByShares_71 : decode cX1_priceByShares 71 = .ok (.getfield 68, 3) := by decide +kernel
theorem dX1_priceByShares_74 : decode cX1_priceByShares 74 = .ok (.iload 5, 2) := by decide +kernel
theorem dX1_priceByShares_76 : decode cX1_priceByShares 76 = .ok (.iaload, 1) := by decide +kernel
theorem dX1_priceByShares_77 : decode cX1_priceByShares 77 = .ok (.bipush (-9), 2) := by decide +kernel
theorem dX1_priceByShares_79 : decode cX1_priceByShares 79 = .ok (.if_icmp .ne 6, 3) := by decide +kernel
theorem dX1_priceByShares_82 : decode cX1_priceByShares 82 = .ok (.bipush (-9), 2) := by decide +kernel
theorem dX1_priceByShares_84 : decode cX1_priceByShares 84 = .ok (.ireturn, 1) := by decide +kernel
theorem dX1_priceByShares_85 : decode cX1_priceByShares 85 = .ok (.iload 4, 2) := by decide +kernel
theorem dX1_priceByShares_87 : decode cX1_priceByShares 87 = .ok (.iload 5, 2) := by decide +kernel
theorem dX1_priceByShares_89 : decode cX1_priceByShares 89 = .ok (.iload_n 1, 1) := by decide +kernel
theorem dX1_priceByShares_90 : decode cX1_priceByShares 90 = .ok (.if_icmp .ne 7, 3) := by decide +kernel
theorem dX1_priceByShares_93 : decode cX1_priceByShares 93 = .ok (.iconst 0, 1) := by decide +kernel
theorem dX1_priceByShares_94 : decode cX1_priceByShares 94 = .ok (.goto 10, 3) := by decide +kernel
theorem dX1_priceByShares_97 : decode cX1_priceByShares 97 = .ok (.aload_n 0, 1) := by decide +kernel
theorem dX1_priceByShares_98 : decode cX1_priceByShares 98 = .ok (.getfield 68, 3) := by decide +kernel
theorem dX1_priceByShares_101 : decode cX1_priceByShares 101 = .ok (.iload 5, 2) := by decide +kernel
theorem dX1_priceByShares_103 : decode cX1_priceByShares 103 = .ok (.iaload, 1) := by decide +kernel
theorem dX1_priceByShares_104 : decode cX1_priceByShares 104 = .ok (.iadd, 1) := by decide +kernel
theorem dX1_priceByShares_105 : decode cX1_priceByShares 105 = .ok (.istore 4, 2) := by decide +kernel
theorem dX1_priceByShares_107 : decode cX1_priceByShares 107 = .ok (.iinc 5 1, 3) := by decide +kernel
theorem dX1_priceByShares_110 : decode cX1_priceByShares 110 = .ok (.goto (-77), 3) := by decide +kernel
theorem dX1_priceByShares_113 : decode cX1_priceByShares 113 = .ok (.iload 4, 2) := by decide +kernel
theorem dX1_priceByShares_115 : decode cX1_priceByShares 115 = .ok (.ireturn, 1) := by decide +kernel
theorem dX1_cheap_0 : decode cX1_cheap 0 = .ok (.aload_n 0, 1) := by decide +kernel
theorem dX1_cheap_1 : decode cX1_cheap 1 = .ok (.getfield 33, 3) := by decide +kernel
theorem dX1_cheap_4 : decode cX1_cheap 4 = .ok (.iload_n 1, 1) := by decide +kernel
theorem dX1_cheap_5 : decode cX1_cheap 5 = .ok (.invokevirtual 125, 3) := by decide +kernel
theorem dX1_cheap_8 : decode cX1_cheap 8 = .ok (.ifCond .eq 10, 3) := by decide +kernel
theorem dX1_cheap_11 : decode cX1_cheap 11 = .ok (.iload_n 2, 1) := by decide +kernel
theorem dX1_cheap_12 : decode cX1_cheap 12 = .ok (.invokestatic 83, 3) := by decide +kernel
theorem dX1_cheap_15 : decode cX1_cheap 15 = .ok (.ifCond .ne 5, 3) := by decide +kernel
theorem dX1_cheap_18 : decode cX1_cheap 18 = .ok (.iconst (-1), 1) := by decide +kernel
theorem dX1_cheap_19 : decode cX1_cheap 19 = .ok (.ireturn, 1) := by decide +kernel
theorem dX1_cheap_20 : decode cX1_cheap 20 = .ok (.bipush (-9), 2) := by decide +kernel
theorem dX1_cheap_22 : decode cX1_cheap 22 = .ok (.istore_n 3, 1) := by decide +kernel
theorem dX1_cheap_23 : decode cX1_cheap 23 = .ok (.iconst 0, 1) := by decide +kernel
theorem dX1_cheap_24 : decode cX1_cheap 24 = .ok (.istore 4, 2) := by decide +kernel
theorem dX1_cheap_26 : decode cX1_cheap 26 = .ok (.iconst 0, 1) := by decide +kernel
theorem dX1_cheap_27 : decode cX1_cheap 27 = .ok (.istore 5, 2) := by decide +kernel
theorem dX1_cheap_29 : decode cX1_cheap 29 = .ok (.aload_n 0, 1) := by decide +kernel
theorem dX1_cheap_30 : decode cX1_cheap 30 = .ok (.getfield 33, 3) := by decide +kernel
theorem dX1_cheap_33 : decode cX1_cheap 33 = .ok (.getfield 156, 3) := by decide +kernel
theorem dX1_cheap_36 : decode cX1_cheap 36 = .ok (.iload_n 1, 1) := by decide +kernel
theorem dX1_cheap_37 : decode cX1_cheap 37 = .ok (.iaload, 1) := by decide +kernel
theorem dX1_cheap_38 : decode cX1_cheap 38 = .ok (.iload 5, 2) := by decide +kernel
theorem dX1_cheap_40 : decode cX1_cheap 40 = .ok (.iadd, 1) := by decide +kernel
theorem dX1_cheap_41 : decode cX1_cheap 41 = .ok (.bipush 20, 2) := by decide +kernel
theorem dX1_cheap_43 : decode cX1_cheap 43 = .ok (.if_icmp .gt 44, 3) := by decide +kernel
theorem dX1_cheap_46 : decode cX1_cheap 46 = .ok (.aload_n 0, 1) := by decide +kernel
theorem dX1_cheap_47 : decode cX1_cheap 47 = .ok (.iload_n 1, 1) := by decide +kernel
theorem dX1_cheap_48 : decode cX1_cheap 48 = .ok (.iload 5, 2) := by decide +kernel
theorem dX1_cheap_50 : decode cX1_cheap 50 = .ok (.invokevirtual 188, 3) := by decide +kernel
theorem dX1_cheap_53 : decode cX1_cheap 53 = .ok (.istore 6, 2) := by decide +kernel
theorem dX1_cheap_55 : decode cX1_cheap 55 = .ok (.iload 6, 2) := by decide +kernel
theorem dX1_cheap_57 : decode cX1_cheap 57 = .ok (.bipush (-9), 2) := by decide +kernel
theorem dX1_cheap_59 : decode cX1_cheap 59 = .ok (.if_icmp .eq 22, 3) := by decide +kernel
theorem dX1_cheap_62 : decode cX1_cheap 62 = .ok (.iload_n 3, 1) := by decide +kernel
theorem dX1_cheap_63 : decode cX1_cheap 63 = .ok (.bipush (-9), 2) := by decide +kernel
theorem dX1_cheap_65 : decode cX1_cheap 65 = .ok (.if_icmp .eq 9, 3) := by decide +kernel
theorem dX1_cheap_68 : decode cX1_cheap 68 = .ok (.iload 6, 2) := by decide +kernel
theorem dX1_cheap_70 : decode cX1_cheap 70 = .ok (.iload_n 3, 1) := by decide +kernel
theorem dX1_cheap_71 : decode cX1_cheap 71 = .ok (.if_icmp .ge 10, 3) := by decide +kernel
theorem dX1_cheap_74 : decode cX1_cheap 74 = .ok (.iload 6, 2) := by decide +kernel
theorem dX1_cheap_76 : decode cX1_cheap 76 = .ok (.istore_n 3, 1) := by decide +kernel
theorem dX1_cheap_77 : decode cX1_cheap 77 = .ok (.iload 5, 2) := by decide +kernel
theorem dX1_cheap_79 : decode cX1_cheap 79 = .ok (.istore 4, 2) := by decide +kernel
theorem dX1_cheap_81 : decode cX1_cheap 81 = .ok (.iinc 5 1, 3) := by decide +kernel
theorem dX1_cheap_84 : decode cX1_cheap 84 = .ok (.goto (-55), 3) := by decide +kernel
theorem dX1_cheap_87 : decode cX1_cheap 87 = .ok (.iload_n 3, 1) := by decide +kernel
theorem dX1_cheap_88 : decode cX1_cheap 88 = .ok (.bipush (-9), 2) := by decide +kernel
theorem dX1_cheap_90 : decode cX1_cheap 90 = .ok (.if_icmp .ne 6, 3) := by decide +kernel
theorem dX1_cheap_93 : decode cX1_cheap 93 = .ok (.bipush (-9), 2) := by decide +kernel
theorem dX1_cheap_95 : decode cX1_cheap 95 = .ok (.ireturn, 1) := by decide +kernel
theorem dX1_cheap_96 : decode cX1_cheap 96 = .ok (.aload_n 0, 1) := by decide +kernel
theorem dX1_cheap_97 : decode cX1_cheap 97 = .ok (.iload_n 1, 1) := by decide +kernel
theorem dX1_cheap_98 : decode cX1_cheap 98 = .ok (.iload 4, 2) := by decide +kernel
theorem dX1_cheap_100 : decode cX1_cheap 100 = .ok (.invokevirtual 188, 3) := by decide +kernel
theorem dX1_cheap_103 : decode cX1_cheap 103 = .ok (.pop, 1) := by decide +kernel
theorem dX1_cheap_104 : decode cX1_cheap 104 = .ok (.aload_n 0, 1) := by decide +kernel
theorem dX1_cheap_105 : decode cX1_cheap 105 = .ok (.iload_n 2, 1) := by decide +kernel
theorem dX1_cheap_106 : decode cX1_cheap 106 = .ok (.aload_n 0, 1) := by decide +kernel
theorem dX1_cheap_107 : decode cX1_cheap 107 = .ok (.getfield 33, 3) := by decide +kernel
theorem dX1_cheap_110 : decode cX1_cheap 110 = .ok (.getfield 122, 3) := by decide +kernel
theorem dX1_cheap_113 : decode cX1_cheap 113 = .ok (.invokevirtual 91, 3) := by decide +kernel
theorem dX1_cheap_116 : decode cX1_cheap 116 = .ok (.aload_n 0, 1) := by decide +kernel
theorem dX1_cheap_117 : decode cX1_cheap 117 = .ok (.getfield 68, 3) := by decide +kernel
theorem dX1_cheap_120 : decode cX1_cheap 120 = .ok (.iconst 0, 1) := by decide +kernel
theorem dX1_cheap_121 : decode cX1_cheap 121 = .ok (.aload_n 0, 1) := by decide +kernel
theorem dX1_cheap_122 : decode cX1_cheap 122 = .ok (.getfield 11, 3) := by decide +kernel
theorem dX1_cheap_125 : decode cX1_cheap 125 = .ok (.iload_n 2, 1) := by decide +kernel
theorem dX1_cheap_126 : decode cX1_cheap 126 = .ok (.aaload, 1) := by decide +kernel
theorem dX1_cheap_127 : decode cX1_cheap 127 = .ok (.iconst 0, 1) := by decide +kernel
theorem dX1_cheap_128 : decode cX1_cheap 128 = .ok (.aload_n 0, 1) := by decide +kernel
theorem dX1_cheap_129 : decode cX1_cheap 129 = .ok (.getfield 33, 3) := by decide +kernel
theorem dX1_cheap_132 : decode cX1_cheap 132 = .ok (.getfield 122, 3) := by decide +kernel
theorem dX1_cheap_135 : decode cX1_cheap 135 = .ok (.invokestatic 102, 3) := by decide +kernel
theorem dX1_cheap_138 : decode cX1_cheap 138 = .ok (.iload_n 3, 1) := by decide +kernel
theorem dX1_cheap_139 : decode cX1_cheap 139 = .ok (.ireturn, 1) := by decide +kernel
theorem dX1_goesAsideBy_0 : decode cX1_goesAsideBy 0 = .ok (.iconst 0, 1) := by decide +kernel
theorem dX1_goesAsideBy_1 : decode cX1_goesAsideBy 1 = .ok (.istore_n 2, 1) := by decide +kernel
theorem dX1_goesAsideBy_2 : decode cX1_goesAsideBy 2 = .ok (.iload_n 2, 1) := by decide +kernel
theorem dX1_goesAsideBy_3 : decode cX1_goesAsideBy 3 = .ok (.aload_n 0, 1) := by decide +kernel
theorem dX1_goesAsideBy_4 : decode cX1_goesAsideBy 4 = .ok (.getfield 14, 3) := by decide +kernel
theorem dX1_goesAsideBy_7 : decode cX1_goesAsideBy 7 = .ok (.iload_n 1, 1) := by decide +kernel
theorem dX1_goesAsideBy_8 : decode cX1_goesAsideBy 8 = .ok (.iaload, 1) := by decide +kernel
theorem dX1_goesAsideBy_9 : decode cX1_goesAsideBy 9 = .ok (.if_icmp .ge 29, 3) := by decide +kernel
theorem dX1_goesAsideBy_12 : decode cX1_goesAsideBy 12 = .ok (.aload_n 0, 1) := by decide +kernel
theorem dX1_goesAsideBy_13 : decode cX1_goesAsideBy 13 = .ok (.getfield 36, 3) := by decide +kernel
theorem dX1_goesAsideBy_16 : decode cX1_goesAsideBy 16 = .ok (.invokevirtual 184, 3) := by decide +kernel
theorem dX1_goesAsideBy_19 : decode cX1_goesAsideBy 19 = .ok (.aload_n 0, 1) := by decide +kernel
theorem dX1_goesAsideBy_20 : decode cX1_goesAsideBy 20 = .ok (.getfield 11, 3) := by decide +kernel
theorem dX1_goesAsideBy_23 : decode cX1_goesAsideBy 23 = .ok (.iload_n 1, 1) := by decide +kernel
theorem dX1_goesAsideBy_24 : decode cX1_goesAsideBy 24 = .ok (.aaload, 1) := by decide +kernel
theorem dX1_goesAsideBy_25 : decode cX1_goesAsideBy 25 = .ok (.iload_n 2, 1) := by decide +kernel
theorem dX1_goesAsideBy_26 : decode cX1_goesAsideBy 26 = .ok (.iaload, 1) := by decide +kernel
theorem dX1_goesAsideBy_27 : decode cX1_goesAsideBy 27 = .ok (.if_icmp .eq 5, 3) := by decide +kernel
theorem dX1_goesAsideBy_30 : decode cX1_goesAsideBy 30 = .ok (.iconst 0, 1) := by decide +kernel
theorem dX1_goesAsideBy_31 : decode cX1_goesAsideBy 31 = .ok (.ireturn, 1) := by decide +kernel
theorem dX1_goesAsideBy_32 : decode cX1_goesAsideBy 32 = .ok (.iinc 2 1, 3) := by decide +kernel
theorem dX1_goesAsideBy_35 : decode cX1_goesAsideBy 35 = .ok (.goto (-33), 3) := by decide +kernel
theorem dX1_goesAsideBy_38 : decode cX1_goesAsideBy 38 = .ok (.iconst 1, 1) := by decide +kernel
theorem dX1_goesAsideBy_39 : decode cX1_goesAsideBy 39 = .ok (.ireturn, 1) := by decide +kernel
theorem dX1_daringsBy_0 : decode cX1_daringsBy 0 = .ok (.iconst 0, 1) := by decide +kernel
theorem dX1_daringsBy_1 : decode cX1_daringsBy 1 = .ok (.istore_n 3, 1) := by decide +kernel
theorem dX1_daringsBy_2 : decode cX1_daringsBy 2 = .ok (.iconst 0, 1) := by decide +kernel
theorem dX1_daringsBy_3 : decode cX1_daringsBy 3 = .ok (.istore 4, 2) := by decide +kernel
theorem dX1_daringsBy_5 : decode cX1_daringsBy 5 = .ok (.iload 4, 2) := by decide +kernel
theorem dX1_daringsBy_7 : decode cX1_daringsBy 7 = .ok (.bipush 20, 2) := by decide +kernel
theorem dX1_daringsBy_9 : decode cX1_daringsBy 9 = .ok (.if_icmp .gt 46, 3) := by decide +kernel
theorem dX1_daringsBy_12 : decode cX1_daringsBy 12 = .ok (.aload_n 0, 1) := by decide +kernel
theorem dX1_daringsBy_13 : decode cX1_daringsBy 13 = .ok (.getfield 36, 3) := by decide +kernel
theorem dX1_daringsBy_16 : decode cX1_daringsBy 16 = .ok (.aload_n 0, 1) := by decide +kernel
theorem dX1_daringsBy_17 : decode cX1_daringsBy 17 = .ok (.getfield 33, 3) := by decide +kernel
theorem dX1_daringsBy_20 : decode cX1_daringsBy 20 = .ok (.invokevirtual 118, 3) := by decide +kernel
theorem dX1_daringsBy_23 : decode cX1_daringsBy 23 = .ok (.aload_n 0, 1) := by decide +kernel
theorem dX1_daringsBy_24 : decode cX1_daringsBy 24 = .ok (.getfield 36, 3) := by decide +kernel
theorem dX1_daringsBy_27 : decode cX1_daringsBy 27 = .ok (.getfield 156, 3) := by decide +kernel
theorem dX1_daringsBy_30 : decode cX1_daringsBy 30 = .ok (.iload_n 1, 1) := by decide +kernel
theorem dX1_daringsBy_31 : decode cX1_daringsBy 31 = .ok (.iload 4, 2) := by decide +kernel
theorem dX1_daringsBy_33 : decode cX1_daringsBy 33 = .ok (.iastore, 1) := by decide +kernel
theorem dX1_daringsBy_34 : decode cX1_daringsBy 34 = .ok (.aload_n 0, 1) := by decide +kernel
theorem dX1_daringsBy_35 : decode cX1_daringsBy 35 = .ok (.iload_n 2, 1) := by decide +kernel
theorem dX1_daringsBy_36 : decode cX1_daringsBy 36 = .ok (.invokevirtual 197, 3) := by decide +kernel
theorem dX1_daringsBy_39 : decode cX1_daringsBy 39 = .ok (.ifCond .eq 10, 3) := by decide +kernel
theorem dX1_daringsBy_42 : decode cX1_daringsBy 42 = .ok (.iload_n 3, 1) := by decide +kernel
theorem dX1_daringsBy_43 : decode cX1_daringsBy 43 = .ok (.iconst 1, 1) := by decide +kernel
theorem dX1_daringsBy_44 : decode cX1_daringsBy 44 = .ok (.iload 4, 2) := by decide +kernel
theorem dX1_daringsBy_46 : decode cX1_daringsBy 46 = .ok (.ishl, 1) := by decide +kernel
theorem dX1_daringsBy_47 : decode cX1_daringsBy 47 = .ok (.ior, 1) := by decide +kernel
theorem dX1_daringsBy_48 : decode cX1_daringsBy 48 = .ok (.istore_n 3, 1) := by decide +kernel
theorem dX1_daringsBy_49 : decode cX1_daringsBy 49 = .ok (.iinc 4 1, 3) := by decide +kernel
theorem dX1_daringsBy_52 : decode cX1_daringsBy 52 = .ok (.goto (-47), 3) := by decide +kernel
theorem dX1_daringsBy_55 : decode cX1_daringsBy 55 = .ok (.iload_n 3, 1) := by decide +kernel
theorem dX1_daringsBy_56 : decode cX1_daringsBy 56 = .ok (.ireturn, 1) := by decide +kernel
theorem dX1_refusalOfHolders_0 : decode cX1_refusalOfHolders 0 = .ok (.aload_n 0, 1) := by decide +kernel
theorem dX1_refusalOfHolders_1 : decode cX1_refusalOfHolders 1 = .ok (.getfield 33, 3) := by decide +kernel
theorem dX1_refusalOfHolders_4 : decode cX1_refusalOfHolders 4 = .ok (.iload_n 1, 1) := by decide +kernel
theorem dX1_refusalOfHolders_5 : decode cX1_refusalOfHolders 5 = .ok (.invokevirtual 125, 3) := by decide +kernel
theorem dX1_refusalOfHolders_8 : decode cX1_refusalOfHolders 8 = .ok (.ifCond .eq 10, 3) := by decide +kernel
theorem dX1_refusalOfHolders_11 : decode cX1_refusalOfHolders 11 = .ok (.iload_n 2, 1) := by decide +kernel
theorem dX1_refusalOfHolders_12 : decode cX1_refusalOfHolders 12 = .ok (.invokestatic 83, 3) := by decide +kernel
theorem dX1_refusalOfHolders_15 : decode cX1_refusalOfHolders 15 = .ok (.ifCond .ne 5, 3) := by decide +kernel
theorem dX1_refusalOfHolders_18 : decode cX1_refusalOfHolders 18 = .ok (.iconst (-1), 1) := by decide +kernel
theorem dX1_refusalOfHolders_19 : decode cX1_refusalOfHolders 19 = .ok (.ireturn, 1) := by decide +kernel
theorem dX1_refusalOfHolders_20 : decode cX1_refusalOfHolders 20 = .ok (.aload_n 0, 1) := by decide +kernel
theorem dX1_refusalOfHolders_21 : decode cX1_refusalOfHolders 21 = .ok (.getfield 14, 3) := by decide +kernel
theorem dX1_refusalOfHolders_24 : decode cX1_refusalOfHolders 24 = .ok (.iload_n 2, 1) := by decide +kernel
theorem dX1_refusalOfHolders_25 : decode cX1_refusalOfHolders 25 = .ok (.iaload, 1) := by decide +kernel
theorem dX1_refusalOfHolders_26 : decode cX1_refusalOfHolders 26 = .ok (.istore_n 3, 1) := by decide +kernel
theorem dX1_refusalOfHolders_27 : decode cX1_refusalOfHolders 27 = .ok (.iload_n 3, 1) := by decide +kernel
theorem dX1_refusalOfHolders_28 : decode cX1_refusalOfHolders 28 = .ok (.ifCond .ge 9, 3) := by decide +kernel
theorem dX1_refusalOfHolders_31 : decode cX1_refusalOfHolders 31 = .ok (.aload_n 0, 1) := by decide +kernel
theorem dX1_refusalOfHolders_32 : decode cX1_refusalOfHolders 32 = .ok (.iconst 1, 1) := by decide +kernel
theorem dX1_refusalOfHolders_33 : decode cX1_refusalOfHolders 33 = .ok (.invokevirtual 87, 3) := by decide +kernel
theorem dX1_refusalOfHolders_36 : decode cX1_refusalOfHolders 36 = .ok (.ireturn, 1) := by decide +kernel
theorem dX1_refusalOfHolders_37 : decode cX1_refusalOfHolders 37 = .ok (.iload_n 3, 1) := by decide +kernel
theorem dX1_refusalOfHolders_38 : decode cX1_refusalOfHolders 38 = .ok (.iconst 1, 1) := by decide +kernel
theorem dX1_refusalOfHolders_39 : decode cX1_refusalOfHolders 39 = .ok (.bipush 10, 2) := by decide +kernel
theorem dX1_refusalOfHolders_41 : decode cX1_refusalOfHolders 41 = .ok (.invokestatic 128, 3) := by decide +kernel
theorem dX1_refusalOfHolders_44 : decode cX1_refusalOfHolders 44 = .ok (.ifCond .ne 9, 3) := by decide +kernel
theorem dX1_refusalOfHolders_47 : decode cX1_refusalOfHolders 47 = .ok (.aload_n 0, 1) := by decide +kernel
theorem dX1_refusalOfHolders_48 : decode cX1_refusalOfHolders 48 = .ok (.iconst 5, 1) := by decide +kernel
theorem dX1_refusalOfHolders_49 : decode cX1_refusalOfHolders 49 = .ok (.invokevirtual 87, 3) := by decide +kernel
theorem dX1_refusalOfHolders_52 : decode cX1_refusalOfHolders 52 = .ok (.ireturn, 1) := by decide +kernel
theorem dX1_refusalOfHolders_53 : decode cX1_refusalOfHolders 53 = .ok (.iconst 0, 1) := by decide +kernel
theorem dX1_refusalOfHolders_54 : decode cX1_refusalOfHolders 54 = .ok (.istore 4, 2) := by decide +kernel
theorem dX1_refusalOfHolders_56 : decode cX1_refusalOfHolders 56 = .ok (.iload 4, 2) := by decide +kernel
theorem dX1_refusalOfHolders_58 : decode cX1_refusalOfHolders 58 = .ok (.iload_n 3, 1) := by decide +kernel
theorem dX1_refusalOfHolders_59 : decode cX1_refusalOfHolders 59 = .ok (.if_icmp .ge 34, 3) := by decide +kernel
theorem dX1_refusalOfHolders_62 : decode cX1_refusalOfHolders 62 = .ok (.aload_n 0, 1) := by decide +kernel
theorem dX1_refusalOfHolders_63 : decode cX1_refusalOfHolders 63 = .ok (.getfield 33, 3) := by decide +kernel
theorem dX1_refusalOfHolders_66 : decode cX1_refusalOfHolders 66 = .ok (.aload_n 0, 1) := by decide +kernel
theorem dX1_refusalOfHolders_67 : decode cX1_refusalOfHolders 67 = .ok (.getfield 11, 3) := by decide +kernel
theorem dX1_refusalOfHolders_70 : decode cX1_refusalOfHolders 70 = .ok (.iload_n 2, 1) := by decide +kernel
theorem dX1_refusalOfHolders_71 : decode cX1_refusalOfHolders 71 = .ok (.aaload, 1) := by decide +kernel
theorem dX1_refusalOfHolders_72 : decode cX1_refusalOfHolders 72 = .ok (.iload 4, 2) := by decide +kernel
theorem dX1_refusalOfHolders_74 : decode cX1_refusalOfHolders 74 = .ok (.iaload, 1) := by decide +kernel
theorem dX1_refusalOfHolders_75 : decode cX1_refusalOfHolders 75 = .ok (.invokevirtual 125, 3) := by decide +kernel
theorem dX1_refusalOfHolders_78 : decode cX1_refusalOfHolders 78 = .ok (.ifCond .ne 9, 3) := by decide +kernel
theorem dX1_refusalOfHolders_81 : decode cX1_refusalOfHolders 81 = .ok (.aload_n 0, 1) := by decide +kernel
theorem dX1_refusalOfHolders_82 : decode cX1_refusalOfHolders 82 = .ok (.iconst 3, 1) := by decide +kernel
theorem dX1_refusalOfHolders_83 : decode cX1_refusalOfHolders 83 = .ok (.invokevirtual 87, 3) := by decide +kernel
theorem dX1_refusalOfHolders_86 : decode cX1_refusalOfHolders 86 = .ok (.ireturn, 1) := by decide +kernel
theorem dX1_refusalOfHolders_87 : decode cX1_refusalOfHolders 87 = .ok (.iinc 4 1, 3) := by decide +kernel
theorem dX1_refusalOfHolders_90 : decode cX1_refusalOfHolders 90 = .ok (.goto (-34), 3) := by decide +kernel
theorem dX1_refusalOfHolders_93 : decode cX1_refusalOfHolders 93 = .ok (.iconst 0, 1) := by decide +kernel
theorem dX1_refusalOfHolders_94 : decode cX1_refusalOfHolders 94 = .ok (.ireturn, 1) := by decide +kernel
theorem dX1_darings_0 : decode cX1_darings 0 = .ok (.aload_n 0, 1) := by decide +kernel
theorem dX1_darings_1 : decode cX1_darings 1 = .ok (.iload_n 1, 1) := by decide +kernel
theorem dX1_darings_2 : decode cX1_darings 2 = .ok (.iload_n 2, 1) := by decide +kernel
theorem dX1_darings_3 : decode cX1_darings 3 = .ok (.invokevirtual 191, 3) := by decide +kernel
theorem dX1_darings_6 : decode cX1_darings 6 = .ok (.istore_n 3, 1) := by decide +kernel
theorem dX1_darings_7 : decode cX1_darings 7 = .ok (.iload_n 3, 1) := by decide +kernel
theorem dX1_darings_8 : decode cX1_darings 8 = .ok (.ifCond .eq 7, 3) := by decide +kernel
theorem dX1_darings_11 : decode cX1_darings 11 = .ok (.iload_n 3, 1) := by decide +kernel
theorem dX1_darings_12 : decode cX1_darings 12 = .ok (.goto 9, 3) := by decide +kernel
theorem dX1_darings_15 : decode cX1_darings 15 = .ok (.aload_n 0, 1) := by decide +kernel
theorem dX1_darings_16 : decode cX1_darings 16 = .ok (.iload_n 1, 1) := by decide +kernel
theorem dX1_darings_17 : decode cX1_darings 17 = .ok (.iload_n 2, 1) := by decide +kernel
theorem dX1_darings_18 : decode cX1_darings 18 = .ok (.invokevirtual 194, 3) := by decide +kernel
theorem dX1_darings_21 : decode cX1_darings 21 = .ok (.ireturn, 1) := by decide +kernel
theorem dX1_kinds_0 : decode cX1_kinds 0 = .ok (.aload_n 0, 1) := by decide +kernel
theorem dX1_kinds_1 : decode cX1_kinds 1 = .ok (.iload_n 1, 1) := by decide +kernel
theorem dX1_kinds_2 : decode cX1_kinds 2 = .ok (.iload_n 2, 1) := by decide +kernel
theorem dX1_kinds_3 : decode cX1_kinds 3 = .ok (.invokevirtual 191, 3) := by decide +kernel
theorem dX1_kinds_6 : decode cX1_kinds 6 = .ok (.istore_n 3, 1) := by decide +kernel
theorem dX1_kinds_7 : decode cX1_kinds 7 = .ok (.iload_n 3, 1) := by decide +kernel
theorem dX1_kinds_8 : decode cX1_kinds 8 = .ok (.ifCond .eq 5, 3) := by decide +kernel
theorem dX1_kinds_11 : decode cX1_kinds 11 = .ok (.iload_n 3, 1) := by decide +kernel
theorem dX1_kinds_12 : decode cX1_kinds 12 = .ok (.ireturn, 1) := by decide +kernel
theorem dX1_kinds_13 : decode cX1_kinds 13 = .ok (.iconst 0, 1) := by decide +kernel
theorem dX1_kinds_14 : decode cX1_kinds 14 = .ok (.istore 4, 2) := by decide +kernel
theorem dX1_kinds_16 : decode cX1_kinds 16 = .ok (.iconst 0, 1) := by decide +kernel
theorem dX1_kinds_17 : decode cX1_kinds 17 = .ok (.istore 5, 2) := by decide +kernel
theorem dX1_kinds_19 : decode cX1_kinds 19 = .ok (.iload 5, 2) := by decide +kernel
theorem dX1_kinds_21 : decode cX1_kinds 21 = .ok (.bipush 6, 2) := by decide +kernel
theorem dX1_kinds_23 : decode cX1_kinds 23 = .ok (.if_icmp .ge 48, 3) := by decide +kernel
theorem dX1_kinds_26 : decode cX1_kinds 26 = .ok (.aload_n 0, 1) := by decide +kernel
theorem dX1_kinds_27 : decode cX1_kinds 27 = .ok (.getfield 36, 3) := by decide +kernel
theorem dX1_kinds_30 : decode cX1_kinds 30 = .ok (.aload_n 0, 1) := by decide +kernel
theorem dX1_kinds_31 : decode cX1_kinds 31 = .ok (.getfield 33, 3) := by decide +kernel
theorem dX1_kinds_34 : decode cX1_kinds 34 = .ok (.invokevirtual 118, 3) := by decide +kernel
theorem dX1_kinds_37 : decode cX1_kinds 37 = .ok (.aload_n 0, 1) := by decide +kernel
theorem dX1_kinds_38 : decode cX1_kinds 38 = .ok (.getfield 36, 3) := by decide +kernel
theorem dX1_kinds_41 : decode cX1_kinds 41 = .ok (.getfield 135, 3) := by decide +kernel
theorem dX1_kinds_44 : decode cX1_kinds 44 = .ok (.iload_n 1, 1) := by decide +kernel
theorem dX1_kinds_45 : decode cX1_kinds 45 = .ok (.iload 5, 2) := by decide +kernel
theorem dX1_kinds_47 : decode cX1_kinds 47 = .ok (.iastore, 1) := by decide +kernel
theorem dX1_kinds_48 : decode cX1_kinds 48 = .ok (.aload_n 0, 1) := by decide +kernel
theorem dX1_kinds_49 : decode cX1_kinds 49 = .ok (.iload_n 2, 1) := by decide +kernel
theorem dX1_kinds_50 : decode cX1_kinds 50 = .ok (.invokevirtual 197, 3) := by decide +kernel
theorem dX1_kinds_53 : decode cX1_kinds 53 = .ok (.ifCond .eq 12, 3) := by decide +kernel
theorem dX1_kinds_56 : decode cX1_kinds 56 = .ok (.iload 4, 2) := by decide +kernel
theorem dX1_kinds_58 : decode cX1_kinds 58 = .ok (.iconst 1, 1) := by decide +kernel
theorem dX1_kinds_59 : decode cX1_kinds 59 = .ok (.iload 5, 2) := by decide +kernel
theorem dX1_kinds_61 : decode cX1_kinds 61 = .ok (.ishl, 1) := by decide +kernel
theorem dX1_kinds_62 : decode cX1_kinds 62 = .ok (.ior, 1) := by decide +kernel
theorem dX1_kinds_63 : decode cX1_kinds 63 = .ok (.istore 4, 2) := by decide +kernel
theorem dX1_kinds_65 : decode cX1_kinds 65 = .ok (.iinc 5 1, 3) := by decide +kernel
theorem dX1_kinds_68 : decode cX1_kinds 68 = .ok (.goto (-49), 3) := by decide +kernel
theorem dX1_kinds_71 : decode cX1_kinds 71 = .ok (.iload 4, 2) := by decide +kernel
theorem dX1_kinds_73 : decode cX1_kinds 73 = .ok (.ireturn, 1) := by decide +kernel
theorem dX1_placeOf_0 : decode cX1_placeOf 0 = .ok (.iload_n 0, 1) := by decide +kernel
theorem dX1_placeOf_1 : decode cX1_placeOf 1 = .ok (.bipush (-9), 2) := by decide +kernel
theorem dX1_placeOf_3 : decode cX1_placeOf 3 = .ok (.if_icmp .ne 8, 3) := by decide +kernel
theorem dX1_placeOf_6 : decode cX1_placeOf 6 = .ok (.bipush 6, 2) := by decide +kernel
theorem dX1_placeOf_8 : decode cX1_placeOf 8 = .ok (.goto 4, 3) := by decide +kernel
theorem dX1_placeOf_11 : decode cX1_placeOf 11 = .ok (.iload_n 0, 1) := by decide +kernel
theorem dX1_placeOf_12 : decode cX1_placeOf 12 = .ok (.ireturn, 1) := by decide +kernel
theorem dX1_countParts_0 : decode cX1_countParts 0 = .ok (.iconst 0, 1) := by decide +kernel
theorem dX1_countParts_1 : decode cX1_countParts 1 = .ok (.istore_n 3, 1) := by decide +kernel
theorem dX1_countParts_2 : decode cX1_countParts 2 = .ok (.iload_n 3, 1) := by decide +kernel
theorem dX1_countParts_3 : decode cX1_countParts 3 = .ok (.bipush 20, 2) := by decide +kernel
theorem dX1_countParts_5 : decode cX1_countParts 5 = .ok (.if_icmp .ge 19, 3) := by decide +kernel
theorem dX1_countParts_8 : decode cX1_countParts 8 = .ok (.aload_n 0, 1) := by decide +kernel
theorem dX1_countParts_9 : decode cX1_countParts 9 = .ok (.getfield 74, 3) := by decide +kernel
theorem dX1_countParts_12 : decode cX1_countParts 12 = .ok (.iload_n 3, 1) := by decide +kernel
theorem dX1_countParts_13 : decode cX1_countParts 13 = .ok (.aaload, 1) := by decide +kernel
theorem dX1_countParts_14 : decode cX1_countParts 14 = .ok (.iconst 0, 1) := by decide +kernel
theorem dX1_countParts_15 : decode cX1_countParts 15 = .ok (.invokestatic 77, 3) := by decide +kernel
theorem dX1_countParts_18 : decode cX1_countParts 18 = .ok (.iinc 3 1, 3) := by decide +kernel
theorem dX1_countParts_21 : decode cX1_countParts 21 = .ok (.goto (-19), 3) := by decide +kernel
theorem dX1_countParts_24 : decode cX1_countParts 24 = .ok (.iconst 0, 1) := by decide +kernel
theorem dX1_countParts_25 : decode cX1_countParts 25 = .ok (.istore_n 3, 1) := by decide +kernel
theorem dX1_countParts_26 : decode cX1_countParts 26 = .ok (.iload_n 3, 1) := by decide +kernel
theorem dX1_countParts_27 : decode cX1_countParts 27 = .ok (.bipush 20, 2) := by decide +kernel
theorem dX1_countParts_29 : decode cX1_countParts 29 = .ok (.if_icmp .gt 76, 3) := by decide +kernel
theorem dX1_countParts_32 : decode cX1_countParts 32 = .ok (.iload_n 2, 1) := by decide +kernel
theorem dX1_countParts_33 : decode cX1_countParts 33 = .ok (.iload_n 3, 1) := by decide +kernel
theorem dX1_countParts_34 : decode cX1_countParts 34 = .ok (.ishr, 1) := by decide +kernel
theorem dX1_countParts_35 : decode cX1_countParts 35 = .ok (.iconst 1, 1) := by decide +kernel
theorem dX1_countParts_36 : decode cX1_countParts 36 = .ok (.iand, 1) := by decide +kernel
theorem dX1_countParts_37 : decode cX1_countParts 37 = .ok (.ifCond .eq 62, 3) := by decide +kernel
theorem dX1_countParts_40 : decode cX1_countParts 40 = .ok (.aload_n 0, 1) := by decide +kernel
theorem dX1_countParts_41 : decode cX1_countParts 41 = .ok (.getfield 36, 3) := by decide +kernel
theorem dX1_countParts_44 : decode cX1_countParts 44 = .ok (.aload_n 0, 1) := by decide +kernel
theorem dX1_countParts_45 : decode cX1_countParts 45 = .ok (.getfield 33, 3) := by decide +kernel
theorem dX1_countParts_48 : decode cX1_countParts 48 = .ok (.invokevirtual 118, 3) := by decide +kernel
theorem dX1_countParts_51 : decode cX1_countParts 51 = .ok (.aload_n 0, 1) := by decide +kernel
theorem dX1_countParts_52 : decode cX1_countParts 52 = .ok (.getfield 36, 3) := by decide +kernel
theorem dX1_countParts_55 : decode cX1_countParts 55 = .ok (.getfield 156, 3) := by decide +kernel
theorem dX1_countParts_58 : decode cX1_countParts 58 = .ok (.iload_n 1, 1) := by decide +kernel
theorem dX1_countParts_59 : decode cX1_countParts 59 = .ok (.iload_n 3, 1) := by decide +kernel
theorem dX1_countParts_60 : decode cX1_countParts 60 = .ok (.iastore, 1) := by decide +kernel
theorem dX1_countParts_61 : decode cX1_countParts 61 = .ok (.iconst 0, 1) := by decide +kernel
theorem dX1_countParts_62 : decode cX1_countParts 62 = .ok (.istore 4, 2) := by decide +kernel
theorem dX1_countParts_64 : decode cX1_countParts 64 = .ok (.iload 4, 2) := by decide +kernel
theorem dX1_countParts_66 : decode cX1_countParts 66 = .ok (.bipush 20, 2) := by decide +kernel
theorem dX1_countParts_68 : decode cX1_countParts 68 = .ok (.if_icmp .ge 31, 3) := by decide +kernel
theorem dX1_countParts_71 : decode cX1_countParts 71 = .ok (.aload_n 0, 1) := by decide +kernel
theorem dX1_countParts_72 : decode cX1_countParts 72 = .ok (.getfield 74, 3) := by decide +kernel
theorem dX1_countParts_75 : decode cX1_countParts 75 = .ok (.iload 4, 2) := by decide +kernel
theorem dX1_countParts_77 : decode cX1_countParts 77 = .ok (.aaload, 1) := by decide +kernel
theorem dX1_countParts_78 : decode cX1_countParts 78 = .ok (.aload_n 0, 1) := by decide +kernel
theorem dX1_countParts_79 : decode cX1_countParts 79 = .ok (.getfield 36, 3) := by decide +kernel
theorem dX1_countParts_82 : decode cX1_countParts 82 = .ok (.invokevirtual 184, 3) := by decide +kernel
theorem dX1_countParts_85 : decode cX1_countParts 85 = .ok (.invokestatic 296, 3) := by decide +kernel
theorem dX1_countParts_88 : decode cX1_countParts 88 = .ok (.dup2, 1) := by decide +kernel
theorem dX1_countParts_89 : decode cX1_countParts 89 = .ok (.iaload, 1) := by decide +kernel
theorem dX1_countParts_90 : decode cX1_countParts 90 = .ok (.iconst 1, 1) := by decide +kernel
theorem dX1_countParts_91 : decode cX1_countParts 91 = .ok (.iadd, 1) := by decide +kernel
theorem dX1_countParts_92 : decode cX1_countParts 92 = .ok (.iastore, 1) := by decide +kernel
theorem dX1_countParts_93 : decode cX1_countParts 93 = .ok (.iinc 4 1, 3) := by decide +kernel
theorem dX1_countParts_96 : decode cX1_countParts 96 = .ok (.goto (-32), 3) := by decide +kernel
theorem dX1_countParts_99 : decode cX1_countParts 99 = .ok (.iinc 3 1, 3) := by decide +kernel
theorem dX1_countParts_102 : decode cX1_countParts 102 = .ok (.goto (-76), 3) := by decide +kernel
theorem dX1_countParts_105 : decode cX1_countParts 105 = .ok (.return_, 1) := by decide +kernel
theorem dX1_greatestPart_0 : decode cX1_greatestPart 0 = .ok (.iconst 0, 1) := by decide +kernel
theorem dX1_greatestPart_1 : decode cX1_greatestPart 1 = .ok (.istore_n 2, 1) := by decide +kernel
theorem dX1_greatestPart_2 : decode cX1_greatestPart 2 = .ok (.aload_n 0, 1) := by decide +kernel
theorem dX1_greatestPart_3 : decode cX1_greatestPart 3 = .ok (.getfield 74, 3) := by decide +kernel
theorem dX1_greatestPart_6 : decode cX1_greatestPart 6 = .ok (.iload_n 1, 1) := by decide +kernel
theorem dX1_greatestPart_7 : decode cX1_greatestPart 7 = .ok (.aaload, 1) := by decide +kernel
theorem dX1_greatestPart_8 : decode cX1_greatestPart 8 = .ok (.astore_n 3, 1) := by decide +kernel
theorem dX1_greatestPart_9 : decode cX1_greatestPart 9 = .ok (.aload_n 3, 1) := by decide +kernel
theorem dX1_greatestPart_10 : decode cX1_greatestPart 10 = .ok (.arraylength, 1) := by decide +kernel
theorem dX1_greatestPart_11 : decode cX1_greatestPart 11 = .ok (.istore 4, 2) := by decide +kernel
theorem dX1_greatestPart_13 : decode cX1_greatestPart 13 = .ok (.iconst 0, 1) := by decide +kernel
theorem dX1_greatestPart_14 : decode cX1_greatestPart 14 = .ok (.istore 5, 2) := by decide +kernel
theorem dX1_greatestPart_16 : decode cX1_greatestPart 16 = .ok (.iload 5, 2) := by decide +kernel
theorem dX1_greatestPart_18 : decode cX1_greatestPart 18 = .ok (.iload 4, 2) := by decide +kernel
theorem dX1_greatestPart_20 : decode cX1_greatestPart 20 = .ok (.if_icmp .ge 22, 3) := by decide +kernel
theorem dX1_greatestPart_23 : decode cX1_greatestPart 23 = .ok (.aload_n 3, 1) := by decide +kernel
theorem dX1_greatestPart_24 : decode cX1_greatestPart 24 = .ok (.iload 5, 2) := by decide +kernel
theorem dX1_greatestPart_26 : decode cX1_greatestPart 26 = .ok (.iaload, 1) := by decide +kernel
theorem dX1_greatestPart_27 : decode cX1_greatestPart 27 = .ok (.istore 6, 2) := by decide +kernel
theorem dX1_greatestPart_29 : decode cX1_greatestPart 29 = .ok (.iload_n 2, 1) := by decide +kernel
theorem dX1_greatestPart_30 : decode cX1_greatestPart 30 = .ok (.iload 6, 2) := by decide +kernel
theorem dX1_greatestPart_32 : decode cX1_greatestPart 32 = .ok (.invokestatic 288, 3) := by decide +kernel
theorem dX1_greatestPart_35 : decode cX1_greatestPart 35 = .ok (.istore_n 2, 1) := by decide +kernel
theorem dX1_greatestPart_36 : decode cX1_greatestPart 36 = .ok (.iinc 5 1, 3) := by decide +kernel
theorem dX1_greatestPart_39 : decode cX1_greatestPart 39 = .ok (.goto (-23), 3) := by decide +kernel
theorem dX1_greatestPart_42 : decode cX1_greatestPart 42 = .ok (.iload_n 2, 1) := by decide +kernel
theorem dX1_greatestPart_43 : decode cX1_greatestPart 43 = .ok (.ireturn, 1) := by decide +kernel
theorem l_X1_305 : mlW RX1 305 yX0_isBehind cX0_isBehind 3 (some .boolean) "DareFord" := ⟨in_ns (i := 462) (by decide +kernel) rfl, mt_X0_isBehind⟩
theorem l_X1_299 : mlW RX1 299 yX0_boldnessAt cX0_boldnessAt 3 (some .int) "DareFord" := ⟨in_ns (i := 457) (by decide +kernel) rfl, mt_X0_boldnessAt⟩
theorem fl_X1_68 : FLk RX1 68 1 16 := Or.inl (in_gd (i := 158) (by decide +kernel) rfl)
theorem mt_X1_leastShame : (Cond.instanceMethod yX1_leastShame ∈ gd_tbl ∧ Cond.selects yX1_leastShame.cls yX1_leastShame yX1_leastShame ∈ gd_tbl) ∧ Cond.initialized yX1_leastShame.cls ∈ gd_tbl ∧ Cond.code yX1_leastShame cX1_leastShame 7 (some .int) ∈ gd_tbl := ⟨⟨in_gd (i := 460) (by decide +kernel) rfl, in_gd (i := 23) (by decide +kernel) rfl⟩, in_gd (i := 84) (by decide +kernel) rfl, in_gd (i := 461) (by decide +kernel) rfl⟩
theorem yo_X1_leastShame : yOk yX1_leastShame 3 := ⟨by decide, by decide, by decide +kernel⟩
theorem l_X1_302 : mlV RX1 302 yX1_leastShame cX1_leastShame 7 (some .int) := ⟨in_gd (i := 458) (by decide +kernel) rfl, mt_X1_leastShame⟩
theorem mt_X1_priceByShares : (Cond.instanceMethod yX1_priceByShares ∈ gd_tbl ∧ Cond.selects yX1_priceByShares.cls yX1_priceByShares yX1_priceByShares ∈ gd_tbl) ∧ Cond.initialized yX1_priceByShares.cls ∈ gd_tbl ∧ Cond.code yX1_priceByShares cX1_priceByShares 6 (some .int) ∈ gd_tbl := ⟨⟨in_gd (i := 455) (by decide +kernel) rfl, in_gd (i := 22) (by decide +kernel) rfl⟩, in_gd (i := 84) (by decide +kernel) rfl, in_gd (i := 456) (by decide +kernel) rfl⟩
theorem yo_X1_priceByShares : yOk yX1_priceByShares 2 := ⟨by decide, by decide, by decide +kernel⟩
theorem l_X1_188 : mlV RX1 188 yX1_priceByShares cX1_priceByShares 6 (some .int) := ⟨in_gd (i := 453) (by decide +kernel) rfl, mt_X1_priceByShares⟩
theorem mt_X1_goesAsideBy : (Cond.instanceMethod yX1_goesAsideBy ∈ gd_tbl ∧ Cond.selects yX1_goesAsideBy.cls yX1_goesAsideBy yX1_goesAsideBy ∈ gd_tbl) ∧ Cond.initialized yX1_goesAsideBy.cls ∈ gd_tbl ∧ Cond.code yX1_goesAsideBy cX1_goesAsideBy 3 (some .boolean) ∈ gd_tbl := ⟨⟨in_gd (i := 477) (by decide +kernel) rfl, in_gd (i := 26) (by decide +kernel) rfl⟩, in_gd (i := 84) (by decide +kernel) rfl, in_gd (i := 478) (by decide +kernel) rfl⟩
theorem yo_X1_goesAsideBy : yOk yX1_goesAsideBy 1 := ⟨by decide, by decide, by decide +kernel⟩
theorem l_X1_197 : mlV RX1 197 yX1_goesAsideBy cX1_goesAsideBy 3 (some .boolean) := ⟨in_gd (i := 475) (by decide +kernel) rfl, mt_X1_goesAsideBy⟩
theorem mt_X1_refusalOfHolders : (Cond.instanceMethod yX1_refusalOfHolders ∈ gd_tbl ∧ Cond.selects yX1_refusalOfHolders.cls yX1_refusalOfHolders yX1_refusalOfHolders ∈ gd_tbl) ∧ Cond.initialized yX1_refusalOfHolders.cls ∈ gd_tbl ∧ Cond.code yX1_refusalOfHolders cX1_refusalOfHolders 5 (some .int) ∈ gd_tbl := ⟨⟨in_gd (i := 469) (by decide +kernel) rfl, in_gd (i := 24) (by decide +kernel) rfl⟩, in_gd (i := 84) (by decide +kernel) rfl, in_gd (i := 470) (by decide +kernel) rfl⟩
theorem yo_X1_refusalOfHolders : yOk yX1_refusalOfHolders 2 := ⟨by decide, by decide, by decide +kernel⟩
theorem l_X1_191 : mlV RX1 191 yX1_refusalOfHolders cX1_refusalOfHolders 5 (some .int) := ⟨in_gd (i := 467) (by decide +kernel) rfl, mt_X1_refusalOfHolders⟩
theorem mt_X1_daringsBy : (Cond.instanceMethod yX1_daringsBy ∈ gd_tbl ∧ Cond.selects yX1_daringsBy.cls yX1_daringsBy yX1_daringsBy ∈ gd_tbl) ∧ Cond.initialized yX1_daringsBy.cls ∈ gd_tbl ∧ Cond.code yX1_daringsBy cX1_daringsBy 5 (some .int) ∈ gd_tbl := ⟨⟨in_gd (i := 473) (by decide +kernel) rfl, in_gd (i := 25) (by decide +kernel) rfl⟩, in_gd (i := 84) (by decide +kernel) rfl, in_gd (i := 474) (by decide +kernel) rfl⟩
theorem yo_X1_daringsBy : yOk yX1_daringsBy 2 := ⟨by decide, by decide, by decide +kernel⟩
theorem l_X1_194 : mlV RX1 194 yX1_daringsBy cX1_daringsBy 5 (some .int) := ⟨in_gd (i := 471) (by decide +kernel) rfl, mt_X1_daringsBy⟩
theorem fl_X1_74 : FLk RX1 74 1 18 := Or.inl (in_gd (i := 160) (by decide +kernel) rfl)
theorem mt_X1_placeOf : Cond.static yX1_placeOf ∈ gd_tbl ∧ Cond.initialized yX1_placeOf.cls ∈ gd_tbl ∧ Cond.code yX1_placeOf cX1_placeOf 1 (some .int) ∈ gd_tbl := ⟨in_gd (i := 492) (by decide +kernel) rfl, in_gd (i := 84) (by decide +kernel) rfl, in_gd (i := 493) (by decide +kernel) rfl⟩
theorem yo_X1_placeOf : yOk yX1_placeOf 1 := ⟨by decide, by decide, by decide +kernel⟩
theorem l_X1_296 : mlS RX1 296 yX1_placeOf cX1_placeOf 1 (some .int) := ⟨in_gd (i := 491) (by decide +kernel) rfl, mt_X1_placeOf⟩
def fX1_leastShame_L14 (p1 : Int) (μ : Mem) (p3 : Int) (x1 : Int) : Nat → Int → Option Int
  | 0, _ => none
  | n3 + 1, x2 =>
    grd (0 ≤ p1 ∧ p1 < 6) <|
    if (μ 23 (p1).toNat) < x2 then
      some (-9)
    else
      grd (0 ≤ p1 ∧ p1 < 6) <|
      (fX0_boldnessAt 20 p1 (w32 ((μ 23 (p1).toNat) - x2)) μ).bind fun x4 =>
      if x4 < p3 then
        some x2
      else
        mlet (
          mlet (w32 (x2 + 1)) fun x6 =>
          fX1_leastShame_L14 p1 μ p3 x1 n3 x6
          : Option Int) fun (K5 : Option Int) =>
        if ¬ x4 = p3 then
          K5
        else
          if x1 = 0 then
            K5
          else
            some x2
def fX1_leastShame (p1 : Int) (p2 : Int) (p3 : Int) (μ : Mem) : Option Int :=
  (fX0_isBehind 20 p1 p2 μ).bind fun x1 =>
  fX1_leastShame_L14 p1 μ p3 x1 fuel 0
theorem K_X1_leastShame  (p1 : Int) (p2 : Int) (p3 : Int)  (μ : Mem) : Con yX1_leastShame cX1_leastShame 7 (some .int) 5 [.inr (.inr 0), .inl p1, .inl p2, .inl p3] μ (fX1_leastShame p1 p2 p3 μ) (rI μ) := by
  refine con_of (own := RX1) (by decide) rfl (Nat.le_of_ble_eq_true rfl) ?_
  show Sim cX1_leastShame 7 RX1 (5) (some .int) (rI μ) 0 [(0, .inr (.inr 0)), (1, .inl p1), (2, .inl p2), (3, .inl p3)] [] μ (fX1_leastShame p1 p2 p3 μ)
  unfold fX1_leastShame
  refine S_aload_n dX1_leastShame_0 rfl ?_
  refine S_getR (c1 := 20) dX1_leastShame_1 rfl fl_X1_33 rfl rfl rfl ?_
  refine S_iload_n dX1_leastShame_4 rfl ?_
  refine S_iload_n dX1_leastShame_5 rfl ?_
  refine S_callW_I dX1_leastShame_6 [.inl p1, .inl p2] (K_X0_isBehind (by unfold isBk; decide) p1 p2 μ) l_X1_305 yo_X0_isBehind rfl rfl rfl rfl rfl (fun x1 => ?_)
  refine S_istore (lv' := [(4, .inl x1), (0, .inr (.inr 0)), (1, .inl p1), (2, .inl p2), (3, .inl p3)]) dX1_leastShame_9 rfl rfl ?_
  refine S_iconst dX1_leastShame_11 rfl ?_
  refine S_istore (lv' := [(5, .inl 0), (4, .inl x1), (0, .inr (.inr 0)), (1, .inl p1), (2, .inl p2), (3, .inl p3)]) dX1_leastShame_12 rfl rfl ?_
  have hL14 : ∀ (n3 : Nat) (x2 : Int), Sim cX1_leastShame 7 RX1 (5) (some .int) (rI μ) 14 [(0, .inr (.inr 0)), (1, .inl p1), (3, .inl p3), (4, .inl x1), (5, .inl x2)] [] μ (fX1_leastShame_L14 p1 μ p3 x1 n3 x2) := by
    intro n3
    induction n3 with
    | zero =>
      intro x2
      exact S_none rfl
    | succ n3 ih =>
      intro x2
      rw [fX1_leastShame_L14]
      refine S_iload dX1_leastShame_14 rfl ?_
      refine S_aload_n dX1_leastShame_16 rfl ?_
      refine S_getR (c1 := 20) dX1_leastShame_17 rfl fl_X1_33 rfl rfl rfl ?_
      refine S_getR (c1 := 23) dX1_leastShame_20 rfl fl_X1_156 rfl rfl rfl ?_
      refine S_iload_n dX1_leastShame_23 rfl ?_
      refine S_iald (N := 6) dX1_leastShame_24 rfl (by decide) rfl ?_
      refine S_ic_gt (tgt := 76) dX1_leastShame_25 (by decide) (fun h10 => ?_) (fun h10 => ?_)
      · refine S_bipush dX1_leastShame_76 rfl (by decide) ?_
        exact S_iret dX1_leastShame_78 rfl rfl
      · refine S_aload_n dX1_leastShame_28 rfl ?_
        refine S_getR (c1 := 20) dX1_leastShame_29 rfl fl_X1_33 rfl rfl rfl ?_
        refine S_iload_n dX1_leastShame_32 rfl ?_
        refine S_aload_n dX1_leastShame_33 rfl ?_
        refine S_getR (c1 := 20) dX1_leastShame_34 rfl fl_X1_33 rfl rfl rfl ?_
        refine S_getR (c1 := 23) dX1_leastShame_37 rfl fl_X1_156 rfl rfl rfl ?_
        refine S_iload_n dX1_leastShame_40 rfl ?_
        refine S_iald (N := 6) dX1_leastShame_41 rfl (by decide) rfl ?_
        refine S_iload dX1_leastShame_42 rfl ?_
        refine S_isub dX1_leastShame_44 ?_
        refine S_callW_I dX1_leastShame_45 [.inl p1, .inl (w32 ((μ 23 (p1).toNat) - x2))] (K_X0_boldnessAt (by unfold isBk; decide) p1 (w32 ((μ 23 (p1).toNat) - x2)) μ) l_X1_299 yo_X0_boldnessAt rfl rfl rfl rfl rfl (fun x4 => ?_)
        refine S_istore (lv' := [(6, .inl x4), (0, .inr (.inr 0)), (1, .inl p1), (3, .inl p3), (4, .inl x1), (5, .inl x2)]) dX1_leastShame_48 rfl rfl ?_
        refine S_iload dX1_leastShame_50 rfl ?_
        refine S_iload_n dX1_leastShame_52 rfl ?_
        refine S_ic_lt (tgt := 67) dX1_leastShame_53 (by decide) (fun h9 => ?_) (fun h9 => ?_)
        · refine S_iload dX1_leastShame_67 rfl ?_
          exact S_iret dX1_leastShame_69 rfl rfl
        · refine S_iload dX1_leastShame_56 rfl ?_
          refine S_iload_n dX1_leastShame_58 rfl ?_
          refine S_jn (fun (K5 : Option Int) => Sim cX1_leastShame 7 RX1 (5) (some .int) (rI μ) 70 [(0, .inr (.inr 0)), (1, .inl p1), (3, .inl p3), (4, .inl x1), (5, .inl x2)] [] μ K5) ?_ (fun K5 hK5 => ?_)
          · skip
            refine S_iinc (lv' := fun x6 => [(5, .inl x6), (0, .inr (.inr 0)), (1, .inl p1), (3, .inl p3), (4, .inl x1)]) dX1_leastShame_70 rfl rfl rfl (fun _ => rfl) (fun x6 => ?_)
            refine S_goto (tgt := 14) dX1_leastShame_73 (by decide) ?_
            exact S_sub [1, 2, 3, 4, 0] rfl (ih x6)
          refine S_ic_ne (tgt := 70) dX1_leastShame_59 (by decide) (fun h8 => ?_) (fun h8 => ?_)
          · exact S_sub [1, 2, 3, 4, 5] rfl (hK5)
          · refine S_iload dX1_leastShame_62 rfl ?_
            refine S_if_eq (tgt := 70) dX1_leastShame_64 (by decide) (fun h7 => ?_) (fun h7 => ?_)
            · exact S_sub [1, 2, 3, 4, 5] rfl (hK5)
            · refine S_iload dX1_leastShame_67 rfl ?_
              exact S_iret dX1_leastShame_69 rfl rfl
  exact S_sub [2, 3, 5, 1, 0] rfl (hL14 fuel 0)
def fX1_priceByShares_L33 (p1 : Int) (x1 : Int) (p2 : Int) : Nat → Int → Int → Mem → Option (Int × Mem)
  | 0, _, _, _ => none
  | n5 + 1, x2, x3, μ4 =>
    if (μ4 20 4) ≤ x3 then
      some (x2, μ4)
    else
      mlet (fun (x6 : Int) =>
        grd (0 ≤ x3 ∧ x3 < 6) <|
        mlet (wr μ4 37 (x3).toNat x6) fun μ8 =>
        grd (0 ≤ x3 ∧ x3 < 6) <|
        if ¬ (μ8 37 (x3).toNat) = (-9) then
          mlet (fun (x9 : Int) =>
            mlet ((w32 (x2 + x9))) fun x11 =>
            mlet (w32 (x3 + 1)) fun x12 =>
            fX1_priceByShares_L33 p1 x1 p2 n5 x11 x12 μ8
            ) fun (K10 : Int → Option (Int × Mem)) =>
          if ¬ x3 = p1 then
            grd (0 ≤ x3 ∧ x3 < 6) <|
            K10 (μ8 37 (x3).toNat)
          else
            K10 0
        else
          some ((-9), μ8)
        ) fun (K7 : Int → Option (Int × Mem)) =>
      if ¬ x3 = p1 then
        (fX1_leastShame x3 p1 x1 μ4).bind fun x15 =>
        K7 x15
      else
        K7 p2
def fX1_priceByShares (p1 : Int) (p2 : Int) (μ : Mem) : Option (Int × Mem) :=
  grd (0 ≤ p1 ∧ p1 < 6) <|
  (fX0_boldnessAt 20 p1 (w32 ((μ 23 (p1).toNat) + p2)) μ).bind fun x1 =>
  if ¬ x1 = 0 then
    fX1_priceByShares_L33 p1 x1 p2 fuel p2 0 μ
  else
    some ((-9), μ)
theorem K_X1_priceByShares  (p1 : Int) (p2 : Int)  (μ : Mem) : Con yX1_priceByShares cX1_priceByShares 6 (some .int) 6 [.inr (.inr 0), .inl p1, .inl p2] μ (fX1_priceByShares p1 p2 μ) wI := by
  refine con_of (own := RX1) (by decide) rfl (Nat.le_of_ble_eq_true rfl) ?_
  show Sim cX1_priceByShares 6 RX1 (6) (some .int) wI 0 [(0, .inr (.inr 0)), (1, .inl p1), (2, .inl p2)] [] μ (fX1_priceByShares p1 p2 μ)
  unfold fX1_priceByShares
  refine S_aload_n dX1_priceByShares_0 rfl ?_
  refine S_getR (c1 := 20) dX1_priceByShares_1 rfl fl_X1_33 rfl rfl rfl ?_
  refine S_iload_n dX1_priceByShares_4 rfl ?_
  refine S_aload_n dX1_priceByShares_5 rfl ?_
  refine S_getR (c1 := 20) dX1_priceByShares_6 rfl fl_X1_33 rfl rfl rfl ?_
  refine S_getR (c1 := 23) dX1_priceByShares_9 rfl fl_X1_156 rfl rfl rfl ?_
  refine S_iload_n dX1_priceByShares_12 rfl ?_
  refine S_iald (N := 6) dX1_priceByShares_13 rfl (by decide) rfl ?_
  refine S_iload_n dX1_priceByShares_14 rfl ?_
  refine S_iadd dX1_priceByShares_15 ?_
  refine S_callW_I dX1_priceByShares_16 [.inl p1, .inl (w32 ((μ 23 (p1).toNat) + p2))] (K_X0_boldnessAt (by unfold isBk; decide) p1 (w32 ((μ 23 (p1).toNat) + p2)) μ) l_X1_299 yo_X0_boldnessAt rfl rfl rfl rfl rfl (fun x1 => ?_)
  refine S_istore_n (lv' := [(3, .inl x1), (0, .inr (.inr 0)), (1, .inl p1), (2, .inl p2)]) dX1_priceByShares_19 rfl rfl ?_
  refine S_iload_n dX1_priceByShares_20 rfl ?_
  refine S_if_ne (tgt := 27) dX1_priceByShares_21 (by decide) (fun h18 => ?_) (fun h18 => ?_)
  · refine S_iload_n dX1_priceByShares_27 rfl ?_
    refine S_istore (lv' := [(4, .inl p2), (3, .inl x1), (0, .inr (.inr 0)), (1, .inl p1), (2, .inl p2)]) dX1_priceByShares_28 rfl rfl ?_
    refine S_iconst dX1_priceByShares_30 rfl ?_
    refine S_istore (lv' := [(5, .inl 0), (4, .inl p2), (3, .inl x1), (0, .inr (.inr 0)), (1, .inl p1), (2, .inl p2)]) dX1_priceByShares_31 rfl rfl ?_
    have hL33 : ∀ (n5 : Nat) (x2 : Int) (x3 : Int) (μ4 : Mem), Sim cX1_priceByShares 6 RX1 (6) (some .int) wI 33 [(0, .inr (.inr 0)), (1, .inl p1), (2, .inl p2), (3, .inl x1), (4, .inl x2), (5, .inl x3)] [] μ4 (fX1_priceByShares_L33 p1 x1 p2 n5 x2 x3 μ4) := by
      intro n5
      induction n5 with
      | zero =>
        intro x2 x3 μ4
        exact S_none rfl
      | succ n5 ih =>
        intro x2 x3 μ4
        rw [fX1_priceByShares_L33]
        refine S_iload dX1_priceByShares_33 rfl ?_
        refine S_aload_n dX1_priceByShares_35 rfl ?_
        refine S_getR (c1 := 20) dX1_priceByShares_36 rfl fl_X1_33 rfl rfl rfl ?_
        refine S_getI dX1_priceByShares_39 rfl fl_X1_122 rfl rfl ?_
        refine S_ic_ge (tgt := 113) dX1_priceByShares_42 (by decide) (fun h17 => ?_) (fun h17 => ?_)
        · refine S_iload dX1_priceByShares_113 rfl ?_
          exact S_iret dX1_priceByShares_115 rfl rfl
        · refine S_aload_n dX1_priceByShares_45 rfl ?_
          refine S_getR (c1 := 37) dX1_priceByShares_46 rfl fl_X1_68 rfl rfl rfl ?_
          refine S_iload dX1_priceByShares_49 rfl ?_
          refine S_iload dX1_priceByShares_51 rfl ?_
          refine S_iload_n dX1_priceByShares_53 rfl ?_
          refine S_jn (fun (K7 : Int → Option (Int × Mem)) => ∀ (x6 : Int), Sim cX1_priceByShares 6 RX1 (6) (some .int) wI 69 [(0, .inr (.inr 0)), (1, .inl p1), (2, .inl p2), (3, .inl x1), (4, .inl x2), (5, .inl x3)] [.inl x6, .inl x3, .inr (.inr 37)] μ4 (K7 x6)) ?_ (fun K7 hK7 => ?_)
          · intro x6
            refine S_iast (N := 6) dX1_priceByShares_69 rfl (by decide) rfl (fun μ8 => ?_)
            refine S_aload_n dX1_priceByShares_70 rfl ?_
            refine S_getR (c1 := 37) dX1_priceByShares_71 rfl fl_X1_68 rfl rfl rfl ?_
            refine S_iload dX1_priceByShares_74 rfl ?_
            refine S_iald (N := 6) dX1_priceByShares_76 rfl (by decide) rfl ?_
            refine S_bipush dX1_priceByShares_77 rfl (by decide) ?_
            refine S_ic_ne (tgt := 85) dX1_priceByShares_79 (by decide) (fun h14 => ?_) (fun h14 => ?_)
            · refine S_iload dX1_priceByShares_85 rfl ?_
              refine S_iload dX1_priceByShares_87 rfl ?_
              refine S_iload_n dX1_priceByShares_89 rfl ?_
              refine S_jn (fun (K10 : Int → Option (Int × Mem)) => ∀ (x9 : Int), Sim cX1_priceByShares 6 RX1 (6) (some .int) wI 104 [(0, .inr (.inr 0)), (1, .inl p1), (2, .inl p2), (3, .inl x1), (5, .inl x3)] [.inl x9, .inl x2] μ8 (K10 x9)) ?_ (fun K10 hK10 => ?_)
              · intro x9
                refine S_iadd dX1_priceByShares_104 ?_
                refine S_let (fun x11 => ?_)
                refine S_istore (lv' := [(4, .inl x11), (0, .inr (.inr 0)), (1, .inl p1), (2, .inl p2), (3, .inl x1), (5, .inl x3)]) dX1_priceByShares_105 rfl rfl ?_
                refine S_iinc (lv' := fun x12 => [(5, .inl x12), (4, .inl x11), (0, .inr (.inr 0)), (1, .inl p1), (2, .inl p2), (3, .inl x1)]) dX1_priceByShares_107 rfl rfl rfl (fun _ => rfl) (fun x12 => ?_)
                refine S_goto (tgt := 33) dX1_priceByShares_110 (by decide) ?_
                exact S_sub [2, 3, 4, 5, 1, 0] rfl (ih x11 x12 μ8)
              refine S_ic_ne (tgt := 97) dX1_priceByShares_90 (by decide) (fun h13 => ?_) (fun h13 => ?_)
              · refine S_aload_n dX1_priceByShares_97 rfl ?_
                refine S_getR (c1 := 37) dX1_priceByShares_98 rfl fl_X1_68 rfl rfl rfl ?_
                refine S_iload dX1_priceByShares_101 rfl ?_
                refine S_iald (N := 6) dX1_priceByShares_103 rfl (by decide) rfl ?_
                exact S_sub [0, 1, 2, 3, 5] rfl (hK10 (μ8 37 (x3).toNat))
              · refine S_iconst dX1_priceByShares_93 rfl ?_
                refine S_goto (tgt := 104) dX1_priceByShares_94 (by decide) ?_
                exact S_sub [0, 1, 2, 3, 5] rfl (hK10 0)
            · refine S_bipush dX1_priceByShares_82 rfl (by decide) ?_
              exact S_iret dX1_priceByShares_84 rfl rfl
          refine S_ic_ne (tgt := 61) dX1_priceByShares_54 (by decide) (fun h16 => ?_) (fun h16 => ?_)
          · refine S_aload_n dX1_priceByShares_61 rfl ?_
            refine S_iload dX1_priceByShares_62 rfl ?_
            refine S_iload_n dX1_priceByShares_64 rfl ?_
            refine S_iload_n dX1_priceByShares_65 rfl ?_
            refine S_callV_I dX1_priceByShares_66 [.inl x3, .inl p1, .inl x1] (K_X1_leastShame x3 p1 x1 μ4) l_X1_302 yo_X1_leastShame rfl rfl rfl rfl rfl (fun x15 => ?_)
            exact S_sub [0, 1, 2, 3, 4, 5] rfl (hK7 x15)
          · refine S_iload_n dX1_priceByShares_57 rfl ?_
            refine S_goto (tgt := 69) dX1_priceByShares_58 (by decide) ?_
            exact S_sub [0, 1, 2, 3, 4, 5] rfl (hK7 p2)
    exact S_sub [3, 4, 5, 2, 1, 0] rfl (hL33 fuel p2 0 μ)
  · refine S_bipush dX1_priceByShares_24 rfl (by decide) ?_
    exact S_iret dX1_priceByShares_26 rfl rfl
def fX1_cheap_L29 (p1 : Int) (K6 : Int → Int → Mem → Option (Int × Mem)) : Nat → Int → Int → Int → Mem → Option (Int × Mem)
  | 0, _, _, _, _ => none
  | n17 + 1, x13, x14, x15, μ16 =>
    grd (0 ≤ p1 ∧ p1 < 6) <|
    if 20 < (w32 ((μ16 23 (p1).toNat) + x15)) then
      K6 x13 x14 μ16
    else
      bnd2 (fX1_priceByShares p1 x15 μ16) fun x18 μ19 =>
      mlet (fun (x20 : Int) (x21 : Int) =>
        mlet (w32 (x15 + 1)) fun x23 =>
        fX1_cheap_L29 p1 K6 n17 x20 x21 x23 μ19
        ) fun (K22 : Int → Int → Option (Int × Mem)) =>
      if x18 = (-9) then
        K22 x13 x14
      else
        mlet (
          K22 x18 x15
          : Option (Int × Mem)) fun (K24 : Option (Int × Mem)) =>
        if x13 = (-9) then
          K24
        else
          if x13 ≤ x18 then
            K22 x13 x14
          else
            K24
def fX1_cheap (p1 : Int) (p2 : Int) (μ : Mem) : Option (Int × Mem) :=
  (fX0_has 20 p1 μ).bind fun x1 =>
  if x1 = 0 then
    some ((-1), μ)
  else
    (fX1_isRow p2 μ).bind fun x2 =>
    if ¬ x2 = 0 then
      mlet (fun (x3 : Int) (x4 : Int) (μ5 : Mem) =>
        if ¬ x3 = (-9) then
          bnd2 (fX1_priceByShares p1 x4 μ5) fun x7 μ8 =>
          (fX1_layAnew p2 (μ8 20 4) μ8).bind fun μ9 =>
          grd (0 ≤ p2 ∧ p2 < 6) <|
          mlet (2 + (p2).toNat) fun c10 =>
          grd (0 ≤ (0 : Int) ∧ 0 ≤ (0 : Int) ∧ 0 ≤ (μ9 20 4) ∧ (0 : Int) + (μ9 20 4) ≤ 6 ∧ (0 : Int) + (μ9 20 4) ≤ 40) <|
          mlet (cpy μ9 37 ((0 : Int)).toNat c10 ((0 : Int)).toNat ((μ9 20 4)).toNat) fun μ11 =>
          some (x3, μ11)
        else
          some ((-9), μ5)
        ) fun (K6 : Int → Int → Mem → Option (Int × Mem)) =>
      fX1_cheap_L29 p1 K6 fuel (-9) 0 0 μ
    else
      some ((-1), μ)
theorem K_X1_cheap  (p1 : Int) (p2 : Int)  (μ : Mem) : Con yX1_cheap cX1_cheap 7 (some .int) 7 [.inr (.inr 0), .inl p1, .inl p2] μ (fX1_cheap p1 p2 μ) wI := by
  refine con_of (own := RX1) (by decide) rfl (Nat.le_of_ble_eq_true rfl) ?_
  show Sim cX1_cheap 7 RX1 (7) (some .int) wI 0 [(0, .inr (.inr 0)), (1, .inl p1), (2, .inl p2)] [] μ (fX1_cheap p1 p2 μ)
  unfold fX1_cheap
  refine S_aload_n dX1_cheap_0 rfl ?_
  refine S_getR (c1 := 20) dX1_cheap_1 rfl fl_X1_33 rfl rfl rfl ?_
  refine S_iload_n dX1_cheap_4 rfl ?_
  refine S_callW_I dX1_cheap_5 [.inl p1] (K_X0_has (by unfold isBk; decide) p1 μ) l_X1_125 yo_X0_has rfl rfl rfl rfl rfl (fun x1 => ?_)
  refine S_if_eq (tgt := 18) dX1_cheap_8 (by decide) (fun h30 => ?_) (fun h30 => ?_)
  · refine S_iconst dX1_cheap_18 rfl ?_
    exact S_iret dX1_cheap_19 rfl rfl
  · refine S_iload_n dX1_cheap_11 rfl ?_
    refine S_callS_I dX1_cheap_12 [.inl p2] (K_X1_isRow p2 μ) l_X1_83 yo_X1_isRow rfl rfl rfl (fun x2 => ?_)
    refine S_if_ne (tgt := 20) dX1_cheap_15 (by decide) (fun h29 => ?_) (fun h29 => ?_)
    · refine S_bipush dX1_cheap_20 rfl (by decide) ?_
      refine S_istore_n (lv' := [(3, .inl (-9)), (0, .inr (.inr 0)), (1, .inl p1), (2, .inl p2)]) dX1_cheap_22 rfl rfl ?_
      refine S_iconst dX1_cheap_23 rfl ?_
      refine S_istore (lv' := [(4, .inl 0), (3, .inl (-9)), (0, .inr (.inr 0)), (1, .inl p1), (2, .inl p2)]) dX1_cheap_24 rfl rfl ?_
      refine S_iconst dX1_cheap_26 rfl ?_
      refine S_istore (lv' := [(5, .inl 0), (4, .inl 0), (3, .inl (-9)), (0, .inr (.inr 0)), (1, .inl p1), (2, .inl p2)]) dX1_cheap_27 rfl rfl ?_
      refine S_jn (fun (K6 : Int → Int → Mem → Option (Int × Mem)) => ∀ (x3 : Int) (x4 : Int) (μ5 : Mem), Sim cX1_cheap 7 RX1 (7) (some .int) wI 87 [(0, .inr (.inr 0)), (1, .inl p1), (2, .inl p2), (3, .inl x3), (4, .inl x4)] [] μ5 (K6 x3 x4 μ5)) ?_ (fun K6 hK6 => ?_)
      · intro x3 x4 μ5
        refine S_iload_n dX1_cheap_87 rfl ?_
        refine S_bipush dX1_cheap_88 rfl (by decide) ?_
        refine S_ic_ne (tgt := 96) dX1_cheap_90 (by decide) (fun h12 => ?_) (fun h12 => ?_)
        · refine S_aload_n dX1_cheap_96 rfl ?_
          refine S_iload_n dX1_cheap_97 rfl ?_
          refine S_iload dX1_cheap_98 rfl ?_
          refine S_callV_M2 dX1_cheap_100 [.inl p1, .inl x4] (K_X1_priceByShares p1 x4 μ5) l_X1_188 yo_X1_priceByShares rfl rfl rfl rfl rfl (fun x7 μ8 => ?_)
          refine S_pop dX1_cheap_103 rfl ?_
          refine S_aload_n dX1_cheap_104 rfl ?_
          refine S_iload_n dX1_cheap_105 rfl ?_
          refine S_aload_n dX1_cheap_106 rfl ?_
          refine S_getR (c1 := 20) dX1_cheap_107 rfl fl_X1_33 rfl rfl rfl ?_
          refine S_getI dX1_cheap_110 rfl fl_X1_122 rfl rfl ?_
          refine S_callV_V dX1_cheap_113 [.inl p2, .inl (μ8 20 4)] (K_X1_layAnew p2 (μ8 20 4) μ8) l_X1_91 yo_X1_layAnew rfl rfl rfl rfl rfl (fun μ9 => ?_)
          refine S_aload_n dX1_cheap_116 rfl ?_
          refine S_getR (c1 := 37) dX1_cheap_117 rfl fl_X1_68 rfl rfl rfl ?_
          refine S_iconst dX1_cheap_120 rfl ?_
          refine S_aload_n dX1_cheap_121 rfl ?_
          refine S_getR (c1 := 1) dX1_cheap_122 rfl fl_X1_11 rfl rfl rfl ?_
          refine S_iload_n dX1_cheap_125 rfl ?_
          refine S_aald (N := 6) (c1 := 2) (c2 := 8) dX1_cheap_126 rfl (by decide) (by decide) rfl rfl rfl (fun c10 hc10 => ?_)
          refine S_iconst dX1_cheap_127 rfl ?_
          refine S_aload_n dX1_cheap_128 rfl ?_
          refine S_getR (c1 := 20) dX1_cheap_129 rfl fl_X1_33 rfl rfl rfl ?_
          refine S_getI dX1_cheap_132 rfl fl_X1_122 rfl rfl ?_
          refine S_acopy (N0 := 6) (N1 := 40) dX1_cheap_135 jl_X1_102 jm_an jm_as jm_S rfl (by decide) (kd_row hc10) (fam_lt hc10 (by decide)) rfl rfl rfl rfl jm_w (fun μ11 => ?_)
          refine S_iload_n dX1_cheap_138 rfl ?_
          exact S_iret dX1_cheap_139 rfl rfl
        · refine S_bipush dX1_cheap_93 rfl (by decide) ?_
          exact S_iret dX1_cheap_95 rfl rfl
      have hL29 : ∀ (n17 : Nat) (x13 : Int) (x14 : Int) (x15 : Int) (μ16 : Mem), Sim cX1_cheap 7 RX1 (7) (some .int) wI 29 [(0, .inr (.inr 0)), (1, .inl p1), (2, .inl p2), (3, .inl x13), (4, .inl x14), (5, .inl x15)] [] μ16 (fX1_cheap_L29 p1 K6 n17 x13 x14 x15 μ16) := by
        intro n17
        induction n17 with
        | zero =>
          intro x13 x14 x15 μ16
          exact S_none rfl
        | succ n17 ih =>
          intro x13 x14 x15 μ16
          rw [fX1_cheap_L29]
          refine S_aload_n dX1_cheap_29 rfl ?_
          refine S_getR (c1 := 20) dX1_cheap_30 rfl fl_X1_33 rfl rfl rfl ?_
          refine S_getR (c1 := 23) dX1_cheap_33 rfl fl_X1_156 rfl rfl rfl ?_
          refine S_iload_n dX1_cheap_36 rfl ?_
          refine S_iald (N := 6) dX1_cheap_37 rfl (by decide) rfl ?_
          refine S_iload dX1_cheap_38 rfl ?_
          refine S_iadd dX1_cheap_40 ?_
          refine S_bipush dX1_cheap_41 rfl (by decide) ?_
          refine S_ic_gt (tgt := 87) dX1_cheap_43 (by decide) (fun h28 => ?_) (fun h28 => ?_)
          · exact S_sub [0, 1, 2, 3, 4] rfl (hK6 x13 x14 μ16)
          · refine S_aload_n dX1_cheap_46 rfl ?_
            refine S_iload_n dX1_cheap_47 rfl ?_
            refine S_iload dX1_cheap_48 rfl ?_
            refine S_callV_M2 dX1_cheap_50 [.inl p1, .inl x15] (K_X1_priceByShares p1 x15 μ16) l_X1_188 yo_X1_priceByShares rfl rfl rfl rfl rfl (fun x18 μ19 => ?_)
            refine S_istore (lv' := [(6, .inl x18), (0, .inr (.inr 0)), (1, .inl p1), (2, .inl p2), (3, .inl x13), (4, .inl x14), (5, .inl x15)]) dX1_cheap_53 rfl rfl ?_
            refine S_iload dX1_cheap_55 rfl ?_
            refine S_bipush dX1_cheap_57 rfl (by decide) ?_
            refine S_jn (fun (K22 : Int → Int → Option (Int × Mem)) => ∀ (x20 : Int) (x21 : Int), Sim cX1_cheap 7 RX1 (7) (some .int) wI 81 [(0, .inr (.inr 0)), (1, .inl p1), (2, .inl p2), (3, .inl x20), (4, .inl x21), (5, .inl x15)] [] μ19 (K22 x20 x21)) ?_ (fun K22 hK22 => ?_)
            · intro x20 x21
              refine S_iinc (lv' := fun x23 => [(5, .inl x23), (0, .inr (.inr 0)), (1, .inl p1), (2, .inl p2), (3, .inl x20), (4, .inl x21)]) dX1_cheap_81 rfl rfl rfl (fun _ => rfl) (fun x23 => ?_)
              refine S_goto (tgt := 29) dX1_cheap_84 (by decide) ?_
              exact S_sub [1, 2, 3, 4, 5, 0] rfl (ih x20 x21 x23 μ19)
            refine S_ic_eq (tgt := 81) dX1_cheap_59 (by decide) (fun h27 => ?_) (fun h27 => ?_)
            · exact S_sub [1, 2, 3, 4, 5, 6] rfl (hK22 x13 x14)
            · refine S_iload_n dX1_cheap_62 rfl ?_
              refine S_bipush dX1_cheap_63 rfl (by decide) ?_
              refine S_jn (fun (K24 : Option (Int × Mem)) => Sim cX1_cheap 7 RX1 (7) (some .int) wI 74 [(0, .inr (.inr 0)), (1, .inl p1), (2, .inl p2), (5, .inl x15), (6, .inl x18)] [] μ19 K24) ?_ (fun K24 hK24 => ?_)
              · skip
                refine S_iload dX1_cheap_74 rfl ?_
                refine S_istore_n (lv' := [(3, .inl x18), (0, .inr (.inr 0)), (1, .inl p1), (2, .inl p2), (5, .inl x15), (6, .inl x18)]) dX1_cheap_76 rfl rfl ?_
                refine S_iload dX1_cheap_77 rfl ?_
                refine S_istore (lv' := [(4, .inl x15), (3, .inl x18), (0, .inr (.inr 0)), (1, .inl p1), (2, .inl p2), (5, .inl x15), (6, .inl x18)]) dX1_cheap_79 rfl rfl ?_
                exact S_sub [2, 3, 4, 1, 0, 5] rfl (hK22 x18 x15)
              refine S_ic_eq (tgt := 74) dX1_cheap_65 (by decide) (fun h26 => ?_) (fun h26 => ?_)
              · exact S_sub [1, 2, 3, 6, 0] rfl (hK24)
              · refine S_iload dX1_cheap_68 rfl ?_
                refine S_iload_n dX1_cheap_70 rfl ?_
                refine S_ic_ge (tgt := 81) dX1_cheap_71 (by decide) (fun h25 => ?_) (fun h25 => ?_)
                · exact S_sub [1, 2, 3, 4, 5, 6] rfl (hK22 x13 x14)
                · exact S_sub [1, 2, 3, 6, 0] rfl (hK24)
      exact S_sub [3, 4, 5, 2, 1, 0] rfl (hL29 fuel (-9) 0 0 μ)
    · refine S_iconst dX1_cheap_18 rfl ?_
      exact S_iret dX1_cheap_19 rfl rfl
def fX1_goesAsideBy_L2 (p1 : Int) : Nat → Int → Mem → Option (Int × Mem)
  | 0, _, _ => none
  | n3 + 1, x1, μ2 =>
    grd (0 ≤ p1 ∧ p1 < 6) <|
    if (μ2 8 (p1).toNat) ≤ x1 then
      some (1, μ2)
    else
      bnd2 (fX0_passNight 25 μ2) fun x4 μ5 =>
      grd (0 ≤ p1 ∧ p1 < 6) <|
      mlet (2 + (p1).toNat) fun c6 =>
      grd (0 ≤ x1 ∧ x1 < 40) <|
      if x4 = (μ5 c6 (x1).toNat) then
        mlet (w32 (x1 + 1)) fun x7 =>
        fX1_goesAsideBy_L2 p1 n3 x7 μ5
      else
        some (0, μ5)
def fX1_goesAsideBy (p1 : Int) (μ : Mem) : Option (Int × Mem) :=
  fX1_goesAsideBy_L2 p1 fuel 0 μ
theorem K_X1_goesAsideBy  (p1 : Int)  (μ : Mem) : Con yX1_goesAsideBy cX1_goesAsideBy 3 (some .boolean) 7 [.inr (.inr 0), .inl p1] μ (fX1_goesAsideBy p1 μ) wI := by
  refine con_of (own := RX1) (by decide) rfl (Nat.le_of_ble_eq_true rfl) ?_
  show Sim cX1_goesAsideBy 3 RX1 (7) (some .boolean) wI 0 [(0, .inr (.inr 0)), (1, .inl p1)] [] μ (fX1_goesAsideBy p1 μ)
  unfold fX1_goesAsideBy
  refine S_iconst dX1_goesAsideBy_0 rfl ?_
  refine S_istore_n (lv' := [(2, .inl 0), (0, .inr (.inr 0)), (1, .inl p1)]) dX1_goesAsideBy_1 rfl rfl ?_
  have hL2 : ∀ (n3 : Nat) (x1 : Int) (μ2 : Mem), Sim cX1_goesAsideBy 3 RX1 (7) (some .boolean) wI 2 [(0, .inr (.inr 0)), (1, .inl p1), (2, .inl x1)] [] μ2 (fX1_goesAsideBy_L2 p1 n3 x1 μ2) := by
    intro n3
    induction n3 with
    | zero =>
      intro x1 μ2
      exact S_none rfl
    | succ n3 ih =>
      intro x1 μ2
      rw [fX1_goesAsideBy_L2]
      refine S_iload_n dX1_goesAsideBy_2 rfl ?_
      refine S_aload_n dX1_goesAsideBy_3 rfl ?_
      refine S_getR (c1 := 8) dX1_goesAsideBy_4 rfl fl_X1_14 rfl rfl rfl ?_
      refine S_iload_n dX1_goesAsideBy_7 rfl ?_
      refine S_iald (N := 6) dX1_goesAsideBy_8 rfl (by decide) rfl ?_
      refine S_ic_ge (tgt := 38) dX1_goesAsideBy_9 (by decide) (fun h9 => ?_) (fun h9 => ?_)
      · refine S_iconst dX1_goesAsideBy_38 rfl ?_
        exact S_zret dX1_goesAsideBy_39 rfl (by decide) rfl
      · refine S_aload_n dX1_goesAsideBy_12 rfl ?_
        refine S_getR (c1 := 25) dX1_goesAsideBy_13 rfl fl_X1_36 rfl rfl rfl ?_
        refine S_callW_M2 dX1_goesAsideBy_16 [] (K_X0_passNight (by unfold isBk; decide) μ2) l_X1_184 yo_X0_passNight rfl rfl rfl rfl rfl (fun x4 μ5 => ?_)
        refine S_aload_n dX1_goesAsideBy_19 rfl ?_
        refine S_getR (c1 := 1) dX1_goesAsideBy_20 rfl fl_X1_11 rfl rfl rfl ?_
        refine S_iload_n dX1_goesAsideBy_23 rfl ?_
        refine S_aald (N := 6) (c1 := 2) (c2 := 8) dX1_goesAsideBy_24 rfl (by decide) (by decide) rfl rfl rfl (fun c6 hc6 => ?_)
        refine S_iload_n dX1_goesAsideBy_25 rfl ?_
        refine S_iald (N := 40) dX1_goesAsideBy_26 (kd_row hc6) (fam_lt hc6 (by decide)) rfl ?_
        refine S_ic_eq (tgt := 32) dX1_goesAsideBy_27 (by decide) (fun h8 => ?_) (fun h8 => ?_)
        · refine S_iinc (lv' := fun x7 => [(2, .inl x7), (0, .inr (.inr 0)), (1, .inl p1)]) dX1_goesAsideBy_32 rfl rfl rfl (fun _ => rfl) (fun x7 => ?_)
          refine S_goto (tgt := 2) dX1_goesAsideBy_35 (by decide) ?_
          exact S_sub [1, 2, 0] rfl (ih x7 μ5)
        · refine S_iconst dX1_goesAsideBy_30 rfl ?_
          exact S_zret dX1_goesAsideBy_31 rfl (by decide) rfl
  exact S_sub [1, 2, 0] rfl (hL2 fuel 0 μ)
def fX1_daringsBy_L5 (p1 : Int) (p2 : Int) : Nat → Int → Int → Mem → Option (Int × Mem)
  | 0, _, _, _ => none
  | n4 + 1, x1, x2, μ3 =>
    if 20 < x2 then
      some (x1, μ3)
    else
      (fX0_become 25 20 μ3).bind fun μ5 =>
      grd (0 ≤ p1 ∧ p1 < 6) <|
      mlet (wr μ5 28 (p1).toNat x2) fun μ6 =>
      bnd2 (fX1_goesAsideBy p2 μ6) fun x7 μ8 =>
      mlet (fun (x9 : Int) =>
        mlet (w32 (x2 + 1)) fun x11 =>
        fX1_daringsBy_L5 p1 p2 n4 x9 x11 μ8
        ) fun (K10 : Int → Option (Int × Mem)) =>
      if x7 = 0 then
        K10 x1
      else
        mlet ((bor x1 (bshl 1 x2))) fun x12 =>
        K10 x12
def fX1_daringsBy (p1 : Int) (p2 : Int) (μ : Mem) : Option (Int × Mem) :=
  fX1_daringsBy_L5 p1 p2 fuel 0 0 μ
theorem K_X1_daringsBy  (p1 : Int) (p2 : Int)  (μ : Mem) : Con yX1_daringsBy cX1_daringsBy 5 (some .int) 8 [.inr (.inr 0), .inl p1, .inl p2] μ (fX1_daringsBy p1 p2 μ) wI := by
  refine con_of (own := RX1) (by decide) rfl (Nat.le_of_ble_eq_true rfl) ?_
  show Sim cX1_daringsBy 5 RX1 (8) (some .int) wI 0 [(0, .inr (.inr 0)), (1, .inl p1), (2, .inl p2)] [] μ (fX1_daringsBy p1 p2 μ)
  unfold fX1_daringsBy
  refine S_iconst dX1_daringsBy_0 rfl ?_
  refine S_istore_n (lv' := [(3, .inl 0), (0, .inr (.inr 0)), (1, .inl p1), (2, .inl p2)]) dX1_daringsBy_1 rfl rfl ?_
  refine S_iconst dX1_daringsBy_2 rfl ?_
  refine S_istore (lv' := [(4, .inl 0), (3, .inl 0), (0, .inr (.inr 0)), (1, .inl p1), (2, .inl p2)]) dX1_daringsBy_3 rfl rfl ?_
  have hL5 : ∀ (n4 : Nat) (x1 : Int) (x2 : Int) (μ3 : Mem), Sim cX1_daringsBy 5 RX1 (8) (some .int) wI 5 [(0, .inr (.inr 0)), (1, .inl p1), (2, .inl p2), (3, .inl x1), (4, .inl x2)] [] μ3 (fX1_daringsBy_L5 p1 p2 n4 x1 x2 μ3) := by
    intro n4
    induction n4 with
    | zero =>
      intro x1 x2 μ3
      exact S_none rfl
    | succ n4 ih =>
      intro x1 x2 μ3
      rw [fX1_daringsBy_L5]
      refine S_iload dX1_daringsBy_5 rfl ?_
      refine S_bipush dX1_daringsBy_7 rfl (by decide) ?_
      refine S_ic_gt (tgt := 55) dX1_daringsBy_9 (by decide) (fun h14 => ?_) (fun h14 => ?_)
      · refine S_iload_n dX1_daringsBy_55 rfl ?_
        exact S_iret dX1_daringsBy_56 rfl rfl
      · refine S_aload_n dX1_daringsBy_12 rfl ?_
        refine S_getR (c1 := 25) dX1_daringsBy_13 rfl fl_X1_36 rfl rfl rfl ?_
        refine S_aload_n dX1_daringsBy_16 rfl ?_
        refine S_getR (c1 := 20) dX1_daringsBy_17 rfl fl_X1_33 rfl rfl rfl ?_
        refine S_callW_V dX1_daringsBy_20 [.inr (.inr 20)] (K_X0_become (by unfold isBk; decide) (by unfold isBk; decide) μ3) l_X1_118 yo_X0_become rfl rfl rfl rfl rfl (fun μ5 => ?_)
        refine S_aload_n dX1_daringsBy_23 rfl ?_
        refine S_getR (c1 := 25) dX1_daringsBy_24 rfl fl_X1_36 rfl rfl rfl ?_
        refine S_getR (c1 := 28) dX1_daringsBy_27 rfl fl_X1_156 rfl rfl rfl ?_
        refine S_iload_n dX1_daringsBy_30 rfl ?_
        refine S_iload dX1_daringsBy_31 rfl ?_
        refine S_iast (N := 6) dX1_daringsBy_33 rfl (by decide) rfl (fun μ6 => ?_)
        refine S_aload_n dX1_daringsBy_34 rfl ?_
        refine S_iload_n dX1_daringsBy_35 rfl ?_
        refine S_callV_M2 dX1_daringsBy_36 [.inl p2] (K_X1_goesAsideBy p2 μ6) l_X1_197 yo_X1_goesAsideBy rfl rfl rfl rfl rfl (fun x7 μ8 => ?_)
        refine S_jn (fun (K10 : Int → Option (Int × Mem)) => ∀ (x9 : Int), Sim cX1_daringsBy 5 RX1 (8) (some .int) wI 49 [(0, .inr (.inr 0)), (1, .inl p1), (2, .inl p2), (3, .inl x9), (4, .inl x2)] [] μ8 (K10 x9)) ?_ (fun K10 hK10 => ?_)
        · intro x9
          refine S_iinc (lv' := fun x11 => [(4, .inl x11), (0, .inr (.inr 0)), (1, .inl p1), (2, .inl p2), (3, .inl x9)]) dX1_daringsBy_49 rfl rfl rfl (fun _ => rfl) (fun x11 => ?_)
          refine S_goto (tgt := 5) dX1_daringsBy_52 (by decide) ?_
          exact S_sub [1, 2, 3, 4, 0] rfl (ih x9 x11 μ8)
        refine S_if_eq (tgt := 49) dX1_daringsBy_39 (by decide) (fun h13 => ?_) (fun h13 => ?_)
        · exact S_sub [0, 1, 2, 3, 4] rfl (hK10 x1)
        · refine S_iload_n dX1_daringsBy_42 rfl ?_
          refine S_iconst dX1_daringsBy_43 rfl ?_
          refine S_iload dX1_daringsBy_44 rfl ?_
          refine S_ishl dX1_daringsBy_46 ?_
          refine S_ior dX1_daringsBy_47 ?_
          refine S_let (fun x12 => ?_)
          refine S_istore_n (lv' := [(3, .inl x12), (0, .inr (.inr 0)), (1, .inl p1), (2, .inl p2), (4, .inl x2)]) dX1_daringsBy_48 rfl rfl ?_
          exact S_sub [1, 2, 3, 0, 4] rfl (hK10 x12)
  exact S_sub [2, 3, 4, 1, 0] rfl (hL5 fuel 0 0 μ)
def fX1_refusalOfHolders_L56 (x3 : Int) (μ : Mem) (p2 : Int) (K5 : Option (Int × Mem)) : Nat → Int → Option (Int × Mem)
  | 0, _ => none
  | n9 + 1, x8 =>
    if x3 ≤ x8 then
      some (0, μ)
    else
      grd (0 ≤ p2 ∧ p2 < 6) <|
      mlet (2 + (p2).toNat) fun c10 =>
      grd (0 ≤ x8 ∧ x8 < 40) <|
      (fX0_has 20 (μ c10 (x8).toNat) μ).bind fun x11 =>
      if ¬ x11 = 0 then
        mlet (w32 (x8 + 1)) fun x12 =>
        fX1_refusalOfHolders_L56 x3 μ p2 K5 n9 x12
      else
        K5
def fX1_refusalOfHolders (p1 : Int) (p2 : Int) (μ : Mem) : Option (Int × Mem) :=
  (fX0_has 20 p1 μ).bind fun x1 =>
  if x1 = 0 then
    some ((-1), μ)
  else
    (fX1_isRow p2 μ).bind fun x2 =>
    if ¬ x2 = 0 then
      grd (0 ≤ p2 ∧ p2 < 6) <|
      mlet ((μ 8 (p2).toNat)) fun x3 =>
      if 0 ≤ x3 then
        (fX1_isWithin x3 1 10 μ).bind fun x4 =>
        if ¬ x4 = 0 then
          mlet (
            bnd2 (fX1_found 3 μ) fun x6 μ7 =>
            some (x6, μ7)
            : Option (Int × Mem)) fun (K5 : Option (Int × Mem)) =>
          fX1_refusalOfHolders_L56 x3 μ p2 K5 fuel 0
        else
          bnd2 (fX1_found 5 μ) fun x15 μ16 =>
          some (x15, μ16)
      else
        bnd2 (fX1_found 1 μ) fun x18 μ19 =>
        some (x18, μ19)
    else
      some ((-1), μ)
theorem K_X1_refusalOfHolders  (p1 : Int) (p2 : Int)  (μ : Mem) : Con yX1_refusalOfHolders cX1_refusalOfHolders 5 (some .int) 4 [.inr (.inr 0), .inl p1, .inl p2] μ (fX1_refusalOfHolders p1 p2 μ) wI := by
  refine con_of (own := RX1) (by decide) rfl (Nat.le_of_ble_eq_true rfl) ?_
  show Sim cX1_refusalOfHolders 5 RX1 (4) (some .int) wI 0 [(0, .inr (.inr 0)), (1, .inl p1), (2, .inl p2)] [] μ (fX1_refusalOfHolders p1 p2 μ)
  unfold fX1_refusalOfHolders
  refine S_aload_n dX1_refusalOfHolders_0 rfl ?_
  refine S_getR (c1 := 20) dX1_refusalOfHolders_1 rfl fl_X1_33 rfl rfl rfl ?_
  refine S_iload_n dX1_refusalOfHolders_4 rfl ?_
  refine S_callW_I dX1_refusalOfHolders_5 [.inl p1] (K_X0_has (by unfold isBk; decide) p1 μ) l_X1_125 yo_X0_has rfl rfl rfl rfl rfl (fun x1 => ?_)
  refine S_if_eq (tgt := 18) dX1_refusalOfHolders_8 (by decide) (fun h22 => ?_) (fun h22 => ?_)
  · refine S_iconst dX1_refusalOfHolders_18 rfl ?_
    exact S_iret dX1_refusalOfHolders_19 rfl rfl
  · refine S_iload_n dX1_refusalOfHolders_11 rfl ?_
    refine S_callS_I dX1_refusalOfHolders_12 [.inl p2] (K_X1_isRow p2 μ) l_X1_83 yo_X1_isRow rfl rfl rfl (fun x2 => ?_)
    refine S_if_ne (tgt := 20) dX1_refusalOfHolders_15 (by decide) (fun h21 => ?_) (fun h21 => ?_)
    · refine S_aload_n dX1_refusalOfHolders_20 rfl ?_
      refine S_getR (c1 := 8) dX1_refusalOfHolders_21 rfl fl_X1_14 rfl rfl rfl ?_
      refine S_iload_n dX1_refusalOfHolders_24 rfl ?_
      refine S_iald (N := 6) dX1_refusalOfHolders_25 rfl (by decide) rfl ?_
      refine S_let (fun x3 => ?_)
      refine S_istore_n (lv' := [(3, .inl x3), (0, .inr (.inr 0)), (1, .inl p1), (2, .inl p2)]) dX1_refusalOfHolders_26 rfl rfl ?_
      refine S_iload_n dX1_refusalOfHolders_27 rfl ?_
      refine S_if_ge (tgt := 37) dX1_refusalOfHolders_28 (by decide) (fun h20 => ?_) (fun h20 => ?_)
      · refine S_iload_n dX1_refusalOfHolders_37 rfl ?_
        refine S_iconst dX1_refusalOfHolders_38 rfl ?_
        refine S_bipush dX1_refusalOfHolders_39 rfl (by decide) ?_
        refine S_callS_I dX1_refusalOfHolders_41 [.inl x3, .inl 1, .inl 10] (K_X1_isWithin x3 1 10 μ) l_X1_128 yo_X1_isWithin rfl rfl rfl (fun x4 => ?_)
        refine S_if_ne (tgt := 53) dX1_refusalOfHolders_44 (by decide) (fun h17 => ?_) (fun h17 => ?_)
        · refine S_iconst dX1_refusalOfHolders_53 rfl ?_
          refine S_istore (lv' := [(4, .inl 0), (3, .inl x3), (0, .inr (.inr 0)), (1, .inl p1), (2, .inl p2)]) dX1_refusalOfHolders_54 rfl rfl ?_
          refine S_jn (fun (K5 : Option (Int × Mem)) => Sim cX1_refusalOfHolders 5 RX1 (4) (some .int) wI 81 [(0, .inr (.inr 0))] [] μ K5) ?_ (fun K5 hK5 => ?_)
          · skip
            refine S_aload_n dX1_refusalOfHolders_81 rfl ?_
            refine S_iconst dX1_refusalOfHolders_82 rfl ?_
            refine S_callV_M2 dX1_refusalOfHolders_83 [.inl 3] (K_X1_found 3 μ) l_X1_87 yo_X1_found rfl rfl rfl rfl rfl (fun x6 μ7 => ?_)
            exact S_iret dX1_refusalOfHolders_86 rfl rfl
          have hL56 : ∀ (n9 : Nat) (x8 : Int), Sim cX1_refusalOfHolders 5 RX1 (4) (some .int) wI 56 [(0, .inr (.inr 0)), (2, .inl p2), (3, .inl x3), (4, .inl x8)] [] μ (fX1_refusalOfHolders_L56 x3 μ p2 K5 n9 x8) := by
            intro n9
            induction n9 with
            | zero =>
              intro x8
              exact S_none rfl
            | succ n9 ih =>
              intro x8
              rw [fX1_refusalOfHolders_L56]
              refine S_iload dX1_refusalOfHolders_56 rfl ?_
              refine S_iload_n dX1_refusalOfHolders_58 rfl ?_
              refine S_ic_ge (tgt := 93) dX1_refusalOfHolders_59 (by decide) (fun h14 => ?_) (fun h14 => ?_)
              · refine S_iconst dX1_refusalOfHolders_93 rfl ?_
                exact S_iret dX1_refusalOfHolders_94 rfl rfl
              · refine S_aload_n dX1_refusalOfHolders_62 rfl ?_
                refine S_getR (c1 := 20) dX1_refusalOfHolders_63 rfl fl_X1_33 rfl rfl rfl ?_
                refine S_aload_n dX1_refusalOfHolders_66 rfl ?_
                refine S_getR (c1 := 1) dX1_refusalOfHolders_67 rfl fl_X1_11 rfl rfl rfl ?_
                refine S_iload_n dX1_refusalOfHolders_70 rfl ?_
                refine S_aald (N := 6) (c1 := 2) (c2 := 8) dX1_refusalOfHolders_71 rfl (by decide) (by decide) rfl rfl rfl (fun c10 hc10 => ?_)
                refine S_iload dX1_refusalOfHolders_72 rfl ?_
                refine S_iald (N := 40) dX1_refusalOfHolders_74 (kd_row hc10) (fam_lt hc10 (by decide)) rfl ?_
                refine S_callW_I dX1_refusalOfHolders_75 [.inl (μ c10 (x8).toNat)] (K_X0_has (by unfold isBk; decide) (μ c10 (x8).toNat) μ) l_X1_125 yo_X0_has rfl rfl rfl rfl rfl (fun x11 => ?_)
                refine S_if_ne (tgt := 87) dX1_refusalOfHolders_78 (by decide) (fun h13 => ?_) (fun h13 => ?_)
                · refine S_iinc (lv' := fun x12 => [(4, .inl x12), (0, .inr (.inr 0)), (2, .inl p2), (3, .inl x3)]) dX1_refusalOfHolders_87 rfl rfl rfl (fun _ => rfl) (fun x12 => ?_)
                  refine S_goto (tgt := 56) dX1_refusalOfHolders_90 (by decide) ?_
                  exact S_sub [1, 2, 3, 0] rfl (ih x12)
                · exact S_sub [0] rfl (hK5)
          exact S_sub [2, 4, 1, 0] rfl (hL56 fuel 0)
        · refine S_aload_n dX1_refusalOfHolders_47 rfl ?_
          refine S_iconst dX1_refusalOfHolders_48 rfl ?_
          refine S_callV_M2 dX1_refusalOfHolders_49 [.inl 5] (K_X1_found 5 μ) l_X1_87 yo_X1_found rfl rfl rfl rfl rfl (fun x15 μ16 => ?_)
          exact S_iret dX1_refusalOfHolders_52 rfl rfl
      · refine S_aload_n dX1_refusalOfHolders_31 rfl ?_
        refine S_iconst dX1_refusalOfHolders_32 rfl ?_
        refine S_callV_M2 dX1_refusalOfHolders_33 [.inl 1] (K_X1_found 1 μ) l_X1_87 yo_X1_found rfl rfl rfl rfl rfl (fun x18 μ19 => ?_)
        exact S_iret dX1_refusalOfHolders_36 rfl rfl
    · refine S_iconst dX1_refusalOfHolders_18 rfl ?_
      exact S_iret dX1_refusalOfHolders_19 rfl rfl
def fX1_darings (p1 : Int) (p2 : Int) (μ : Mem) : Option (Int × Mem) :=
  bnd2 (fX1_refusalOfHolders p1 p2 μ) fun x1 μ2 =>
  if x1 = 0 then
    bnd2 (fX1_daringsBy p1 p2 μ2) fun x3 μ4 =>
    some (x3, μ4)
  else
    some (x1, μ2)
theorem K_X1_darings  (p1 : Int) (p2 : Int)  (μ : Mem) : Con yX1_darings cX1_darings 4 (some .int) 9 [.inr (.inr 0), .inl p1, .inl p2] μ (fX1_darings p1 p2 μ) wI := by
  refine con_of (own := RX1) (by decide) rfl (Nat.le_of_ble_eq_true rfl) ?_
  show Sim cX1_darings 4 RX1 (9) (some .int) wI 0 [(0, .inr (.inr 0)), (1, .inl p1), (2, .inl p2)] [] μ (fX1_darings p1 p2 μ)
  unfold fX1_darings
  refine S_aload_n dX1_darings_0 rfl ?_
  refine S_iload_n dX1_darings_1 rfl ?_
  refine S_iload_n dX1_darings_2 rfl ?_
  refine S_callV_M2 dX1_darings_3 [.inl p1, .inl p2] (K_X1_refusalOfHolders p1 p2 μ) l_X1_191 yo_X1_refusalOfHolders rfl rfl rfl rfl rfl (fun x1 μ2 => ?_)
  refine S_istore_n (lv' := [(3, .inl x1), (0, .inr (.inr 0)), (1, .inl p1), (2, .inl p2)]) dX1_darings_6 rfl rfl ?_
  refine S_iload_n dX1_darings_7 rfl ?_
  refine S_if_eq (tgt := 15) dX1_darings_8 (by decide) (fun h5 => ?_) (fun h5 => ?_)
  · refine S_aload_n dX1_darings_15 rfl ?_
    refine S_iload_n dX1_darings_16 rfl ?_
    refine S_iload_n dX1_darings_17 rfl ?_
    refine S_callV_M2 dX1_darings_18 [.inl p1, .inl p2] (K_X1_daringsBy p1 p2 μ2) l_X1_194 yo_X1_daringsBy rfl rfl rfl rfl rfl (fun x3 μ4 => ?_)
    exact S_iret dX1_darings_21 rfl rfl
  · refine S_iload_n dX1_darings_11 rfl ?_
    refine S_goto (tgt := 21) dX1_darings_12 (by decide) ?_
    exact S_iret dX1_darings_21 rfl rfl
def fX1_kinds_L19 (p1 : Int) (p2 : Int) : Nat → Int → Int → Mem → Option (Int × Mem)
  | 0, _, _, _ => none
  | n6 + 1, x3, x4, μ5 =>
    if 6 ≤ x4 then
      some (x3, μ5)
    else
      (fX0_become 25 20 μ5).bind fun μ7 =>
      grd (0 ≤ p1 ∧ p1 < 6) <|
      mlet (wr μ7 26 (p1).toNat x4) fun μ8 =>
      bnd2 (fX1_goesAsideBy p2 μ8) fun x9 μ10 =>
      mlet (fun (x11 : Int) =>
        mlet (w32 (x4 + 1)) fun x13 =>
        fX1_kinds_L19 p1 p2 n6 x11 x13 μ10
        ) fun (K12 : Int → Option (Int × Mem)) =>
      if x9 = 0 then
        K12 x3
      else
        mlet ((bor x3 (bshl 1 x4))) fun x14 =>
        K12 x14
def fX1_kinds (p1 : Int) (p2 : Int) (μ : Mem) : Option (Int × Mem) :=
  bnd2 (fX1_refusalOfHolders p1 p2 μ) fun x1 μ2 =>
  if x1 = 0 then
    fX1_kinds_L19 p1 p2 fuel 0 0 μ2
  else
    some (x1, μ2)
theorem K_X1_kinds  (p1 : Int) (p2 : Int)  (μ : Mem) : Con yX1_kinds cX1_kinds 6 (some .int) 8 [.inr (.inr 0), .inl p1, .inl p2] μ (fX1_kinds p1 p2 μ) wI := by
  refine con_of (own := RX1) (by decide) rfl (Nat.le_of_ble_eq_true rfl) ?_
  show Sim cX1_kinds 6 RX1 (8) (some .int) wI 0 [(0, .inr (.inr 0)), (1, .inl p1), (2, .inl p2)] [] μ (fX1_kinds p1 p2 μ)
  unfold fX1_kinds
  refine S_aload_n dX1_kinds_0 rfl ?_
  refine S_iload_n dX1_kinds_1 rfl ?_
  refine S_iload_n dX1_kinds_2 rfl ?_
  refine S_callV_M2 dX1_kinds_3 [.inl p1, .inl p2] (K_X1_refusalOfHolders p1 p2 μ) l_X1_191 yo_X1_refusalOfHolders rfl rfl rfl rfl rfl (fun x1 μ2 => ?_)
  refine S_istore_n (lv' := [(3, .inl x1), (0, .inr (.inr 0)), (1, .inl p1), (2, .inl p2)]) dX1_kinds_6 rfl rfl ?_
  refine S_iload_n dX1_kinds_7 rfl ?_
  refine S_if_eq (tgt := 13) dX1_kinds_8 (by decide) (fun h17 => ?_) (fun h17 => ?_)
  · refine S_iconst dX1_kinds_13 rfl ?_
    refine S_istore (lv' := [(4, .inl 0), (3, .inl x1), (0, .inr (.inr 0)), (1, .inl p1), (2, .inl p2)]) dX1_kinds_14 rfl rfl ?_
    refine S_iconst dX1_kinds_16 rfl ?_
    refine S_istore (lv' := [(5, .inl 0), (4, .inl 0), (3, .inl x1), (0, .inr (.inr 0)), (1, .inl p1), (2, .inl p2)]) dX1_kinds_17 rfl rfl ?_
    have hL19 : ∀ (n6 : Nat) (x3 : Int) (x4 : Int) (μ5 : Mem), Sim cX1_kinds 6 RX1 (8) (some .int) wI 19 [(0, .inr (.inr 0)), (1, .inl p1), (2, .inl p2), (4, .inl x3), (5, .inl x4)] [] μ5 (fX1_kinds_L19 p1 p2 n6 x3 x4 μ5) := by
      intro n6
      induction n6 with
      | zero =>
        intro x3 x4 μ5
        exact S_none rfl
      | succ n6 ih =>
        intro x3 x4 μ5
        rw [fX1_kinds_L19]
        refine S_iload dX1_kinds_19 rfl ?_
        refine S_bipush dX1_kinds_21 rfl (by decide) ?_
        refine S_ic_ge (tgt := 71) dX1_kinds_23 (by decide) (fun h16 => ?_) (fun h16 => ?_)
        · refine S_iload dX1_kinds_71 rfl ?_
          exact S_iret dX1_kinds_73 rfl rfl
        · refine S_aload_n dX1_kinds_26 rfl ?_
          refine S_getR (c1 := 25) dX1_kinds_27 rfl fl_X1_36 rfl rfl rfl ?_
          refine S_aload_n dX1_kinds_30 rfl ?_
          refine S_getR (c1 := 20) dX1_kinds_31 rfl fl_X1_33 rfl rfl rfl ?_
          refine S_callW_V dX1_kinds_34 [.inr (.inr 20)] (K_X0_become (by unfold isBk; decide) (by unfold isBk; decide) μ5) l_X1_118 yo_X0_become rfl rfl rfl rfl rfl (fun μ7 => ?_)
          refine S_aload_n dX1_kinds_37 rfl ?_
          refine S_getR (c1 := 25) dX1_kinds_38 rfl fl_X1_36 rfl rfl rfl ?_
          refine S_getR (c1 := 26) dX1_kinds_41 rfl fl_X1_135 rfl rfl rfl ?_
          refine S_iload_n dX1_kinds_44 rfl ?_
          refine S_iload dX1_kinds_45 rfl ?_
          refine S_iast (N := 6) dX1_kinds_47 rfl (by decide) rfl (fun μ8 => ?_)
          refine S_aload_n dX1_kinds_48 rfl ?_
          refine S_iload_n dX1_kinds_49 rfl ?_
          refine S_callV_M2 dX1_kinds_50 [.inl p2] (K_X1_goesAsideBy p2 μ8) l_X1_197 yo_X1_goesAsideBy rfl rfl rfl rfl rfl (fun x9 μ10 => ?_)
          refine S_jn (fun (K12 : Int → Option (Int × Mem)) => ∀ (x11 : Int), Sim cX1_kinds 6 RX1 (8) (some .int) wI 65 [(0, .inr (.inr 0)), (1, .inl p1), (2, .inl p2), (4, .inl x11), (5, .inl x4)] [] μ10 (K12 x11)) ?_ (fun K12 hK12 => ?_)
          · intro x11
            refine S_iinc (lv' := fun x13 => [(5, .inl x13), (0, .inr (.inr 0)), (1, .inl p1), (2, .inl p2), (4, .inl x11)]) dX1_kinds_65 rfl rfl rfl (fun _ => rfl) (fun x13 => ?_)
            refine S_goto (tgt := 19) dX1_kinds_68 (by decide) ?_
            exact S_sub [1, 2, 3, 4, 0] rfl (ih x11 x13 μ10)
          refine S_if_eq (tgt := 65) dX1_kinds_53 (by decide) (fun h15 => ?_) (fun h15 => ?_)
          · exact S_sub [0, 1, 2, 3, 4] rfl (hK12 x3)
          · refine S_iload dX1_kinds_56 rfl ?_
            refine S_iconst dX1_kinds_58 rfl ?_
            refine S_iload dX1_kinds_59 rfl ?_
            refine S_ishl dX1_kinds_61 ?_
            refine S_ior dX1_kinds_62 ?_
            refine S_let (fun x14 => ?_)
            refine S_istore (lv' := [(4, .inl x14), (0, .inr (.inr 0)), (1, .inl p1), (2, .inl p2), (5, .inl x4)]) dX1_kinds_63 rfl rfl ?_
            exact S_sub [1, 2, 3, 0, 4] rfl (hK12 x14)
    exact S_sub [3, 4, 5, 1, 0] rfl (hL19 fuel 0 0 μ2)
  · refine S_iload_n dX1_kinds_11 rfl ?_
    exact S_iret dX1_kinds_12 rfl rfl
def fX1_placeOf (p1 : Int) (μ : Mem) : Option Int :=
  if ¬ p1 = (-9) then
    some p1
  else
    some 6
theorem K_X1_placeOf  (p1 : Int)  (μ : Mem) : Con yX1_placeOf cX1_placeOf 1 (some .int) 2 [.inl p1] μ (fX1_placeOf p1 μ) (rI μ) := by
  refine con_of (own := RX1) (by decide) rfl (Nat.le_of_ble_eq_true rfl) ?_
  show Sim cX1_placeOf 1 RX1 (2) (some .int) (rI μ) 0 [(0, .inl p1)] [] μ (fX1_placeOf p1 μ)
  unfold fX1_placeOf
  refine S_iload_n dX1_placeOf_0 rfl ?_
  refine S_bipush dX1_placeOf_1 rfl (by decide) ?_
  refine S_ic_ne (tgt := 11) dX1_placeOf_3 (by decide) (fun h1 => ?_) (fun h1 => ?_)
  · refine S_iload_n dX1_placeOf_11 rfl ?_
    exact S_iret dX1_placeOf_12 rfl rfl
  · refine S_bipush dX1_placeOf_6 rfl (by decide) ?_
    refine S_goto (tgt := 12) dX1_placeOf_8 (by decide) ?_
    exact S_iret dX1_placeOf_12 rfl rfl
def fX1_countParts_L64 (K7 : Mem → Option Mem) : Nat → Int → Mem → Option Mem
  | 0, _, _ => none
  | n13 + 1, x11, μ12 =>
    if 20 ≤ x11 then
      K7 μ12
    else
      grd (0 ≤ x11 ∧ x11 < 20) <|
      mlet (40 + (x11).toNat) fun c14 =>
      bnd2 (fX0_passNight 25 μ12) fun x15 μ16 =>
      (fX1_placeOf x15 μ16).bind fun x17 =>
      grd (0 ≤ x17 ∧ x17 < 7) <|
      grd (0 ≤ x17 ∧ x17 < 7) <|
      mlet (wr μ16 c14 (x17).toNat (w32 ((μ16 c14 (x17).toNat) + 1))) fun μ18 =>
      mlet (w32 (x11 + 1)) fun x19 =>
      fX1_countParts_L64 K7 n13 x19 μ18
def fX1_countParts_L26 (p2 : Int) (p1 : Int) : Nat → Int → Mem → Option Mem
  | 0, _, _ => none
  | n5 + 1, x3, μ4 =>
    if 20 < x3 then
      some μ4
    else
      mlet (fun (μ6 : Mem) =>
        mlet (w32 (x3 + 1)) fun x8 =>
        fX1_countParts_L26 p2 p1 n5 x8 μ6
        ) fun (K7 : Mem → Option Mem) =>
      if (band (bshr p2 x3) 1) = 0 then
        K7 μ4
      else
        (fX0_become 25 20 μ4).bind fun μ9 =>
        grd (0 ≤ p1 ∧ p1 < 6) <|
        mlet (wr μ9 28 (p1).toNat x3) fun μ10 =>
        fX1_countParts_L64 K7 fuel 0 μ10
def fX1_countParts_L2 (K2 : Mem → Option Mem) : Nat → Int → Mem → Option Mem
  | 0, _, _ => none
  | n25 + 1, x23, μ24 =>
    if 20 ≤ x23 then
      K2 μ24
    else
      grd (0 ≤ x23 ∧ x23 < 20) <|
      mlet (40 + (x23).toNat) fun c26 =>
      (some (filM μ24 c26 7 0)).bind fun μ27 =>
      mlet (w32 (x23 + 1)) fun x28 =>
      fX1_countParts_L2 K2 n25 x28 μ27
def fX1_countParts (p1 : Int) (p2 : Int) (μ : Mem) : Option Mem :=
  mlet (fun (μ1 : Mem) =>
    fX1_countParts_L26 p2 p1 fuel 0 μ1
    ) fun (K2 : Mem → Option Mem) =>
  fX1_countParts_L2 K2 fuel 0 μ
theorem K_X1_countParts  (p1 : Int) (p2 : Int)  (μ : Mem) : Con yX1_countParts cX1_countParts 5 (none) 7 [.inr (.inr 0), .inl p1, .inl p2] μ (fX1_countParts p1 p2 μ) wV := by
  refine con_of (own := RX1) (by decide) rfl (Nat.le_of_ble_eq_true rfl) ?_
  show Sim cX1_countParts 5 RX1 (7) (none) wV 0 [(0, .inr (.inr 0)), (1, .inl p1), (2, .inl p2)] [] μ (fX1_countParts p1 p2 μ)
  unfold fX1_countParts
  refine S_iconst dX1_countParts_0 rfl ?_
  refine S_istore_n (lv' := [(3, .inl 0), (0, .inr (.inr 0)), (1, .inl p1), (2, .inl p2)]) dX1_countParts_1 rfl rfl ?_
  refine S_jn (fun (K2 : Mem → Option Mem) => ∀ (μ1 : Mem), Sim cX1_countParts 5 RX1 (7) (none) wV 24 [(0, .inr (.inr 0)), (1, .inl p1), (2, .inl p2)] [] μ1 (K2 μ1)) ?_ (fun K2 hK2 => ?_)
  · intro μ1
    refine S_iconst dX1_countParts_24 rfl ?_
    refine S_istore_n (lv' := [(3, .inl 0), (0, .inr (.inr 0)), (1, .inl p1), (2, .inl p2)]) dX1_countParts_25 rfl rfl ?_
    have hL26 : ∀ (n5 : Nat) (x3 : Int) (μ4 : Mem), Sim cX1_countParts 5 RX1 (7) (none) wV 26 [(0, .inr (.inr 0)), (1, .inl p1), (2, .inl p2), (3, .inl x3)] [] μ4 (fX1_countParts_L26 p2 p1 n5 x3 μ4) := by
      intro n5
      induction n5 with
      | zero =>
        intro x3 μ4
        exact S_none rfl
      | succ n5 ih =>
        intro x3 μ4
        rw [fX1_countParts_L26]
        refine S_iload_n dX1_countParts_26 rfl ?_
        refine S_bipush dX1_countParts_27 rfl (by decide) ?_
        refine S_ic_gt (tgt := 105) dX1_countParts_29 (by decide) (fun h22 => ?_) (fun h22 => ?_)
        · exact S_vret dX1_countParts_105 rfl rfl
        · refine S_iload_n dX1_countParts_32 rfl ?_
          refine S_iload_n dX1_countParts_33 rfl ?_
          refine S_ishr dX1_countParts_34 ?_
          refine S_iconst dX1_countParts_35 rfl ?_
          refine S_iand dX1_countParts_36 ?_
          refine S_jn (fun (K7 : Mem → Option Mem) => ∀ (μ6 : Mem), Sim cX1_countParts 5 RX1 (7) (none) wV 99 [(0, .inr (.inr 0)), (1, .inl p1), (2, .inl p2), (3, .inl x3)] [] μ6 (K7 μ6)) ?_ (fun K7 hK7 => ?_)
          · intro μ6
            refine S_iinc (lv' := fun x8 => [(3, .inl x8), (0, .inr (.inr 0)), (1, .inl p1), (2, .inl p2)]) dX1_countParts_99 rfl rfl rfl (fun _ => rfl) (fun x8 => ?_)
            refine S_goto (tgt := 26) dX1_countParts_102 (by decide) ?_
            exact S_sub [1, 2, 3, 0] rfl (ih x8 μ6)
          refine S_if_eq (tgt := 99) dX1_countParts_37 (by decide) (fun h21 => ?_) (fun h21 => ?_)
          · exact S_sub [0, 1, 2, 3] rfl (hK7 μ4)
          · refine S_aload_n dX1_countParts_40 rfl ?_
            refine S_getR (c1 := 25) dX1_countParts_41 rfl fl_X1_36 rfl rfl rfl ?_
            refine S_aload_n dX1_countParts_44 rfl ?_
            refine S_getR (c1 := 20) dX1_countParts_45 rfl fl_X1_33 rfl rfl rfl ?_
            refine S_callW_V dX1_countParts_48 [.inr (.inr 20)] (K_X0_become (by unfold isBk; decide) (by unfold isBk; decide) μ4) l_X1_118 yo_X0_become rfl rfl rfl rfl rfl (fun μ9 => ?_)
            refine S_aload_n dX1_countParts_51 rfl ?_
            refine S_getR (c1 := 25) dX1_countParts_52 rfl fl_X1_36 rfl rfl rfl ?_
            refine S_getR (c1 := 28) dX1_countParts_55 rfl fl_X1_156 rfl rfl rfl ?_
            refine S_iload_n dX1_countParts_58 rfl ?_
            refine S_iload_n dX1_countParts_59 rfl ?_
            refine S_iast (N := 6) dX1_countParts_60 rfl (by decide) rfl (fun μ10 => ?_)
            refine S_iconst dX1_countParts_61 rfl ?_
            refine S_istore (lv' := [(4, .inl 0), (0, .inr (.inr 0)), (1, .inl p1), (2, .inl p2), (3, .inl x3)]) dX1_countParts_62 rfl rfl ?_
            have hL64 : ∀ (n13 : Nat) (x11 : Int) (μ12 : Mem), Sim cX1_countParts 5 RX1 (7) (none) wV 64 [(0, .inr (.inr 0)), (1, .inl p1), (2, .inl p2), (3, .inl x3), (4, .inl x11)] [] μ12 (fX1_countParts_L64 K7 n13 x11 μ12) := by
              intro n13
              induction n13 with
              | zero =>
                intro x11 μ12
                exact S_none rfl
              | succ n13 ih =>
                intro x11 μ12
                rw [fX1_countParts_L64]
                refine S_iload dX1_countParts_64 rfl ?_
                refine S_bipush dX1_countParts_66 rfl (by decide) ?_
                refine S_ic_ge (tgt := 99) dX1_countParts_68 (by decide) (fun h20 => ?_) (fun h20 => ?_)
                · exact S_sub [0, 1, 2, 3] rfl (hK7 μ12)
                · refine S_aload_n dX1_countParts_71 rfl ?_
                  refine S_getR (c1 := 39) dX1_countParts_72 rfl fl_X1_74 rfl rfl rfl ?_
                  refine S_iload dX1_countParts_75 rfl ?_
                  refine S_aald (N := 20) (c1 := 40) (c2 := 60) dX1_countParts_77 rfl (by decide) (by decide) rfl rfl rfl (fun c14 hc14 => ?_)
                  refine S_aload_n dX1_countParts_78 rfl ?_
                  refine S_getR (c1 := 25) dX1_countParts_79 rfl fl_X1_36 rfl rfl rfl ?_
                  refine S_callW_M2 dX1_countParts_82 [] (K_X0_passNight (by unfold isBk; decide) μ12) l_X1_184 yo_X0_passNight rfl rfl rfl rfl rfl (fun x15 μ16 => ?_)
                  refine S_callS_I dX1_countParts_85 [.inl x15] (K_X1_placeOf x15 μ16) l_X1_296 yo_X1_placeOf rfl rfl rfl (fun x17 => ?_)
                  refine S_dup2 dX1_countParts_88 rfl rfl ?_
                  refine S_iald (N := 7) dX1_countParts_89 (kd_part hc14) (fam_lt hc14 (by decide)) rfl ?_
                  refine S_iconst dX1_countParts_90 rfl ?_
                  refine S_iadd dX1_countParts_91 ?_
                  refine S_iast (N := 7) dX1_countParts_92 (kd_part hc14) (fam_lt hc14 (by decide)) rfl (fun μ18 => ?_)
                  refine S_iinc (lv' := fun x19 => [(4, .inl x19), (0, .inr (.inr 0)), (1, .inl p1), (2, .inl p2), (3, .inl x3)]) dX1_countParts_93 rfl rfl rfl (fun _ => rfl) (fun x19 => ?_)
                  refine S_goto (tgt := 64) dX1_countParts_96 (by decide) ?_
                  exact S_sub [1, 2, 3, 4, 0] rfl (ih x19 μ18)
            exact S_sub [1, 2, 3, 4, 0] rfl (hL64 fuel 0 μ10)
    exact S_sub [1, 2, 3, 0] rfl (hL26 fuel 0 μ1)
  have hL2 : ∀ (n25 : Nat) (x23 : Int) (μ24 : Mem), Sim cX1_countParts 5 RX1 (7) (none) wV 2 [(0, .inr (.inr 0)), (1, .inl p1), (2, .inl p2), (3, .inl x23)] [] μ24 (fX1_countParts_L2 K2 n25 x23 μ24) := by
    intro n25
    induction n25 with
    | zero =>
      intro x23 μ24
      exact S_none rfl
    | succ n25 ih =>
      intro x23 μ24
      rw [fX1_countParts_L2]
      refine S_iload_n dX1_countParts_2 rfl ?_
      refine S_bipush dX1_countParts_3 rfl (by decide) ?_
      refine S_ic_ge (tgt := 24) dX1_countParts_5 (by decide) (fun h29 => ?_) (fun h29 => ?_)
      · exact S_sub [0, 1, 2] rfl (hK2 μ24)
      · refine S_aload_n dX1_countParts_8 rfl ?_
        refine S_getR (c1 := 39) dX1_countParts_9 rfl fl_X1_74 rfl rfl rfl ?_
        refine S_iload_n dX1_countParts_12 rfl ?_
        refine S_aald (N := 20) (c1 := 40) (c2 := 60) dX1_countParts_13 rfl (by decide) (by decide) rfl rfl rfl (fun c26 hc26 => ?_)
        refine S_iconst dX1_countParts_14 rfl ?_
        refine S_callS_V dX1_countParts_15 [.inr (.inr c26), .inl 0] (K_fillI (kd_part hc26) (fam_lt hc26 (by decide)) (by decide) 0 μ24) jl_X1_77 jy_fillI rfl rfl rfl (fun μ27 => ?_)
        refine S_iinc (lv' := fun x28 => [(3, .inl x28), (0, .inr (.inr 0)), (1, .inl p1), (2, .inl p2)]) dX1_countParts_18 rfl rfl rfl (fun _ => rfl) (fun x28 => ?_)
        refine S_goto (tgt := 2) dX1_countParts_21 (by decide) ?_
        exact S_sub [1, 2, 3, 0] rfl (ih x28 μ27)
  exact S_sub [1, 2, 3, 0] rfl (hL2 fuel 0 μ)
def fX1_greatestPart_L16 (μ : Mem) (c1 : Nat) : Nat → Int → Int → Option Int
  | 0, _, _ => none
  | n4 + 1, x2, x3 =>
    if 7 ≤ x3 then
      some x2
    else
      grd (0 ≤ x3 ∧ x3 < 7) <|
      mlet ((μ c1 (x3).toNat)) fun x5 =>
      mlet ((mmax x2 x5)) fun x6 =>
      mlet (w32 (x3 + 1)) fun x7 =>
      fX1_greatestPart_L16 μ c1 n4 x6 x7
def fX1_greatestPart (p1 : Int) (μ : Mem) : Option Int :=
  grd (0 ≤ p1 ∧ p1 < 20) <|
  mlet (40 + (p1).toNat) fun c1 =>
  fX1_greatestPart_L16 μ c1 fuel 0 0
theorem K_X1_greatestPart  (p1 : Int)  (μ : Mem) : Con yX1_greatestPart cX1_greatestPart 7 (some .int) 2 [.inr (.inr 0), .inl p1] μ (fX1_greatestPart p1 μ) (rI μ) := by
  refine con_of (own := RX1) (by decide) rfl (Nat.le_of_ble_eq_true rfl) ?_
  show Sim cX1_greatestPart 7 RX1 (2) (some .int) (rI μ) 0 [(0, .inr (.inr 0)), (1, .inl p1)] [] μ (fX1_greatestPart p1 μ)
  unfold fX1_greatestPart
  refine S_iconst dX1_greatestPart_0 rfl ?_
  refine S_istore_n (lv' := [(2, .inl 0), (0, .inr (.inr 0)), (1, .inl p1)]) dX1_greatestPart_1 rfl rfl ?_
  refine S_aload_n dX1_greatestPart_2 rfl ?_
  refine S_getR (c1 := 39) dX1_greatestPart_3 rfl fl_X1_74 rfl rfl rfl ?_
  refine S_iload_n dX1_greatestPart_6 rfl ?_
  refine S_aald (N := 20) (c1 := 40) (c2 := 60) dX1_greatestPart_7 rfl (by decide) (by decide) rfl rfl rfl (fun c1 hc1 => ?_)
  refine S_astore_n (lv' := [(3, .inr (.inr c1)), (2, .inl 0), (0, .inr (.inr 0)), (1, .inl p1)]) dX1_greatestPart_8 rfl rfl ?_
  refine S_aload_n dX1_greatestPart_9 rfl ?_
  refine S_alen (N := 7) dX1_greatestPart_10 (kd_part hc1) (fam_lt hc1 (by decide)) (by decide) rfl rfl ?_
  refine S_istore (lv' := [(4, .inl 7), (3, .inr (.inr c1)), (2, .inl 0), (0, .inr (.inr 0)), (1, .inl p1)]) dX1_greatestPart_11 rfl rfl ?_
  refine S_iconst dX1_greatestPart_13 rfl ?_
  refine S_istore (lv' := [(5, .inl 0), (4, .inl 7), (3, .inr (.inr c1)), (2, .inl 0), (0, .inr (.inr 0)), (1, .inl p1)]) dX1_greatestPart_14 rfl rfl ?_
  have hL16 : ∀ (n4 : Nat) (x2 : Int) (x3 : Int), Sim cX1_greatestPart 7 RX1 (2) (some .int) (rI μ) 16 [(2, .inl x2), (3, .inr (.inr c1)), (4, .inl 7), (5, .inl x3)] [] μ (fX1_greatestPart_L16 μ c1 n4 x2 x3) := by
    intro n4
    induction n4 with
    | zero =>
      intro x2 x3
      exact S_none rfl
    | succ n4 ih =>
      intro x2 x3
      rw [fX1_greatestPart_L16]
      refine S_iload dX1_greatestPart_16 rfl ?_
      refine S_iload dX1_greatestPart_18 rfl ?_
      refine S_ic_ge (tgt := 42) dX1_greatestPart_20 (by decide) (fun h8 => ?_) (fun h8 => ?_)
      · refine S_iload_n dX1_greatestPart_42 rfl ?_
        exact S_iret dX1_greatestPart_43 rfl rfl
      · refine S_aload_n dX1_greatestPart_23 rfl ?_
        refine S_iload dX1_greatestPart_24 rfl ?_
        refine S_iald (N := 7) dX1_greatestPart_26 (kd_part hc1) (fam_lt hc1 (by decide)) rfl ?_
        refine S_let (fun x5 => ?_)
        refine S_istore (lv' := [(6, .inl x5), (2, .inl x2), (3, .inr (.inr c1)), (4, .inl 7), (5, .inl x3)]) dX1_greatestPart_27 rfl rfl ?_
        refine S_iload_n dX1_greatestPart_29 rfl ?_
        refine S_iload dX1_greatestPart_30 rfl ?_
        refine S_mmax dX1_greatestPart_32 jl_X1_288 jm_max jm_M jc_max rfl rfl ?_
        refine S_let (fun x6 => ?_)
        refine S_istore_n (lv' := [(2, .inl x6), (6, .inl x5), (3, .inr (.inr c1)), (4, .inl 7), (5, .inl x3)]) dX1_greatestPart_35 rfl rfl ?_
        refine S_iinc (lv' := fun x7 => [(5, .inl x7), (2, .inl x6), (6, .inl x5), (3, .inr (.inr c1)), (4, .inl 7)]) dX1_greatestPart_36 rfl rfl rfl (fun _ => rfl) (fun x7 => ?_)
        refine S_goto (tgt := 16) dX1_greatestPart_39 (by decide) ?_
        exact S_sub [1, 3, 4, 0] rfl (ih x6 x7)
  exact S_sub [3, 2, 1, 0] rfl (hL16 fuel 0 0)
