theorem dX1_outcome_0 : decode cX1_outcome 0 = .ok (.iload_n 3, 1) := by decide +kernel
theorem dX1_outcome_1 : decode cX1_outcome 1 = .ok (.ifCond .gt 32, 3) := by decide +kernel
theorem dX1_outcome_4 : decode cX1_outcome 4 = .ok (.aload_n 0, 1) := by decide +kernel
theorem dX1_outcome_5 : decode cX1_outcome 5 = .ok (.iconst 0, 1) := by decide +kernel
theorem dX1_outcome_6 : decode cX1_outcome 6 = .ok (.invokevirtual 145, 3) := by decide +kernel
theorem dX1_outcome_9 : decode cX1_outcome 9 = .ok (.istore 4, 2) := by decide +kernel
theorem dX1_outcome_11 : decode cX1_outcome 11 = .ok (.iload 4, 2) := by decide +kernel
theorem dX1_outcome_13 : decode cX1_outcome 13 = .ok (.iload_n 1, 1) := by decide +kernel
theorem dX1_outcome_14 : decode cX1_outcome 14 = .ok (.if_icmp .ne 7, 3) := by decide +kernel
theorem dX1_outcome_17 : decode cX1_outcome 17 = .ok (.iconst 1, 1) := by decide +kernel
theorem dX1_outcome_18 : decode cX1_outcome 18 = .ok (.goto 14, 3) := by decide +kernel
theorem dX1_outcome_21 : decode cX1_outcome 21 = .ok (.iload 4, 2) := by decide +kernel
theorem dX1_outcome_23 : decode cX1_outcome 23 = .ok (.iload_n 2, 1) := by decide +kernel
theorem dX1_outcome_24 : decode cX1_outcome 24 = .ok (.if_icmp .ne 7, 3) := by decide +kernel
theorem dX1_outcome_27 : decode cX1_outcome 27 = .ok (.iconst (-1), 1) := by decide +kernel
theorem dX1_outcome_28 : decode cX1_outcome 28 = .ok (.goto 4, 3) := by decide +kernel
theorem dX1_outcome_31 : decode cX1_outcome 31 = .ok (.iconst 0, 1) := by decide +kernel
theorem dX1_outcome_32 : decode cX1_outcome 32 = .ok (.ireturn, 1) := by decide +kernel
theorem dX1_outcome_33 : decode cX1_outcome 33 = .ok (.iload_n 3, 1) := by decide +kernel
theorem dX1_outcome_34 : decode cX1_outcome 34 = .ok (.iconst 2, 1) := by decide +kernel
theorem dX1_outcome_35 : decode cX1_outcome 35 = .ok (.irem, 1) := by decide +kernel
theorem dX1_outcome_36 : decode cX1_outcome 36 = .ok (.ifCond .ne 7, 3) := by decide +kernel
theorem dX1_outcome_39 : decode cX1_outcome 39 = .ok (.iconst 1, 1) := by decide +kernel
theorem dX1_outcome_40 : decode cX1_outcome 40 = .ok (.goto 4, 3) := by decide +kernel
theorem dX1_outcome_43 : decode cX1_outcome 43 = .ok (.iconst 0, 1) := by decide +kernel
theorem dX1_outcome_44 : decode cX1_outcome 44 = .ok (.istore 4, 2) := by decide +kernel
theorem dX1_outcome_46 : decode cX1_outcome 46 = .ok (.iload 4, 2) := by decide +kernel
theorem dX1_outcome_48 : decode cX1_outcome 48 = .ok (.ifCond .eq 7, 3) := by decide +kernel
theorem dX1_outcome_51 : decode cX1_outcome 51 = .ok (.iload_n 1, 1) := by decide +kernel
theorem dX1_outcome_52 : decode cX1_outcome 52 = .ok (.goto 4, 3) := by decide +kernel
theorem dX1_outcome_55 : decode cX1_outcome 55 = .ok (.iload_n 2, 1) := by decide +kernel
theorem dX1_outcome_56 : decode cX1_outcome 56 = .ok (.istore 5, 2) := by decide +kernel
theorem dX1_outcome_58 : decode cX1_outcome 58 = .ok (.aload_n 0, 1) := by decide +kernel
theorem dX1_outcome_59 : decode cX1_outcome 59 = .ok (.getfield 156, 3) := by decide +kernel
theorem dX1_outcome_62 : decode cX1_outcome 62 = .ok (.iload 5, 2) := by decide +kernel
theorem dX1_outcome_64 : decode cX1_outcome 64 = .ok (.iaload, 1) := by decide +kernel
theorem dX1_outcome_65 : decode cX1_outcome 65 = .ok (.istore 6, 2) := by decide +kernel
theorem dX1_outcome_67 : decode cX1_outcome 67 = .ok (.iload 4, 2) := by decide +kernel
theorem dX1_outcome_69 : decode cX1_outcome 69 = .ok (.ifCond .eq 7, 3) := by decide +kernel
theorem dX1_outcome_72 : decode cX1_outcome 72 = .ok (.iconst (-1), 1) := by decide +kernel
theorem dX1_outcome_73 : decode cX1_outcome 73 = .ok (.goto 4, 3) := by decide +kernel
theorem dX1_outcome_76 : decode cX1_outcome 76 = .ok (.iconst 1, 1) := by decide +kernel
theorem dX1_outcome_77 : decode cX1_outcome 77 = .ok (.istore 7, 2) := by decide +kernel
theorem dX1_outcome_79 : decode cX1_outcome 79 = .ok (.iconst 0, 1) := by decide +kernel
theorem dX1_outcome_80 : decode cX1_outcome 80 = .ok (.istore 8, 2) := by decide +kernel
theorem dX1_outcome_82 : decode cX1_outcome 82 = .ok (.iload 8, 2) := by decide +kernel
theorem dX1_outcome_84 : decode cX1_outcome 84 = .ok (.iconst 2, 1) := by decide +kernel
theorem dX1_outcome_85 : decode cX1_outcome 85 = .ok (.if_icmp .gt 61, 3) := by decide +kernel
theorem dX1_outcome_88 : decode cX1_outcome 88 = .ok (.aload_n 0, 1) := by decide +kernel
theorem dX1_outcome_89 : decode cX1_outcome 89 = .ok (.getfield 156, 3) := by decide +kernel
theorem dX1_outcome_92 : decode cX1_outcome 92 = .ok (.iload 5, 2) := by decide +kernel
theorem dX1_outcome_94 : decode cX1_outcome 94 = .ok (.bipush 20, 2) := by decide +kernel
theorem dX1_outcome_96 : decode cX1_outcome 96 = .ok (.iload 6, 2) := by decide +kernel
theorem dX1_outcome_98 : decode cX1_outcome 98 = .ok (.iload 8, 2) := by decide +kernel
theorem dX1_outcome_100 : decode cX1_outcome 100 = .ok (.iadd, 1) := by decide +kernel
theorem dX1_outcome_101 : decode cX1_outcome 101 = .ok (.invokestatic 308, 3) := by decide +kernel
theorem dX1_outcome_104 : decode cX1_outcome 104 = .ok (.iastore, 1) := by decide +kernel
theorem dX1_outcome_105 : decode cX1_outcome 105 = .ok (.aload_n 0, 1) := by decide +kernel
theorem dX1_outcome_106 : decode cX1_outcome 106 = .ok (.iload_n 1, 1) := by decide +kernel
theorem dX1_outcome_107 : decode cX1_outcome 107 = .ok (.iload_n 2, 1) := by decide +kernel
theorem dX1_outcome_108 : decode cX1_outcome 108 = .ok (.iload_n 3, 1) := by decide +kernel
theorem dX1_outcome_109 : decode cX1_outcome 109 = .ok (.iconst 1, 1) := by decide +kernel
theorem dX1_outcome_110 : decode cX1_outcome 110 = .ok (.isub, 1) := by decide +kernel
theorem dX1_outcome_111 : decode cX1_outcome 111 = .ok (.invokestatic 213, 3) := by decide +kernel
theorem dX1_outcome_114 : decode cX1_outcome 114 = .ok (.istore 9, 2) := by decide +kernel
theorem dX1_outcome_116 : decode cX1_outcome 116 = .ok (.iload 4, 2) := by decide +kernel
theorem dX1_outcome_118 : decode cX1_outcome 118 = .ok (.ifCond .eq 13, 3) := by decide +kernel
theorem dX1_outcome_121 : decode cX1_outcome 121 = .ok (.iload 7, 2) := by decide +kernel
theorem dX1_outcome_123 : decode cX1_outcome 123 = .ok (.iload 9, 2) := by decide +kernel
theorem dX1_outcome_125 : decode cX1_outcome 125 = .ok (.invokestatic 288, 3) := by decide +kernel
theorem dX1_outcome_128 : decode cX1_outcome 128 = .ok (.goto 10, 3) := by decide +kernel
theorem dX1_outcome_131 : decode cX1_outcome 131 = .ok (.iload 7, 2) := by decide +kernel
theorem dX1_outcome_133 : decode cX1_outcome 133 = .ok (.iload 9, 2) := by decide +kernel
theorem dX1_outcome_135 : decode cX1_outcome 135 = .ok (.invokestatic 308, 3) := by decide +kernel
theorem dX1_outcome_138 : decode cX1_outcome 138 = .ok (.istore 7, 2) := by decide +kernel
theorem dX1_outcome_140 : decode cX1_outcome 140 = .ok (.iinc 8 1, 3) := by decide +kernel
theorem dX1_outcome_143 : decode cX1_outcome 143 = .ok (.goto (-61), 3) := by decide +kernel
theorem dX1_outcome_146 : decode cX1_outcome 146 = .ok (.aload_n 0, 1) := by decide +kernel
theorem dX1_outcome_147 : decode cX1_outcome 147 = .ok (.getfield 156, 3) := by decide +kernel
theorem dX1_outcome_150 : decode cX1_outcome 150 = .ok (.iload 5, 2) := by decide +kernel
theorem dX1_outcome_152 : decode cX1_outcome 152 = .ok (.iload 6, 2) := by decide +kernel
theorem dX1_outcome_154 : decode cX1_outcome 154 = .ok (.iastore, 1) := by decide +kernel
theorem dX1_outcome_155 : decode cX1_outcome 155 = .ok (.iload 7, 2) := by decide +kernel
theorem dX1_outcome_157 : decode cX1_outcome 157 = .ok (.ireturn, 1) := by decide +kernel
theorem dX1_duel_0 : decode cX1_duel 0 = .ok (.aload_n 0, 1) := by decide +kernel
theorem dX1_duel_1 : decode cX1_duel 1 = .ok (.getfield 33, 3) := by decide +kernel
theorem dX1_duel_4 : decode cX1_duel 4 = .ok (.iload_n 1, 1) := by decide +kernel
theorem dX1_duel_5 : decode cX1_duel 5 = .ok (.invokevirtual 125, 3) := by decide +kernel
theorem dX1_duel_8 : decode cX1_duel 8 = .ok (.ifCond .eq 28, 3) := by decide +kernel
theorem dX1_duel_11 : decode cX1_duel 11 = .ok (.aload_n 0, 1) := by decide +kernel
theorem dX1_duel_12 : decode cX1_duel 12 = .ok (.getfield 33, 3) := by decide +kernel
theorem dX1_duel_15 : decode cX1_duel 15 = .ok (.iload_n 2, 1) := by decide +kernel
theorem dX1_duel_16 : decode cX1_duel 16 = .ok (.invokevirtual 125, 3) := by decide +kernel
theorem dX1_duel_19 : decode cX1_duel 19 = .ok (.ifCond .eq 17, 3) := by decide +kernel
theorem dX1_duel_22 : decode cX1_duel 22 = .ok (.iload_n 1, 1) := by decide +kernel
theorem dX1_duel_23 : decode cX1_duel 23 = .ok (.iload_n 2, 1) := by decide +kernel
theorem dX1_duel_24 : decode cX1_duel 24 = .ok (.if_icmp .eq 12, 3) := by decide +kernel
theorem dX1_duel_27 : decode cX1_duel 27 = .ok (.iload_n 3, 1) := by decide +kernel
theorem dX1_duel_28 : decode cX1_duel 28 = .ok (.iconst 0, 1) := by decide +kernel
theorem dX1_duel_29 : decode cX1_duel 29 = .ok (.iconst 3, 1) := by decide +kernel
theorem dX1_duel_30 : decode cX1_duel 30 = .ok (.invokestatic 128, 3) := by decide +kernel
theorem dX1_duel_33 : decode cX1_duel 33 = .ok (.ifCond .ne 5, 3) := by decide +kernel
theorem dX1_duel_36 : decode cX1_duel 36 = .ok (.iconst (-1), 1) := by decide +kernel
theorem dX1_duel_37 : decode cX1_duel 37 = .ok (.ireturn, 1) := by decide +kernel
theorem dX1_duel_38 : decode cX1_duel 38 = .ok (.aload_n 0, 1) := by decide +kernel
theorem dX1_duel_39 : decode cX1_duel 39 = .ok (.getfield 36, 3) := by decide +kernel
theorem dX1_duel_42 : decode cX1_duel 42 = .ok (.aload_n 0, 1) := by decide +kernel
theorem dX1_duel_43 : decode cX1_duel 43 = .ok (.getfield 33, 3) := by decide +kernel
theorem dX1_duel_46 : decode cX1_duel 46 = .ok (.invokevirtual 118, 3) := by decide +kernel
theorem dX1_duel_49 : decode cX1_duel 49 = .ok (.aload_n 0, 1) := by decide +kernel
theorem dX1_duel_50 : decode cX1_duel 50 = .ok (.aload_n 0, 1) := by decide +kernel
theorem dX1_duel_51 : decode cX1_duel 51 = .ok (.getfield 36, 3) := by decide +kernel
theorem dX1_duel_54 : decode cX1_duel 54 = .ok (.iload_n 1, 1) := by decide +kernel
theorem dX1_duel_55 : decode cX1_duel 55 = .ok (.iload_n 2, 1) := by decide +kernel
theorem dX1_duel_56 : decode cX1_duel 56 = .ok (.iconst 2, 1) := by decide +kernel
theorem dX1_duel_57 : decode cX1_duel 57 = .ok (.iload_n 3, 1) := by decide +kernel
theorem dX1_duel_58 : decode cX1_duel 58 = .ok (.imul, 1) := by decide +kernel
theorem dX1_duel_59 : decode cX1_duel 59 = .ok (.invokestatic 213, 3) := by decide +kernel
theorem dX1_duel_62 : decode cX1_duel 62 = .ok (.invokevirtual 99, 3) := by decide +kernel
theorem dX1_duel_65 : decode cX1_duel 65 = .ok (.ireturn, 1) := by decide +kernel
theorem dX1_allWeight_0 : decode cX1_allWeight 0 = .ok (.iconst 1, 1) := by decide +kernel
theorem dX1_allWeight_1 : decode cX1_allWeight 1 = .ok (.istore_n 1, 1) := by decide +kernel
theorem dX1_allWeight_2 : decode cX1_allWeight 2 = .ok (.iconst 0, 1) := by decide +kernel
theorem dX1_allWeight_3 : decode cX1_allWeight 3 = .ok (.istore_n 2, 1) := by decide +kernel
theorem dX1_allWeight_4 : decode cX1_allWeight 4 = .ok (.iload_n 2, 1) := by decide +kernel
theorem dX1_allWeight_5 : decode cX1_allWeight 5 = .ok (.aload_n 0, 1) := by decide +kernel
theorem dX1_allWeight_6 : decode cX1_allWeight 6 = .ok (.getfield 33, 3) := by decide +kernel
theorem dX1_allWeight_9 : decode cX1_allWeight 9 = .ok (.getfield 122, 3) := by decide +kernel
theorem dX1_allWeight_12 : decode cX1_allWeight 12 = .ok (.if_icmp .ge 14, 3) := by decide +kernel
theorem dX1_allWeight_15 : decode cX1_allWeight 15 = .ok (.iload_n 1, 1) := by decide +kernel
theorem dX1_allWeight_16 : decode cX1_allWeight 16 = .ok (.bipush 12, 2) := by decide +kernel
theorem dX1_allWeight_18 : decode cX1_allWeight 18 = .ok (.imul, 1) := by decide +kernel
theorem dX1_allWeight_19 : decode cX1_allWeight 19 = .ok (.istore_n 1, 1) := by decide +kernel
theorem dX1_allWeight_20 : decode cX1_allWeight 20 = .ok (.iinc 2 1, 3) := by decide +kernel
theorem dX1_allWeight_23 : decode cX1_allWeight 23 = .ok (.goto (-19), 3) := by decide +kernel
theorem dX1_allWeight_26 : decode cX1_allWeight 26 = .ok (.iload_n 1, 1) := by decide +kernel
theorem dX1_allWeight_27 : decode cX1_allWeight 27 = .ok (.ireturn, 1) := by decide +kernel
theorem dX1_weigh_0 : decode cX1_weigh 0 = .ok (.aload_n 0, 1) := by decide +kernel
theorem dX1_weigh_1 : decode cX1_weigh 1 = .ok (.getfield 71, 3) := by decide +kernel
theorem dX1_weigh_4 : decode cX1_weigh 4 = .ok (.iconst 0, 1) := by decide +kernel
theorem dX1_weigh_5 : decode cX1_weigh 5 = .ok (.invokestatic 77, 3) := by decide +kernel
theorem dX1_weigh_8 : decode cX1_weigh 8 = .ok (.iconst 0, 1) := by decide +kernel
theorem dX1_weigh_9 : decode cX1_weigh 9 = .ok (.istore_n 2, 1) := by decide +kernel
theorem dX1_weigh_10 : decode cX1_weigh 10 = .ok (.iload_n 2, 1) := by decide +kernel
theorem dX1_weigh_11 : decode cX1_weigh 11 = .ok (.iconst 1, 1) := by decide +kernel
theorem dX1_weigh_12 : decode cX1_weigh 12 = .ok (.aload_n 0, 1) := by decide +kernel
theorem dX1_weigh_13 : decode cX1_weigh 13 = .ok (.getfield 33, 3) := by decide +kernel
theorem dX1_weigh_16 : decode cX1_weigh 16 = .ok (.getfield 122, 3) := by decide +kernel
theorem dX1_weigh_19 : decode cX1_weigh 19 = .ok (.ishl, 1) := by decide +kernel
theorem dX1_weigh_20 : decode cX1_weigh 20 = .ok (.if_icmp .ge 72, 3) := by decide +kernel
theorem dX1_weigh_23 : decode cX1_weigh 23 = .ok (.iconst 1, 1) := by decide +kernel
theorem dX1_weigh_24 : decode cX1_weigh 24 = .ok (.istore_n 3, 1) := by decide +kernel
theorem dX1_weigh_25 : decode cX1_weigh 25 = .ok (.iconst 0, 1) := by decide +kernel
theorem dX1_weigh_26 : decode cX1_weigh 26 = .ok (.istore 4, 2) := by decide +kernel
theorem dX1_weigh_28 : decode cX1_weigh 28 = .ok (.iload 4, 2) := by decide +kernel
theorem dX1_weigh_30 : decode cX1_weigh 30 = .ok (.aload_n 0, 1) := by decide +kernel
theorem dX1_weigh_31 : decode cX1_weigh 31 = .ok (.getfield 33, 3) := by decide +kernel
theorem dX1_weigh_34 : decode cX1_weigh 34 = .ok (.getfield 122, 3) := by decide +kernel
theorem dX1_weigh_37 : decode cX1_weigh 37 = .ok (.if_icmp .ge 29, 3) := by decide +kernel
theorem dX1_weigh_40 : decode cX1_weigh 40 = .ok (.iload_n 3, 1) := by decide +kernel
theorem dX1_weigh_41 : decode cX1_weigh 41 = .ok (.iload_n 2, 1) := by decide +kernel
theorem dX1_weigh_42 : decode cX1_weigh 42 = .ok (.iload 4, 2) := by decide +kernel
theorem dX1_weigh_44 : decode cX1_weigh 44 = .ok (.ishr, 1) := by decide +kernel
theorem dX1_weigh_45 : decode cX1_weigh 45 = .ok (.iconst 1, 1) := by decide +kernel
theorem dX1_weigh_46 : decode cX1_weigh 46 = .ok (.iand, 1) := by decide +kernel
theorem dX1_weigh_47 : decode cX1_weigh 47 = .ok (.ifCond .eq 7, 3) := by decide +kernel
theorem dX1_weigh_50 : decode cX1_weigh 50 = .ok (.iload_n 1, 1) := by decide +kernel
theorem dX1_weigh_51 : decode cX1_weigh 51 = .ok (.goto 7, 3) := by decide +kernel
theorem dX1_weigh_54 : decode cX1_weigh 54 = .ok (.bipush 12, 2) := by decide +kernel
theorem dX1_weigh_56 : decode cX1_weigh 56 = .ok (.iload_n 1, 1) := by decide +kernel
theorem dX1_weigh_57 : decode cX1_weigh 57 = .ok (.isub, 1) := by decide +kernel
theorem dX1_weigh_58 : decode cX1_weigh 58 = .ok (.imul, 1) := by decide +kernel
theorem dX1_weigh_59 : decode cX1_weigh 59 = .ok (.istore_n 3, 1) := by decide +kernel
theorem dX1_weigh_60 : decode cX1_weigh 60 = .ok (.iinc 4 1, 3) := by decide +kernel
theorem dX1_weigh_63 : decode cX1_weigh 63 = .ok (.goto (-35), 3) := by decide +kernel
theorem dX1_weigh_66 : decode cX1_weigh 66 = .ok (.aload_n 0, 1) := by decide +kernel
theorem dX1_weigh_67 : decode cX1_weigh 67 = .ok (.getfield 71, 3) := by decide +kernel
theorem dX1_weigh_70 : decode cX1_weigh 70 = .ok (.aload_n 0, 1) := by decide +kernel
theorem dX1_weigh_71 : decode cX1_weigh 71 = .ok (.getfield 33, 3) := by decide +kernel
theorem dX1_weigh_74 : decode cX1_weigh 74 = .ok (.iload_n 2, 1) := by decide +kernel
theorem dX1_weigh_75 : decode cX1_weigh 75 = .ok (.invokevirtual 145, 3) := by decide +kernel
theorem dX1_weigh_78 : decode cX1_weigh 78 = .ok (.invokestatic 296, 3) := by decide +kernel
theorem dX1_weigh_81 : decode cX1_weigh 81 = .ok (.dup2, 1) := by decide +kernel
theorem dX1_weigh_82 : decode cX1_weigh 82 = .ok (.iaload, 1) := by decide +kernel
theorem dX1_weigh_83 : decode cX1_weigh 83 = .ok (.iload_n 3, 1) := by decide +kernel
theorem dX1_weigh_84 : decode cX1_weigh 84 = .ok (.iadd, 1) := by decide +kernel
theorem dX1_weigh_85 : decode cX1_weigh 85 = .ok (.iastore, 1) := by decide +kernel
theorem dX1_weigh_86 : decode cX1_weigh 86 = .ok (.iinc 2 1, 3) := by decide +kernel
theorem dX1_weigh_89 : decode cX1_weigh 89 = .ok (.goto (-79), 3) := by decide +kernel
theorem dX1_weigh_92 : decode cX1_weigh 92 = .ok (.return_, 1) := by decide +kernel
theorem dX1_odds_0 : decode cX1_odds 0 = .ok (.aload_n 0, 1) := by decide +kernel
theorem dX1_odds_1 : decode cX1_odds 1 = .ok (.getfield 33, 3) := by decide +kernel
theorem dX1_odds_4 : decode cX1_odds 4 = .ok (.iload_n 1, 1) := by decide +kernel
theorem dX1_odds_5 : decode cX1_odds 5 = .ok (.invokevirtual 125, 3) := by decide +kernel
theorem dX1_odds_8 : decode cX1_odds 8 = .ok (.ifCond .eq 13, 3) := by decide +kernel
theorem dX1_odds_11 : decode cX1_odds 11 = .ok (.iload_n 2, 1) := by decide +kernel
theorem dX1_odds_12 : decode cX1_odds 12 = .ok (.iconst 0, 1) := by decide +kernel
theorem dX1_odds_13 : decode cX1_odds 13 = .ok (.bipush 12, 2) := by decide +kernel
theorem dX1_odds_15 : decode cX1_odds 15 = .ok (.invokestatic 128, 3) := by decide +kernel
theorem dX1_odds_18 : decode cX1_odds 18 = .ok (.ifCond .ne 5, 3) := by decide +kernel
theorem dX1_odds_21 : decode cX1_odds 21 = .ok (.iconst (-1), 1) := by decide +kernel
theorem dX1_odds_22 : decode cX1_odds 22 = .ok (.ireturn, 1) := by decide +kernel
theorem dX1_odds_23 : decode cX1_odds 23 = .ok (.aload_n 0, 1) := by decide +kernel
theorem dX1_odds_24 : decode cX1_odds 24 = .ok (.iload_n 2, 1) := by decide +kernel
theorem dX1_odds_25 : decode cX1_odds 25 = .ok (.invokevirtual 217, 3) := by decide +kernel
theorem dX1_odds_28 : decode cX1_odds 28 = .ok (.aload_n 0, 1) := by decide +kernel
theorem dX1_odds_29 : decode cX1_odds 29 = .ok (.aload_n 0, 1) := by decide +kernel
theorem dX1_odds_30 : decode cX1_odds 30 = .ok (.getfield 71, 3) := by decide +kernel
theorem dX1_odds_33 : decode cX1_odds 33 = .ok (.iload_n 1, 1) := by decide +kernel
theorem dX1_odds_34 : decode cX1_odds 34 = .ok (.iaload, 1) := by decide +kernel
theorem dX1_odds_35 : decode cX1_odds 35 = .ok (.i2l, 1) := by decide +kernel
theorem dX1_odds_36 : decode cX1_odds 36 = .ok (.aload_n 0, 1) := by decide +kernel
theorem dX1_odds_37 : decode cX1_odds 37 = .ok (.invokevirtual 220, 3) := by decide +kernel
theorem dX1_odds_40 : decode cX1_odds 40 = .ok (.i2l, 1) := by decide +kernel
theorem dX1_odds_41 : decode cX1_odds 41 = .ok (.invokevirtual 209, 3) := by decide +kernel
theorem dX1_odds_44 : decode cX1_odds 44 = .ok (.iconst 1, 1) := by decide +kernel
theorem dX1_odds_45 : decode cX1_odds 45 = .ok (.ireturn, 1) := by decide +kernel
theorem dX1_weighedFar_0 : decode cX1_weighedFar 0 = .ok (.aload_n 0, 1) := by decide +kernel
theorem dX1_weighedFar_1 : decode cX1_weighedFar 1 = .ok (.getfield 71, 3) := by decide +kernel
theorem dX1_weighedFar_4 : decode cX1_weighedFar 4 = .ok (.bipush 6, 2) := by decide +kernel
theorem dX1_weighedFar_6 : decode cX1_weighedFar 6 = .ok (.iaload, 1) := by decide +kernel
theorem dX1_weighedFar_7 : decode cX1_weighedFar 7 = .ok (.aload_n 0, 1) := by decide +kernel
theorem dX1_weighedFar_8 : decode cX1_weighedFar 8 = .ok (.getfield 33, 3) := by decide +kernel
theorem dX1_weighedFar_11 : decode cX1_weighedFar 11 = .ok (.getfield 178, 3) := by decide +kernel
theorem dX1_weighedFar_14 : decode cX1_weighedFar 14 = .ok (.iload_n 1, 1) := by decide +kernel
theorem dX1_weighedFar_15 : decode cX1_weighedFar 15 = .ok (.isub, 1) := by decide +kernel
theorem dX1_weighedFar_16 : decode cX1_weighedFar 16 = .ok (.invokestatic 311, 3) := by decide +kernel
theorem dX1_weighedFar_19 : decode cX1_weighedFar 19 = .ok (.imul, 1) := by decide +kernel
theorem dX1_weighedFar_20 : decode cX1_weighedFar 20 = .ok (.istore_n 2, 1) := by decide +kernel
theorem dX1_weighedFar_21 : decode cX1_weighedFar 21 = .ok (.iconst 0, 1) := by decide +kernel
theorem dX1_weighedFar_22 : decode cX1_weighedFar 22 = .ok (.istore_n 3, 1) := by decide +kernel
theorem dX1_weighedFar_23 : decode cX1_weighedFar 23 = .ok (.iload_n 3, 1) := by decide +kernel
theorem dX1_weighedFar_24 : decode cX1_weighedFar 24 = .ok (.aload_n 0, 1) := by decide +kernel
theorem dX1_weighedFar_25 : decode cX1_weighedFar 25 = .ok (.getfield 33, 3) := by decide +kernel
theorem dX1_weighedFar_28 : decode cX1_weighedFar 28 = .ok (.getfield 122, 3) := by decide +kernel
theorem dX1_weighedFar_31 : decode cX1_weighedFar 31 = .ok (.if_icmp .ge 33, 3) := by decide +kernel
theorem dX1_weighedFar_34 : decode cX1_weighedFar 34 = .ok (.iload_n 2, 1) := by decide +kernel
theorem dX1_weighedFar_35 : decode cX1_weighedFar 35 = .ok (.aload_n 0, 1) := by decide +kernel
theorem dX1_weighedFar_36 : decode cX1_weighedFar 36 = .ok (.getfield 71, 3) := by decide +kernel
theorem dX1_weighedFar_39 : decode cX1_weighedFar 39 = .ok (.iload_n 3, 1) := by decide +kernel
theorem dX1_weighedFar_40 : decode cX1_weighedFar 40 = .ok (.iaload, 1) := by decide +kernel
theorem dX1_weighedFar_41 : decode cX1_weighedFar 41 = .ok (.aload_n 0, 1) := by decide +kernel
theorem dX1_weighedFar_42 : decode cX1_weighedFar 42 = .ok (.getfield 33, 3) := by decide +kernel
theorem dX1_weighedFar_45 : decode cX1_weighedFar 45 = .ok (.getfield 162, 3) := by decide +kernel
theorem dX1_weighedFar_48 : decode cX1_weighedFar 48 = .ok (.iload_n 3, 1) := by decide +kernel
theorem dX1_weighedFar_49 : decode cX1_weighedFar 49 = .ok (.iaload, 1) := by decide +kernel
theorem dX1_weighedFar_50 : decode cX1_weighedFar 50 = .ok (.iload_n 1, 1) := by decide +kernel
theorem dX1_weighedFar_51 : decode cX1_weighedFar 51 = .ok (.isub, 1) := by decide +kernel
theorem dX1_weighedFar_52 : decode cX1_weighedFar 52 = .ok (.invokestatic 311, 3) := by decide +kernel
theorem dX1_weighedFar_55 : decode cX1_weighedFar 55 = .ok (.imul, 1) := by decide +kernel
theorem dX1_weighedFar_56 : decode cX1_weighedFar 56 = .ok (.iadd, 1) := by decide +kernel
theorem dX1_weighedFar_57 : decode cX1_weighedFar 57 = .ok (.istore_n 2, 1) := by decide +kernel
theorem dX1_weighedFar_58 : decode cX1_weighedFar 58 = .ok (.iinc 3 1, 3) := by decide +kernel
theorem dX1_weighedFar_61 : decode cX1_weighedFar 61 = .ok (.goto (-38), 3) := by decide +kernel
theorem dX1_weighedFar_64 : decode cX1_weighedFar 64 = .ok (.iload_n 2, 1) := by decide +kernel
theorem dX1_weighedFar_65 : decode cX1_weighedFar 65 = .ok (.ireturn, 1) := by decide +kernel
theorem dX1_mid_0 : decode cX1_mid 0 = .ok (.iload_n 1, 1) := by decide +kernel
theorem dX1_mid_1 : decode cX1_mid 1 = .ok (.invokestatic 159, 3) := by decide +kernel
theorem dX1_mid_4 : decode cX1_mid 4 = .ok (.ifCond .eq 13, 3) := by decide +kernel
theorem dX1_mid_7 : decode cX1_mid 7 = .ok (.iload_n 2, 1) := by decide +kernel
theorem dX1_mid_8 : decode cX1_mid 8 = .ok (.iconst 0, 1) := by decide +kernel
theorem dX1_mid_9 : decode cX1_mid 9 = .ok (.bipush 12, 2) := by decide +kernel
theorem dX1_mid_11 : decode cX1_mid 11 = .ok (.invokestatic 128, 3) := by decide +kernel
theorem dX1_mid_14 : decode cX1_mid 14 = .ok (.ifCond .ne 5, 3) := by decide +kernel
theorem dX1_mid_17 : decode cX1_mid 17 = .ok (.iconst (-1), 1) := by decide +kernel
theorem dX1_mid_18 : decode cX1_mid 18 = .ok (.ireturn, 1) := by decide +kernel
theorem dX1_mid_19 : decode cX1_mid 19 = .ok (.aload_n 0, 1) := by decide +kernel
theorem dX1_mid_20 : decode cX1_mid 20 = .ok (.getfield 33, 3) := by decide +kernel
theorem dX1_mid_23 : decode cX1_mid 23 = .ok (.getfield 122, 3) := by decide +kernel
theorem dX1_mid_26 : decode cX1_mid 26 = .ok (.ifCond .ne 6, 3) := by decide +kernel
theorem dX1_mid_29 : decode cX1_mid 29 = .ok (.bipush (-4), 2) := by decide +kernel
theorem dX1_mid_31 : decode cX1_mid 31 = .ok (.ireturn, 1) := by decide +kernel
theorem dX1_mid_32 : decode cX1_mid 32 = .ok (.aload_n 0, 1) := by decide +kernel
theorem dX1_mid_33 : decode cX1_mid 33 = .ok (.iload_n 2, 1) := by decide +kernel
theorem dX1_mid_34 : decode cX1_mid 34 = .ok (.invokevirtual 217, 3) := by decide +kernel
theorem dX1_mid_37 : decode cX1_mid 37 = .ok (.aload_n 0, 1) := by decide +kernel
theorem dX1_mid_38 : decode cX1_mid 38 = .ok (.aload_n 0, 1) := by decide +kernel
theorem dX1_mid_39 : decode cX1_mid 39 = .ok (.iload_n 1, 1) := by decide +kernel
theorem dX1_mid_40 : decode cX1_mid 40 = .ok (.invokevirtual 223, 3) := by decide +kernel
theorem dX1_mid_43 : decode cX1_mid 43 = .ok (.i2l, 1) := by decide +kernel
theorem dX1_mid_44 : decode cX1_mid 44 = .ok (.aload_n 0, 1) := by decide +kernel
theorem dX1_mid_45 : decode cX1_mid 45 = .ok (.invokevirtual 220, 3) := by decide +kernel
theorem dX1_mid_48 : decode cX1_mid 48 = .ok (.i2l, 1) := by decide +kernel
theorem dX1_mid_49 : decode cX1_mid 49 = .ok (.invokevirtual 209, 3) := by decide +kernel
theorem dX1_mid_52 : decode cX1_mid 52 = .ok (.iconst 1, 1) := by decide +kernel
theorem dX1_mid_53 : decode cX1_mid 53 = .ok (.ireturn, 1) := by decide +kernel
theorem dX1_fair_0 : decode cX1_fair 0 = .ok (.iload_n 1, 1) := by decide +kernel
theorem dX1_fair_1 : decode cX1_fair 1 = .ok (.iconst 0, 1) := by decide +kernel
theorem dX1_fair_2 : decode cX1_fair 2 = .ok (.bipush 12, 2) := by decide +kernel
theorem dX1_fair_4 : decode cX1_fair 4 = .ok (.invokestatic 128, 3) := by decide +kernel
theorem dX1_fair_7 : decode cX1_fair 7 = .ok (.ifCond .ne 5, 3) := by decide +kernel
theorem dX1_fair_10 : decode cX1_fair 10 = .ok (.iconst (-1), 1) := by decide +kernel
theorem dX1_fair_11 : decode cX1_fair 11 = .ok (.ireturn, 1) := by decide +kernel
theorem dX1_fair_12 : decode cX1_fair 12 = .ok (.aload_n 0, 1) := by decide +kernel
theorem dX1_fair_13 : decode cX1_fair 13 = .ok (.getfield 33, 3) := by decide +kernel
theorem dX1_fair_16 : decode cX1_fair 16 = .ok (.getfield 122, 3) := by decide +kernel
theorem dX1_fair_19 : decode cX1_fair 19 = .ok (.ifCond .ne 6, 3) := by decide +kernel
theorem dX1_fair_22 : decode cX1_fair 22 = .ok (.bipush (-4), 2) := by decide +kernel
theorem dX1_fair_24 : decode cX1_fair 24 = .ok (.ireturn, 1) := by decide +kernel
theorem dX1_fair_25 : decode cX1_fair 25 = .ok (.aload_n 0, 1) := by decide +kernel
theorem dX1_fair_26 : decode cX1_fair 26 = .ok (.iload_n 1, 1) := by decide +kernel
theorem dX1_fair_27 : decode cX1_fair 27 = .ok (.invokevirtual 217, 3) := by decide +kernel
theorem dX1_fair_30 : decode cX1_fair 30 = .ok (.iconst 0, 1) := by decide +kernel
theorem dX1_fair_31 : decode cX1_fair 31 = .ok (.istore_n 2, 1) := by decide +kernel
theorem dX1_fair_32 : decode cX1_fair 32 = .ok (.iconst 1, 1) := by decide +kernel
theorem dX1_fair_33 : decode cX1_fair 33 = .ok (.istore_n 3, 1) := by decide +kernel
theorem dX1_fair_34 : decode cX1_fair 34 = .ok (.iload_n 3, 1) := by decide +kernel
theorem dX1_fair_35 : decode cX1_fair 35 = .ok (.bipush 9, 2) := by decide +kernel
theorem dX1_fair_37 : decode cX1_fair 37 = .ok (.if_icmp .gt 24, 3) := by decide +kernel
theorem dX1_fair_40 : decode cX1_fair 40 = .ok (.aload_n 0, 1) := by decide +kernel
theorem dX1_fair_41 : decode cX1_fair 41 = .ok (.iload_n 3, 1) := by decide +kernel
theorem dX1_fair_42 : decode cX1_fair 42 = .ok (.invokevirtual 223, 3) := by decide +kernel
theorem dX1_fair_45 : decode cX1_fair 45 = .ok (.aload_n 0, 1) := by decide +kernel
theorem dX1_fair_46 : decode cX1_fair 46 = .ok (.iload_n 2, 1) := by decide +kernel
theorem dX1_fair_47 : decode cX1_fair 47 = .ok (.invokevirtual 223, 3) := by decide +kernel
theorem dX1_fair_50 : decode cX1_fair 50 = .ok (.if_icmp .ge 5, 3) := by decide +kernel
theorem dX1_fair_53 : decode cX1_fair 53 = .ok (.iload_n 3, 1) := by decide +kernel
theorem dX1_fair_54 : decode cX1_fair 54 = .ok (.istore_n 2, 1) := by decide +kernel
theorem dX1_fair_55 : decode cX1_fair 55 = .ok (.iinc 3 1, 3) := by decide +kernel
theorem dX1_fair_58 : decode cX1_fair 58 = .ok (.goto (-24), 3) := by decide +kernel
theorem dX1_fair_61 : decode cX1_fair 61 = .ok (.aload_n 0, 1) := by decide +kernel
theorem dX1_fair_62 : decode cX1_fair 62 = .ok (.aload_n 0, 1) := by decide +kernel
theorem dX1_fair_63 : decode cX1_fair 63 = .ok (.iload_n 2, 1) := by decide +kernel
theorem dX1_fair_64 : decode cX1_fair 64 = .ok (.invokevirtual 223, 3) := by decide +kernel
theorem dX1_fair_67 : decode cX1_fair 67 = .ok (.i2l, 1) := by decide +kernel
theorem dX1_fair_68 : decode cX1_fair 68 = .ok (.aload_n 0, 1) := by decide +kernel
theorem dX1_fair_69 : decode cX1_fair 69 = .ok (.invokevirtual 220, 3) := by decide +kernel
theorem dX1_fair_72 : decode cX1_fair 72 = .ok (.i2l, 1) := by decide +kernel
theorem dX1_fair_73 : decode cX1_fair 73 = .ok (.invokevirtual 209, 3) := by decide +kernel
theorem dX1_fair_76 : decode cX1_fair 76 = .ok (.iload_n 2, 1) := by decide +kernel
theorem dX1_fair_77 : decode cX1_fair 77 = .ok (.ireturn, 1) := by decide +kernel
theorem dX1_deedByLot_0 : decode cX1_deedByLot 0 = .ok (.aload_n 0, 1) := by decide +kernel
theorem dX1_deedByLot_1 : decode cX1_deedByLot 1 = .ok (.getfield 33, 3) := by decide +kernel
theorem dX1_deedByLot_4 : decode cX1_deedByLot 4 = .ok (.getfield 122, 3) := by decide +kernel
theorem dX1_deedByLot_7 : decode cX1_deedByLot 7 = .ok (.ifCond .le 15, 3) := by decide +kernel
theorem dX1_deedByLot_10 : decode cX1_deedByLot 10 = .ok (.iload_n 1, 1) := by decide +kernel
theorem dX1_deedByLot_11 : decode cX1_deedByLot 11 = .ok (.aload_n 0, 1) := by decide +kernel
theorem dX1_deedByLot_12 : decode cX1_deedByLot 12 = .ok (.getfield 33, 3) := by decide +kernel
theorem dX1_deedByLot_15 : decode cX1_deedByLot 15 = .ok (.getfield 122, 3) := by decide +kernel
theorem dX1_deedByLot_18 : decode cX1_deedByLot 18 = .ok (.irem, 1) := by decide +kernel
theorem dX1_deedByLot_19 : decode cX1_deedByLot 19 = .ok (.goto 4, 3) := by decide +kernel
theorem dX1_deedByLot_22 : decode cX1_deedByLot 22 = .ok (.iconst 0, 1) := by decide +kernel
theorem dX1_deedByLot_23 : decode cX1_deedByLot 23 = .ok (.istore_n 2, 1) := by decide +kernel
theorem dX1_deedByLot_24 : decode cX1_deedByLot 24 = .ok (.iload_n 1, 1) := by decide +kernel
theorem dX1_deedByLot_25 : decode cX1_deedByLot 25 = .ok (.bipush 8, 2) := by decide +kernel
theorem dX1_deedByLot_27 : decode cX1_deedByLot 27 = .ok (.idiv, 1) := by decide +kernel
theorem dX1_deedByLot_28 : decode cX1_deedByLot 28 = .ok (.bipush 8, 2) := by decide +kernel
theorem dX1_deedByLot_30 : decode cX1_deedByLot 30 = .ok (.irem, 1) := by decide +kernel
theorem dX1_deedByLot_31 : decode cX1_deedByLot 31 = .ok (.istore_n 3, 1) := by decide +kernel
theorem dX1_deedByLot_32 : decode cX1_deedByLot 32 = .ok (.iload_n 1, 1) := by decide +kernel
theorem dX1_deedByLot_33 : decode cX1_deedByLot 33 = .ok (.bipush 64, 2) := by decide +kernel
theorem dX1_deedByLot_35 : decode cX1_deedByLot 35 = .ok (.idiv, 1) := by decide +kernel
theorem dX1_deedByLot_36 : decode cX1_deedByLot 36 = .ok (.istore 4, 2) := by decide +kernel
theorem dX1_deedByLot_38 : decode cX1_deedByLot 38 = .ok (.iload_n 3, 1) := by decide +kernel
theorem dX1_deedByLot_39 : decode cX1_deedByLot 39 = .ok (.iconst 1, 1) := by decide +kernel
theorem dX1_deedByLot_40 : decode cX1_deedByLot 40 = .ok (.if_icmp .gt 15, 3) := by decide +kernel
theorem dX1_deedByLot_43 : decode cX1_deedByLot 43 = .ok (.iconst 1, 1) := by decide +kernel
theorem dX1_deedByLot_44 : decode cX1_deedByLot 44 = .ok (.iload_n 2, 1) := by decide +kernel
theorem dX1_deedByLot_45 : decode cX1_deedByLot 45 = .ok (.iconst 1, 1) := by decide +kernel
theorem dX1_deedByLot_46 : decode cX1_deedByLot 46 = .ok (.iload 4, 2) := by decide +kernel
theorem dX1_deedByLot_48 : decode cX1_deedByLot 48 = .ok (.iconst 5, 1) := by decide +kernel
theorem dX1_deedByLot_49 : decode cX1_deedByLot 49 = .ok (.irem, 1) := by decide +kernel
theorem dX1_deedByLot_50 : decode cX1_deedByLot 50 = .ok (.iadd, 1) := by decide +kernel
theorem dX1_deedByLot_51 : decode cX1_deedByLot 51 = .ok (.invokestatic 148, 3) := by decide +kernel
theorem dX1_deedByLot_54 : decode cX1_deedByLot 54 = .ok (.ireturn, 1) := by decide +kernel
theorem dX1_deedByLot_55 : decode cX1_deedByLot 55 = .ok (.iload_n 3, 1) := by decide +kernel
theorem dX1_deedByLot_56 : decode cX1_deedByLot 56 = .ok (.iconst 2, 1) := by decide +kernel
theorem dX1_deedByLot_57 : decode cX1_deedByLot 57 = .ok (.if_icmp .ne 15, 3) := by decide +kernel
theorem dX1_deedByLot_60 : decode cX1_deedByLot 60 = .ok (.iconst 2, 1) := by decide +kernel
theorem dX1_deedByLot_61 : decode cX1_deedByLot 61 = .ok (.iload_n 2, 1) := by decide +kernel
theorem dX1_deedByLot_62 : decode cX1_deedByLot 62 = .ok (.iconst 1, 1) := by decide +kernel
theorem dX1_deedByLot_63 : decode cX1_deedByLot 63 = .ok (.iload 4, 2) := by decide +kernel
theorem dX1_deedByLot_65 : decode cX1_deedByLot 65 = .ok (.iconst 5, 1) := by decide +kernel
theorem dX1_deedByLot_66 : decode cX1_deedByLot 66 = .ok (.irem, 1) := by decide +kernel
theorem dX1_deedByLot_67 : decode cX1_deedByLot 67 = .ok (.iadd, 1) := by decide +kernel
theorem dX1_deedByLot_68 : decode cX1_deedByLot 68 = .ok (.invokestatic 148, 3) := by decide +kernel
theorem dX1_deedByLot_71 : decode cX1_deedByLot 71 = .ok (.ireturn, 1) := by decide +kernel
theorem dX1_deedByLot_72 : decode cX1_deedByLot 72 = .ok (.iload_n 3, 1) := by decide +kernel
theorem dX1_deedByLot_73 : decode cX1_deedByLot 73 = .ok (.iconst 3, 1) := by decide +kernel
theorem dX1_deedByLot_74 : decode cX1_deedByLot 74 = .ok (.if_icmp .ne 16, 3) := by decide +kernel
theorem dX1_deedByLot_77 : decode cX1_deedByLot 77 = .ok (.iconst 3, 1) := by decide +kernel
theorem dX1_deedByLot_78 : decode cX1_deedByLot 78 = .ok (.iload_n 2, 1) := by decide +kernel
theorem dX1_deedByLot_79 : decode cX1_deedByLot 79 = .ok (.iload 4, 2) := by decide +kernel
theorem dX1_deedByLot_81 : decode cX1_deedByLot 81 = .ok (.bipush 10, 2) := by decide +kernel
theorem dX1_deedByLot_83 : decode cX1_deedByLot 83 = .ok (.irem, 1) := by decide +kernel
theorem dX1_deedByLot_84 : decode cX1_deedByLot 84 = .ok (.invokestatic 148, 3) := by decide +kernel
theorem dX1_deedByLot_87 : decode cX1_deedByLot 87 = .ok (.goto 9, 3) := by decide +kernel
theorem dX1_deedByLot_90 : decode cX1_deedByLot 90 = .ok (.iconst 0, 1) := by decide +kernel
theorem dX1_deedByLot_91 : decode cX1_deedByLot 91 = .ok (.iconst 0, 1) := by decide +kernel
theorem dX1_deedByLot_92 : decode cX1_deedByLot 92 = .ok (.iconst 0, 1) := by decide +kernel
theorem dX1_deedByLot_93 : decode cX1_deedByLot 93 = .ok (.invokestatic 148, 3) := by decide +kernel
theorem dX1_deedByLot_96 : decode cX1_deedByLot 96 = .ok (.ireturn, 1) := by decide +kernel
theorem dX1_lots_0 : decode cX1_lots 0 = .ok (.iload_n 1, 1) := by decide +kernel
theorem dX1_lots_1 : decode cX1_lots 1 = .ok (.iconst 1, 1) := by decide +kernel
theorem dX1_lots_2 : decode cX1_lots 2 = .ok (.bipush 20, 2) := by decide +kernel
theorem dX1_lots_4 : decode cX1_lots 4 = .ok (.invokestatic 128, 3) := by decide +kernel
theorem dX1_lots_7 : decode cX1_lots 7 = .ok (.ifCond .eq 13, 3) := by decide +kernel
theorem dX1_lots_10 : decode cX1_lots 10 = .ok (.iload_n 2, 1) := by decide +kernel
theorem dX1_lots_11 : decode cX1_lots 11 = .ok (.iconst 1, 1) := by decide +kernel
theorem dX1_lots_12 : decode cX1_lots 12 = .ok (.ldc 226, 2) := by decide +kernel
theorem dX1_lots_14 : decode cX1_lots 14 = .ok (.invokestatic 128, 3) := by decide +kernel
theorem dX1_lots_17 : decode cX1_lots 17 = .ok (.ifCond .ne 5, 3) := by decide +kernel
theorem dX1_lots_20 : decode cX1_lots 20 = .ok (.iconst (-1), 1) := by decide +kernel
theorem dX1_lots_21 : decode cX1_lots 21 = .ok (.ireturn, 1) := by decide +kernel
theorem dX1_lots_22 : decode cX1_lots 22 = .ok (.aload_n 0, 1) := by decide +kernel
theorem dX1_lots_23 : decode cX1_lots 23 = .ok (.getfield 33, 3) := by decide +kernel
theorem dX1_lots_26 : decode cX1_lots 26 = .ok (.getfield 122, 3) := by decide +kernel
theorem dX1_lots_29 : decode cX1_lots 29 = .ok (.ifCond .ne 6, 3) := by decide +kernel
theorem dX1_lots_32 : decode cX1_lots 32 = .ok (.bipush (-4), 2) := by decide +kernel
theorem dX1_lots_34 : decode cX1_lots 34 = .ok (.ireturn, 1) := by decide +kernel
theorem dX1_lots_35 : decode cX1_lots 35 = .ok (.aload_n 0, 1) := by decide +kernel
theorem dX1_lots_36 : decode cX1_lots 36 = .ok (.getfield 42, 3) := by decide +kernel
theorem dX1_lots_39 : decode cX1_lots 39 = .ok (.iload_n 1, 1) := by decide +kernel
theorem dX1_lots_40 : decode cX1_lots 40 = .ok (.iadd, 1) := by decide +kernel
theorem dX1_lots_41 : decode cX1_lots 41 = .ok (.bipush 40, 2) := by decide +kernel
theorem dX1_lots_43 : decode cX1_lots 43 = .ok (.if_icmp .le 6, 3) := by decide +kernel
theorem dX1_lots_46 : decode cX1_lots 46 = .ok (.bipush (-2), 2) := by decide +kernel
theorem dX1_lots_48 : decode cX1_lots 48 = .ok (.ireturn, 1) := by decide +kernel
theorem dX1_lots_49 : decode cX1_lots 49 = .ok (.iload_n 2, 1) := by decide +kernel
theorem dX1_lots_50 : decode cX1_lots 50 = .ok (.i2l, 1) := by decide +kernel
theorem dX1_lots_51 : decode cX1_lots 51 = .ok (.lstore_n 3, 1) := by decide +kernel
theorem dX1_lots_52 : decode cX1_lots 52 = .ok (.iconst 0, 1) := by decide +kernel
theorem dX1_lots_53 : decode cX1_lots 53 = .ok (.istore 5, 2) := by decide +kernel
theorem dX1_lots_55 : decode cX1_lots 55 = .ok (.iload 5, 2) := by decide +kernel
theorem dX1_lots_57 : decode cX1_lots 57 = .ok (.iload_n 1, 1) := by decide +kernel
theorem dX1_lots_58 : decode cX1_lots 58 = .ok (.if_icmp .ge 29, 3) := by decide +kernel
theorem dX1_lots_61 : decode cX1_lots 61 = .ok (.lload_n 3, 1) := by decide +kernel
theorem dX1_lots_62 : decode cX1_lots 62 = .ok (.ldc2_w 227, 3) := by decide +kernel
theorem dX1_lots_65 : decode cX1_lots 65 = .ok (.lmul, 1) := by decide +kernel
theorem dX1_lots_66 : decode cX1_lots 66 = .ok (.ldc2_w 229, 3) := by decide +kernel
theorem dX1_lots_69 : decode cX1_lots 69 = .ok (.lrem, 1) := by decide +kernel
theorem dX1_lots_70 : decode cX1_lots 70 = .ok (.lstore_n 3, 1) := by decide +kernel
theorem dX1_lots_71 : decode cX1_lots 71 = .ok (.aload_n 0, 1) := by decide +kernel
theorem dX1_lots_72 : decode cX1_lots 72 = .ok (.aload_n 0, 1) := by decide +kernel
theorem dX1_lots_73 : decode cX1_lots 73 = .ok (.lload_n 3, 1) := by decide +kernel
theorem dX1_lots_74 : decode cX1_lots 74 = .ok (.l2i, 1) := by decide +kernel
theorem dX1_lots_75 : decode cX1_lots 75 = .ok (.invokevirtual 231, 3) := by decide +kernel
theorem dX1_lots_78 : decode cX1_lots 78 = .ok (.invokevirtual 152, 3) := by decide +kernel
theorem dX1_lots_81 : decode cX1_lots 81 = .ok (.iinc 5 1, 3) := by decide +kernel
theorem dX1_lots_84 : decode cX1_lots 84 = .ok (.goto (-29), 3) := by decide +kernel
theorem dX1_lots_87 : decode cX1_lots 87 = .ok (.aload_n 0, 1) := by decide +kernel
theorem dX1_lots_88 : decode cX1_lots 88 = .ok (.getfield 33, 3) := by decide +kernel
theorem dX1_lots_91 : decode cX1_lots 91 = .ok (.getfield 178, 3) := by decide +kernel
theorem dX1_lots_94 : decode cX1_lots 94 = .ok (.ireturn, 1) := by decide +kernel
theorem dX1_asked_0 : decode cX1_asked 0 = .ok (.aload_n 0, 1) := by decide +kernel
theorem dX1_asked_1 : decode cX1_asked 1 = .ok (.getfield 52, 3) := by decide +kernel
theorem dX1_asked_4 : decode cX1_asked 4 = .ok (.ireturn, 1) := by decide +kernel
theorem dX1_upper_0 : decode cX1_upper 0 = .ok (.aload_n 0, 1) := by decide +kernel
theorem dX1_upper_1 : decode cX1_upper 1 = .ok (.getfield 55, 3) := by decide +kernel
theorem dX1_upper_4 : decode cX1_upper 4 = .ok (.lreturn, 1) := by decide +kernel
theorem jl_X1_308 : Cond.methodLink RX1 308 Lib.Math.min.name ∈ gd_tbl := in_gd (i := 423) (by decide +kernel) rfl
theorem mt_X1_outcome : Cond.static yX1_outcome ∈ gd_tbl ∧ Cond.initialized yX1_outcome.cls ∈ gd_tbl ∧ Cond.code yX1_outcome cX1_outcome 10 (some .int) ∈ gd_tbl := ⟨in_gd (i := 421) (by decide +kernel) rfl, in_gd (i := 36) (by decide +kernel) rfl, in_gd (i := 422) (by decide +kernel) rfl⟩
theorem yo_X1_outcome : yOk yX1_outcome 4 := ⟨by decide, by decide, by decide +kernel⟩
theorem l_X1_213 : mlS RX1 213 yX1_outcome cX1_outcome 10 (some .int) := ⟨in_gd (i := 420) (by decide +kernel) rfl, mt_X1_outcome⟩
theorem fl_X1_71 : FLk RX1 71 1 17 := Or.inl (in_gd (i := 110) (by decide +kernel) rfl)
theorem mt_X1_weigh : (Cond.instanceMethod yX1_weigh ∈ gd_tbl ∧ Cond.selects yX1_weigh.cls yX1_weigh yX1_weigh ∈ gd_tbl) ∧ Cond.initialized yX1_weigh.cls ∈ gd_tbl ∧ Cond.code yX1_weigh cX1_weigh 5 (none) ∈ gd_tbl := ⟨⟨in_gd (i := 430) (by decide +kernel) rfl, in_gd (i := 28) (by decide +kernel) rfl⟩, in_gd (i := 36) (by decide +kernel) rfl, in_gd (i := 431) (by decide +kernel) rfl⟩
theorem yo_X1_weigh : yOk yX1_weigh 1 := ⟨by decide, by decide, by decide +kernel⟩
theorem l_X1_217 : mlV RX1 217 yX1_weigh cX1_weigh 5 (none) := ⟨in_gd (i := 428) (by decide +kernel) rfl, mt_X1_weigh⟩
theorem mt_X1_allWeight : (Cond.instanceMethod yX1_allWeight ∈ gd_tbl ∧ Cond.selects yX1_allWeight.cls yX1_allWeight yX1_allWeight ∈ gd_tbl) ∧ Cond.initialized yX1_allWeight.cls ∈ gd_tbl ∧ Cond.code yX1_allWeight cX1_allWeight 3 (some .int) ∈ gd_tbl := ⟨⟨in_gd (i := 434) (by decide +kernel) rfl, in_gd (i := 29) (by decide +kernel) rfl⟩, in_gd (i := 36) (by decide +kernel) rfl, in_gd (i := 435) (by decide +kernel) rfl⟩
theorem yo_X1_allWeight : yOk yX1_allWeight 0 := ⟨by decide, by decide, by decide +kernel⟩
theorem l_X1_220 : mlV RX1 220 yX1_allWeight cX1_allWeight 3 (some .int) := ⟨in_gd (i := 432) (by decide +kernel) rfl, mt_X1_allWeight⟩
theorem jl_X1_311 : Cond.methodLink RX1 311 Lib.Math.abs.name ∈ gd_tbl := in_gd (i := 447) (by decide +kernel) rfl
theorem mt_X1_weighedFar : (Cond.instanceMethod yX1_weighedFar ∈ gd_tbl ∧ Cond.selects yX1_weighedFar.cls yX1_weighedFar yX1_weighedFar ∈ gd_tbl) ∧ Cond.initialized yX1_weighedFar.cls ∈ gd_tbl ∧ Cond.code yX1_weighedFar cX1_weighedFar 4 (some .int) ∈ gd_tbl := ⟨⟨in_gd (i := 445) (by decide +kernel) rfl, in_gd (i := 30) (by decide +kernel) rfl⟩, in_gd (i := 36) (by decide +kernel) rfl, in_gd (i := 446) (by decide +kernel) rfl⟩
theorem yo_X1_weighedFar : yOk yX1_weighedFar 1 := ⟨by decide, by decide, by decide +kernel⟩
theorem l_X1_223 : mlV RX1 223 yX1_weighedFar cX1_weighedFar 4 (some .int) := ⟨in_gd (i := 443) (by decide +kernel) rfl, mt_X1_weighedFar⟩
theorem k_X1_226 : Cond.constant RX1 226 (Int32.ofInt 2147483646) ∈ gd_tbl := in_gd (i := 456) (by decide +kernel) rfl
theorem k_X1_227 : Cond.constantLong RX1 227 (Int64.ofInt 48271) ∈ gd_tbl := in_gd (i := 457) (by decide +kernel) rfl
theorem k_X1_229 : Cond.constantLong RX1 229 (Int64.ofInt 2147483647) ∈ gd_tbl := in_gd (i := 458) (by decide +kernel) rfl
theorem mt_X1_deedByLot : (Cond.instanceMethod yX1_deedByLot ∈ gd_tbl ∧ Cond.selects yX1_deedByLot.cls yX1_deedByLot yX1_deedByLot ∈ gd_tbl) ∧ Cond.initialized yX1_deedByLot.cls ∈ gd_tbl ∧ Cond.code yX1_deedByLot cX1_deedByLot 5 (some .int) ∈ gd_tbl := ⟨⟨in_gd (i := 461) (by decide +kernel) rfl, in_gd (i := 31) (by decide +kernel) rfl⟩, in_gd (i := 36) (by decide +kernel) rfl, in_gd (i := 462) (by decide +kernel) rfl⟩
theorem yo_X1_deedByLot : yOk yX1_deedByLot 1 := ⟨by decide, by decide, by decide +kernel⟩
theorem l_X1_231 : mlV RX1 231 yX1_deedByLot cX1_deedByLot 5 (some .int) := ⟨in_gd (i := 459) (by decide +kernel) rfl, mt_X1_deedByLot⟩
def fX1_outcome_L82 (K10 : Int → Mem → Option (Int × Mem)) (x3 : Int) (p1 : Nat) (x5 : Int) (self : Nat → Int → Int → Int → Mem → Option (Int × Mem)) (p2 : Int) (p3 : Int) (p4 : Int) (x1 : Int) : Nat → Int → Int → Mem → Option (Int × Mem)
  | 0, _, _, _ => none
  | n15 + 1, x12, x13, μ14 =>
    if 2 < x13 then
      K10 x12 μ14
    else
      grd (0 ≤ x3 ∧ x3 < 6) <|
      mlet (wr μ14 (p1 + 3) (x3).toNat (mmin 20 (w32 (x5 + x13)))) fun μ16 =>
      bnd2 (self p1 p2 p3 (w32 (p4 - 1)) μ16) fun x17 μ18 =>
      mlet (fun (x19 : Int) =>
        mlet (w32 (x13 + 1)) fun x21 =>
        fX1_outcome_L82 K10 x3 p1 x5 self p2 p3 p4 x1 n15 x19 x21 μ18
        ) fun (K20 : Int → Option (Int × Mem)) =>
      if x1 = 0 then
        K20 (mmin x12 x17)
      else
        K20 (mmax x12 x17)
def fX1_outcome_B (self : Nat → Int → Int → Int → Mem → Option (Int × Mem)) (p1 : Nat) (p2 : Int) (p3 : Int) (p4 : Int) (μ : Mem) : Option (Int × Mem) :=
  if 0 < p4 then
    mlet (fun (x1 : Int) =>
      mlet (fun (x3 : Int) =>
        grd (0 ≤ x3 ∧ x3 < 6) <|
        mlet ((μ (p1 + 3) (x3).toNat)) fun x5 =>
        mlet (fun (x6 : Int) =>
          mlet (fun (x8 : Int) (μ9 : Mem) =>
            grd (0 ≤ x3 ∧ x3 < 6) <|
            mlet (wr μ9 (p1 + 3) (x3).toNat x5) fun μ11 =>
            some (x8, μ11)
            ) fun (K10 : Int → Mem → Option (Int × Mem)) =>
          fX1_outcome_L82 K10 x3 p1 x5 self p2 p3 p4 x1 fuel x6 0 μ
          ) fun (K7 : Int → Option (Int × Mem)) =>
        if x1 = 0 then
          K7 1
        else
          K7 (-1)
        ) fun (K4 : Int → Option (Int × Mem)) =>
      if x1 = 0 then
        K4 p3
      else
        K4 p2
      ) fun (K2 : Int → Option (Int × Mem)) =>
    if ¬ (p4.tmod 2) = 0 then
      K2 0
    else
      K2 1
  else
    (fX0_holder p1 0 μ).bind fun x27 =>
    if ¬ x27 = p2 then
      if ¬ x27 = p3 then
        some (0, μ)
      else
        some ((-1), μ)
    else
      some (1, μ)
def fX1_outcome_N : Nat → Nat → Int → Int → Int → Mem → Option (Int × Mem)
  | 0 => fun _ _ _ _ _ => none
  | n + 1 => fX1_outcome_B (fX1_outcome_N n)
def fX1_outcome (p1 : Nat) (p2 : Int) (p3 : Int) (p4 : Int) (μ : Mem) : Option (Int × Mem) := fX1_outcome_N 8 p1 p2 p3 p4 μ
theorem K_X1_outcome_N {σ : Scr} : ∀ (n0 : Nat) (p1 : Nat) (p2 : Int) (p3 : Int) (p4 : Int) (hp1 : isBk p1) (μ : Mem), Con σ yX1_outcome cX1_outcome 10 (some .int) (n0 + 6) [.inr (.inr p1), .inl p2, .inl p3, .inl p4] μ (fX1_outcome_N n0 p1 p2 p3 p4 μ) wI
  | 0 => fun _ _ _ _ _ _ => fun _ h => by unfold fX1_outcome_N at h; cases h
  | n0 + 1 => fun p1 p2 p3 p4 hp1 μ => by
    have hself := K_X1_outcome_N (σ := σ) n0
    refine con_of (own := RX1) (by decide) rfl (Nat.le_of_ble_eq_true rfl) ?_
    show Sim σ cX1_outcome 10 RX1 (n0 + 1 + 6) (some .int) wI 0 [(0, .inr (.inr p1)), (1, .inl p2), (2, .inl p3), (3, .inl p4)] [] μ (fX1_outcome_B (fX1_outcome_N n0) p1 p2 p3 p4 μ)
    generalize fX1_outcome_N n0 = self at hself ⊢
    rw [show n0 + 1 + 6 = n0 + 7 from by omega]
    unfold fX1_outcome_B
    refine S_iload_n dX1_outcome_0 rfl ?_
    refine S_if_gt (tgt := 33) dX1_outcome_1 (by decide) (fun h30 => ?_) (fun h30 => ?_)
    · refine S_iload_n dX1_outcome_33 rfl ?_
      refine S_iconst dX1_outcome_34 rfl ?_
      refine S_iremK dX1_outcome_35 (by decide) ?_
      refine S_jn (fun (K2 : Int → Option (Int × Mem)) => ∀ (x1 : Int), Sim σ cX1_outcome 10 RX1 (n0 + 7) (some .int) wI 44 [(0, .inr (.inr p1)), (1, .inl p2), (2, .inl p3), (3, .inl p4)] [.inl x1] μ (K2 x1)) ?_ (fun K2 hK2 => ?_)
      · intro x1
        refine S_istore (lv' := [(4, .inl x1), (0, .inr (.inr p1)), (1, .inl p2), (2, .inl p3), (3, .inl p4)]) dX1_outcome_44 rfl rfl ?_
        refine S_iload dX1_outcome_46 rfl ?_
        refine S_jn (fun (K4 : Int → Option (Int × Mem)) => ∀ (x3 : Int), Sim σ cX1_outcome 10 RX1 (n0 + 7) (some .int) wI 56 [(0, .inr (.inr p1)), (1, .inl p2), (2, .inl p3), (3, .inl p4), (4, .inl x1)] [.inl x3] μ (K4 x3)) ?_ (fun K4 hK4 => ?_)
        · intro x3
          refine S_istore (lv' := [(5, .inl x3), (0, .inr (.inr p1)), (1, .inl p2), (2, .inl p3), (3, .inl p4), (4, .inl x1)]) dX1_outcome_56 rfl rfl ?_
          refine S_aload_n dX1_outcome_58 rfl ?_
          refine S_getR (c1 := (p1 + 3)) dX1_outcome_59 (kd_bk hp1) fl_X1_156 rfl rfl rfl ?_
          refine S_iload dX1_outcome_62 rfl ?_
          refine S_iald (N := 6) dX1_outcome_64 (kd_ba (k := 2) hp1 rfl (by decide)) (bk_lt (k := 3) hp1 (by decide)) rfl ?_
          refine S_let (fun x5 => ?_)
          refine S_istore (lv' := [(6, .inl x5), (5, .inl x3), (0, .inr (.inr p1)), (1, .inl p2), (2, .inl p3), (3, .inl p4), (4, .inl x1)]) dX1_outcome_65 rfl rfl ?_
          refine S_iload dX1_outcome_67 rfl ?_
          refine S_jn (fun (K7 : Int → Option (Int × Mem)) => ∀ (x6 : Int), Sim σ cX1_outcome 10 RX1 (n0 + 7) (some .int) wI 77 [(0, .inr (.inr p1)), (1, .inl p2), (2, .inl p3), (3, .inl p4), (4, .inl x1), (5, .inl x3), (6, .inl x5)] [.inl x6] μ (K7 x6)) ?_ (fun K7 hK7 => ?_)
          · intro x6
            refine S_istore (lv' := [(7, .inl x6), (0, .inr (.inr p1)), (1, .inl p2), (2, .inl p3), (3, .inl p4), (4, .inl x1), (5, .inl x3), (6, .inl x5)]) dX1_outcome_77 rfl rfl ?_
            refine S_iconst dX1_outcome_79 rfl ?_
            refine S_istore (lv' := [(8, .inl 0), (7, .inl x6), (0, .inr (.inr p1)), (1, .inl p2), (2, .inl p3), (3, .inl p4), (4, .inl x1), (5, .inl x3), (6, .inl x5)]) dX1_outcome_80 rfl rfl ?_
            refine S_jn (fun (K10 : Int → Mem → Option (Int × Mem)) => ∀ (x8 : Int) (μ9 : Mem), Sim σ cX1_outcome 10 RX1 (n0 + 7) (some .int) wI 146 [(0, .inr (.inr p1)), (5, .inl x3), (6, .inl x5), (7, .inl x8)] [] μ9 (K10 x8 μ9)) ?_ (fun K10 hK10 => ?_)
            · intro x8 μ9
              refine S_aload_n dX1_outcome_146 rfl ?_
              refine S_getR (c1 := (p1 + 3)) dX1_outcome_147 (kd_bk hp1) fl_X1_156 rfl rfl rfl ?_
              refine S_iload dX1_outcome_150 rfl ?_
              refine S_iload dX1_outcome_152 rfl ?_
              refine S_iast (N := 6) dX1_outcome_154 (kd_ba (k := 2) hp1 rfl (by decide)) (bk_lt (k := 3) hp1 (by decide)) rfl (fun μ11 => ?_)
              refine S_iload dX1_outcome_155 rfl ?_
              exact S_iret dX1_outcome_157 rfl rfl
            have hL82 : ∀ (n15 : Nat) (x12 : Int) (x13 : Int) (μ14 : Mem), Sim σ cX1_outcome 10 RX1 (n0 + 7) (some .int) wI 82 [(0, .inr (.inr p1)), (1, .inl p2), (2, .inl p3), (3, .inl p4), (4, .inl x1), (5, .inl x3), (6, .inl x5), (7, .inl x12), (8, .inl x13)] [] μ14 (fX1_outcome_L82 K10 x3 p1 x5 self p2 p3 p4 x1 n15 x12 x13 μ14) := by
              intro n15
              induction n15 with
              | zero =>
                intro x12 x13 μ14
                exact S_none rfl
              | succ n15 ih =>
                intro x12 x13 μ14
                rw [fX1_outcome_L82]
                refine S_iload dX1_outcome_82 rfl ?_
                refine S_iconst dX1_outcome_84 rfl ?_
                refine S_ic_gt (tgt := 146) dX1_outcome_85 (by decide) (fun h23 => ?_) (fun h23 => ?_)
                · exact S_sub [0, 5, 6, 7] rfl (hK10 x12 μ14)
                · refine S_aload_n dX1_outcome_88 rfl ?_
                  refine S_getR (c1 := (p1 + 3)) dX1_outcome_89 (kd_bk hp1) fl_X1_156 rfl rfl rfl ?_
                  refine S_iload dX1_outcome_92 rfl ?_
                  refine S_bipush dX1_outcome_94 rfl (by decide) ?_
                  refine S_iload dX1_outcome_96 rfl ?_
                  refine S_iload dX1_outcome_98 rfl ?_
                  refine S_iadd dX1_outcome_100 ?_
                  refine S_mmin dX1_outcome_101 jl_X1_308 jm_min jm_M jc_min ble1 rfl ?_
                  refine S_iast (N := 6) dX1_outcome_104 (kd_ba (k := 2) hp1 rfl (by decide)) (bk_lt (k := 3) hp1 (by decide)) rfl (fun μ16 => ?_)
                  refine S_aload_n dX1_outcome_105 rfl ?_
                  refine S_iload_n dX1_outcome_106 rfl ?_
                  refine S_iload_n dX1_outcome_107 rfl ?_
                  refine S_iload_n dX1_outcome_108 rfl ?_
                  refine S_iconst dX1_outcome_109 rfl ?_
                  refine S_isub dX1_outcome_110 ?_
                  refine S_callS_M2 dX1_outcome_111 [.inr (.inr p1), .inl p2, .inl p3, .inl (w32 (p4 - 1))] (hself p1 p2 p3 (w32 (p4 - 1)) hp1 μ16) l_X1_213 yo_X1_outcome (dOk_r rfl) rfl rfl (fun x17 μ18 => ?_)
                  refine S_istore (lv' := [(9, .inl x17), (0, .inr (.inr p1)), (1, .inl p2), (2, .inl p3), (3, .inl p4), (4, .inl x1), (5, .inl x3), (6, .inl x5), (7, .inl x12), (8, .inl x13)]) dX1_outcome_114 rfl rfl ?_
                  refine S_iload dX1_outcome_116 rfl ?_
                  refine S_jn (fun (K20 : Int → Option (Int × Mem)) => ∀ (x19 : Int), Sim σ cX1_outcome 10 RX1 (n0 + 7) (some .int) wI 138 [(0, .inr (.inr p1)), (1, .inl p2), (2, .inl p3), (3, .inl p4), (4, .inl x1), (5, .inl x3), (6, .inl x5), (8, .inl x13)] [.inl x19] μ18 (K20 x19)) ?_ (fun K20 hK20 => ?_)
                  · intro x19
                    refine S_istore (lv' := [(7, .inl x19), (0, .inr (.inr p1)), (1, .inl p2), (2, .inl p3), (3, .inl p4), (4, .inl x1), (5, .inl x3), (6, .inl x5), (8, .inl x13)]) dX1_outcome_138 rfl rfl ?_
                    refine S_iinc (lv' := fun x21 => [(8, .inl x21), (7, .inl x19), (0, .inr (.inr p1)), (1, .inl p2), (2, .inl p3), (3, .inl p4), (4, .inl x1), (5, .inl x3), (6, .inl x5)]) dX1_outcome_140 rfl rfl rfl (fun _ => rfl) (fun x21 => ?_)
                    refine S_goto (tgt := 82) dX1_outcome_143 (by decide) ?_
                    exact S_sub [2, 3, 4, 5, 6, 7, 8, 1, 0] rfl (ih x19 x21 μ18)
                  refine S_if_eq (tgt := 131) dX1_outcome_118 (by decide) (fun h22 => ?_) (fun h22 => ?_)
                  · refine S_iload dX1_outcome_131 rfl ?_
                    refine S_iload dX1_outcome_133 rfl ?_
                    refine S_mmin dX1_outcome_135 jl_X1_308 jm_min jm_M jc_min ble1 rfl ?_
                    exact S_sub [1, 2, 3, 4, 5, 6, 7, 9] rfl (hK20 (mmin x12 x17))
                  · refine S_iload dX1_outcome_121 rfl ?_
                    refine S_iload dX1_outcome_123 rfl ?_
                    refine S_mmax dX1_outcome_125 jl_X1_288 jm_max jm_M jc_max ble1 rfl ?_
                    refine S_goto (tgt := 138) dX1_outcome_128 (by decide) ?_
                    exact S_sub [1, 2, 3, 4, 5, 6, 7, 9] rfl (hK20 (mmax x12 x17))
            exact S_sub [2, 3, 4, 5, 6, 7, 8, 1, 0] rfl (hL82 fuel x6 0 μ)
          refine S_if_eq (tgt := 76) dX1_outcome_69 (by decide) (fun h24 => ?_) (fun h24 => ?_)
          · refine S_iconst dX1_outcome_76 rfl ?_
            exact S_sub [2, 3, 4, 5, 6, 1, 0] rfl (hK7 1)
          · refine S_iconst dX1_outcome_72 rfl ?_
            refine S_goto (tgt := 77) dX1_outcome_73 (by decide) ?_
            exact S_sub [2, 3, 4, 5, 6, 1, 0] rfl (hK7 (-1))
        refine S_if_eq (tgt := 55) dX1_outcome_48 (by decide) (fun h25 => ?_) (fun h25 => ?_)
        · refine S_iload_n dX1_outcome_55 rfl ?_
          exact S_sub [1, 2, 3, 4, 0] rfl (hK4 p3)
        · refine S_iload_n dX1_outcome_51 rfl ?_
          refine S_goto (tgt := 56) dX1_outcome_52 (by decide) ?_
          exact S_sub [1, 2, 3, 4, 0] rfl (hK4 p2)
      refine S_if_ne (tgt := 43) dX1_outcome_36 (by decide) (fun h26 => ?_) (fun h26 => ?_)
      · refine S_iconst dX1_outcome_43 rfl ?_
        exact S_sub [0, 1, 2, 3] rfl (hK2 0)
      · refine S_iconst dX1_outcome_39 rfl ?_
        refine S_goto (tgt := 44) dX1_outcome_40 (by decide) ?_
        exact S_sub [0, 1, 2, 3] rfl (hK2 1)
    · refine S_aload_n dX1_outcome_4 rfl ?_
      refine S_iconst dX1_outcome_5 rfl ?_
      refine S_callW_I dX1_outcome_6 [.inl 0] (K_X0_holder hp1 0 μ) l_X1_145 yo_X0_holder (kd_bk hp1) rfl (dOk_s rfl rfl) rfl rfl (fun x27 => ?_)
      refine S_istore (lv' := [(4, .inl x27), (0, .inr (.inr p1)), (1, .inl p2), (2, .inl p3), (3, .inl p4)]) dX1_outcome_9 rfl rfl ?_
      refine S_iload dX1_outcome_11 rfl ?_
      refine S_iload_n dX1_outcome_13 rfl ?_
      refine S_ic_ne (tgt := 21) dX1_outcome_14 (by decide) (fun h29 => ?_) (fun h29 => ?_)
      · refine S_iload dX1_outcome_21 rfl ?_
        refine S_iload_n dX1_outcome_23 rfl ?_
        refine S_ic_ne (tgt := 31) dX1_outcome_24 (by decide) (fun h28 => ?_) (fun h28 => ?_)
        · refine S_iconst dX1_outcome_31 rfl ?_
          exact S_iret dX1_outcome_32 rfl rfl
        · refine S_iconst dX1_outcome_27 rfl ?_
          refine S_goto (tgt := 32) dX1_outcome_28 (by decide) ?_
          exact S_iret dX1_outcome_32 rfl rfl
      · refine S_iconst dX1_outcome_17 rfl ?_
        refine S_goto (tgt := 32) dX1_outcome_18 (by decide) ?_
        exact S_iret dX1_outcome_32 rfl rfl
theorem K_X1_outcome {σ : Scr} {p1 : Nat} (hp1 : isBk p1) (p2 : Int) (p3 : Int) (p4 : Int) (μ : Mem) : Con σ yX1_outcome cX1_outcome 10 (some .int) (14) [.inr (.inr p1), .inl p2, .inl p3, .inl p4] μ (fX1_outcome p1 p2 p3 p4 μ) wI := K_X1_outcome_N 8 p1 p2 p3 p4 hp1 μ
def fX1_duel (p1 : Int) (p2 : Int) (p3 : Int) (μ : Mem) : Option (Int × Mem) :=
  (fX0_has 20 p1 μ).bind fun x1 =>
  if x1 = 0 then
    some ((-1), μ)
  else
    (fX0_has 20 p2 μ).bind fun x2 =>
    if x2 = 0 then
      some ((-1), μ)
    else
      if p1 = p2 then
        some ((-1), μ)
      else
        (fX1_isWithin p3 0 3 μ).bind fun x3 =>
        if ¬ x3 = 0 then
          (fX0_become 25 20 μ).bind fun μ4 =>
          bnd2 (fX1_outcome 25 p1 p2 (w32 (2 * p3)) μ4) fun x5 μ6 =>
          bnd2 (fX1_tell x5 μ6) fun x7 μ8 =>
          some (x7, μ8)
        else
          some ((-1), μ)
theorem K_X1_duel {σ : Scr}  (p1 : Int) (p2 : Int) (p3 : Int)  (μ : Mem) : Con σ yX1_duel cX1_duel 4 (some .int) 15 [.inr (.inr 0), .inl p1, .inl p2, .inl p3] μ (fX1_duel p1 p2 p3 μ) wI := by
  refine con_of (own := RX1) (by decide) rfl (Nat.le_of_ble_eq_true rfl) ?_
  show Sim σ cX1_duel 4 RX1 (15) (some .int) wI 0 [(0, .inr (.inr 0)), (1, .inl p1), (2, .inl p2), (3, .inl p3)] [] μ (fX1_duel p1 p2 p3 μ)
  unfold fX1_duel
  refine S_aload_n dX1_duel_0 rfl ?_
  refine S_getR (c1 := 20) dX1_duel_1 rfl fl_X1_33 rfl rfl rfl ?_
  refine S_iload_n dX1_duel_4 rfl ?_
  refine S_callW_I dX1_duel_5 [.inl p1] (K_X0_has (by unfold isBk; decide) p1 μ) l_X1_125 yo_X0_has rfl rfl rfl rfl rfl (fun x1 => ?_)
  refine S_if_eq (tgt := 36) dX1_duel_8 (by decide) (fun h12 => ?_) (fun h12 => ?_)
  · refine S_iconst dX1_duel_36 rfl ?_
    exact S_iret dX1_duel_37 rfl rfl
  · refine S_aload_n dX1_duel_11 rfl ?_
    refine S_getR (c1 := 20) dX1_duel_12 rfl fl_X1_33 rfl rfl rfl ?_
    refine S_iload_n dX1_duel_15 rfl ?_
    refine S_callW_I dX1_duel_16 [.inl p2] (K_X0_has (by unfold isBk; decide) p2 μ) l_X1_125 yo_X0_has rfl rfl rfl rfl rfl (fun x2 => ?_)
    refine S_if_eq (tgt := 36) dX1_duel_19 (by decide) (fun h11 => ?_) (fun h11 => ?_)
    · refine S_iconst dX1_duel_36 rfl ?_
      exact S_iret dX1_duel_37 rfl rfl
    · refine S_iload_n dX1_duel_22 rfl ?_
      refine S_iload_n dX1_duel_23 rfl ?_
      refine S_ic_eq (tgt := 36) dX1_duel_24 (by decide) (fun h10 => ?_) (fun h10 => ?_)
      · refine S_iconst dX1_duel_36 rfl ?_
        exact S_iret dX1_duel_37 rfl rfl
      · refine S_iload_n dX1_duel_27 rfl ?_
        refine S_iconst dX1_duel_28 rfl ?_
        refine S_iconst dX1_duel_29 rfl ?_
        refine S_callS_I dX1_duel_30 [.inl p3, .inl 0, .inl 3] (K_X1_isWithin p3 0 3 μ) l_X1_128 yo_X1_isWithin rfl rfl rfl (fun x3 => ?_)
        refine S_if_ne (tgt := 38) dX1_duel_33 (by decide) (fun h9 => ?_) (fun h9 => ?_)
        · refine S_aload_n dX1_duel_38 rfl ?_
          refine S_getR (c1 := 25) dX1_duel_39 rfl fl_X1_36 rfl rfl rfl ?_
          refine S_aload_n dX1_duel_42 rfl ?_
          refine S_getR (c1 := 20) dX1_duel_43 rfl fl_X1_33 rfl rfl rfl ?_
          refine S_callW_V dX1_duel_46 [.inr (.inr 20)] (K_X0_become (by unfold isBk; decide) (by unfold isBk; decide) μ) l_X1_118 yo_X0_become rfl rfl rfl rfl rfl (fun μ4 => ?_)
          refine S_aload_n dX1_duel_49 rfl ?_
          refine S_aload_n dX1_duel_50 rfl ?_
          refine S_getR (c1 := 25) dX1_duel_51 rfl fl_X1_36 rfl rfl rfl ?_
          refine S_iload_n dX1_duel_54 rfl ?_
          refine S_iload_n dX1_duel_55 rfl ?_
          refine S_iconst dX1_duel_56 rfl ?_
          refine S_iload_n dX1_duel_57 rfl ?_
          refine S_imul dX1_duel_58 ?_
          refine S_callS_M2 dX1_duel_59 [.inr (.inr 25), .inl p1, .inl p2, .inl (w32 (2 * p3))] (K_X1_outcome (by unfold isBk; decide) p1 p2 (w32 (2 * p3)) μ4) l_X1_213 yo_X1_outcome rfl rfl rfl (fun x5 μ6 => ?_)
          refine S_callV_M2 dX1_duel_62 [.inl x5] (K_X1_tell x5 μ6) l_X1_99 yo_X1_tell rfl rfl rfl rfl rfl (fun x7 μ8 => ?_)
          exact S_iret dX1_duel_65 rfl rfl
        · refine S_iconst dX1_duel_36 rfl ?_
          exact S_iret dX1_duel_37 rfl rfl
def fX1_allWeight_L4 (μ : Mem) : Nat → Int → Int → Option Int
  | 0, _, _ => none
  | n3 + 1, x1, x2 =>
    if (μ 20 4) ≤ x2 then
      some x1
    else
      mlet ((w32 (x1 * 12))) fun x4 =>
      mlet (w32 (x2 + 1)) fun x5 =>
      fX1_allWeight_L4 μ n3 x4 x5
def fX1_allWeight (μ : Mem) : Option Int :=
  fX1_allWeight_L4 μ fuel 1 0
theorem K_X1_allWeight {σ : Scr}    (μ : Mem) : Con σ yX1_allWeight cX1_allWeight 3 (some .int) 2 [.inr (.inr 0)] μ (fX1_allWeight  μ) (rI μ) := by
  refine con_of (own := RX1) (by decide) rfl (Nat.le_of_ble_eq_true rfl) ?_
  show Sim σ cX1_allWeight 3 RX1 (2) (some .int) (rI μ) 0 [(0, .inr (.inr 0))] [] μ (fX1_allWeight  μ)
  unfold fX1_allWeight
  refine S_iconst dX1_allWeight_0 rfl ?_
  refine S_istore_n (lv' := [(1, .inl 1), (0, .inr (.inr 0))]) dX1_allWeight_1 rfl rfl ?_
  refine S_iconst dX1_allWeight_2 rfl ?_
  refine S_istore_n (lv' := [(2, .inl 0), (1, .inl 1), (0, .inr (.inr 0))]) dX1_allWeight_3 rfl rfl ?_
  have hL4 : ∀ (n3 : Nat) (x1 : Int) (x2 : Int), Sim σ cX1_allWeight 3 RX1 (2) (some .int) (rI μ) 4 [(0, .inr (.inr 0)), (1, .inl x1), (2, .inl x2)] [] μ (fX1_allWeight_L4 μ n3 x1 x2) := by
    intro n3
    induction n3 with
    | zero =>
      intro x1 x2
      exact S_none rfl
    | succ n3 ih =>
      intro x1 x2
      rw [fX1_allWeight_L4]
      refine S_iload_n dX1_allWeight_4 rfl ?_
      refine S_aload_n dX1_allWeight_5 rfl ?_
      refine S_getR (c1 := 20) dX1_allWeight_6 rfl fl_X1_33 rfl rfl rfl ?_
      refine S_getI dX1_allWeight_9 rfl fl_X1_122 rfl rfl ?_
      refine S_ic_ge (tgt := 26) dX1_allWeight_12 (by decide) (fun h6 => ?_) (fun h6 => ?_)
      · refine S_iload_n dX1_allWeight_26 rfl ?_
        exact S_iret dX1_allWeight_27 rfl rfl
      · refine S_iload_n dX1_allWeight_15 rfl ?_
        refine S_bipush dX1_allWeight_16 rfl (by decide) ?_
        refine S_imul dX1_allWeight_18 ?_
        refine S_let (fun x4 => ?_)
        refine S_istore_n (lv' := [(1, .inl x4), (0, .inr (.inr 0)), (2, .inl x2)]) dX1_allWeight_19 rfl rfl ?_
        refine S_iinc (lv' := fun x5 => [(2, .inl x5), (1, .inl x4), (0, .inr (.inr 0))]) dX1_allWeight_20 rfl rfl rfl (fun _ => rfl) (fun x5 => ?_)
        refine S_goto (tgt := 4) dX1_allWeight_23 (by decide) ?_
        exact S_sub [2, 1, 0] rfl (ih x4 x5)
  exact S_sub [2, 1, 0] rfl (hL4 fuel 1 0)
def fX1_weigh_L28 (μ3 : Mem) (K6 : Int → Option Mem) (x2 : Int) (p1 : Int) : Nat → Int → Int → Option Mem
  | 0, _, _ => none
  | n13 + 1, x11, x12 =>
    if (μ3 20 4) ≤ x12 then
      K6 x11
    else
      mlet (fun (x14 : Int) =>
        mlet ((w32 (x11 * x14))) fun x16 =>
        mlet (w32 (x12 + 1)) fun x17 =>
        fX1_weigh_L28 μ3 K6 x2 p1 n13 x16 x17
        ) fun (K15 : Int → Option Mem) =>
      if (band (bshr x2 x12) 1) = 0 then
        K15 (w32 (12 - p1))
      else
        K15 p1
def fX1_weigh_L10 (p1 : Int) : Nat → Int → Mem → Option Mem
  | 0, _, _ => none
  | n4 + 1, x2, μ3 =>
    if (bshl 1 (μ3 20 4)) ≤ x2 then
      some μ3
    else
      mlet (fun (x5 : Int) =>
        (fX0_holder 20 x2 μ3).bind fun x7 =>
        (fX1_placeOf x7 μ3).bind fun x8 =>
        grd (0 ≤ x8 ∧ x8 < 7) <|
        grd (0 ≤ x8 ∧ x8 < 7) <|
        mlet (wr μ3 38 (x8).toNat (w32 ((μ3 38 (x8).toNat) + x5))) fun μ9 =>
        mlet (w32 (x2 + 1)) fun x10 =>
        fX1_weigh_L10 p1 n4 x10 μ9
        ) fun (K6 : Int → Option Mem) =>
      fX1_weigh_L28 μ3 K6 x2 p1 fuel 1 0
def fX1_weigh (p1 : Int) (μ : Mem) : Option Mem :=
  (some (filM μ 38 7 0)).bind fun μ1 =>
  fX1_weigh_L10 p1 fuel 0 μ1
theorem K_X1_weigh {σ : Scr}  (p1 : Int)  (μ : Mem) : Con σ yX1_weigh cX1_weigh 5 (none) 6 [.inr (.inr 0), .inl p1] μ (fX1_weigh p1 μ) wV := by
  refine con_of (own := RX1) (by decide) rfl (Nat.le_of_ble_eq_true rfl) ?_
  show Sim σ cX1_weigh 5 RX1 (6) (none) wV 0 [(0, .inr (.inr 0)), (1, .inl p1)] [] μ (fX1_weigh p1 μ)
  unfold fX1_weigh
  refine S_aload_n dX1_weigh_0 rfl ?_
  refine S_getR (c1 := 38) dX1_weigh_1 rfl fl_X1_71 rfl rfl rfl ?_
  refine S_iconst dX1_weigh_4 rfl ?_
  refine S_callS_V dX1_weigh_5 [.inr (.inr 38), .inl 0] (K_fillI rfl (by decide) (by decide) 0 μ) jl_X1_77 jy_fillI rfl rfl rfl (fun μ1 => ?_)
  refine S_iconst dX1_weigh_8 rfl ?_
  refine S_istore_n (lv' := [(2, .inl 0), (0, .inr (.inr 0)), (1, .inl p1)]) dX1_weigh_9 rfl rfl ?_
  have hL10 : ∀ (n4 : Nat) (x2 : Int) (μ3 : Mem), Sim σ cX1_weigh 5 RX1 (6) (none) wV 10 [(0, .inr (.inr 0)), (1, .inl p1), (2, .inl x2)] [] μ3 (fX1_weigh_L10 p1 n4 x2 μ3) := by
    intro n4
    induction n4 with
    | zero =>
      intro x2 μ3
      exact S_none rfl
    | succ n4 ih =>
      intro x2 μ3
      rw [fX1_weigh_L10]
      refine S_iload_n dX1_weigh_10 rfl ?_
      refine S_iconst dX1_weigh_11 rfl ?_
      refine S_aload_n dX1_weigh_12 rfl ?_
      refine S_getR (c1 := 20) dX1_weigh_13 rfl fl_X1_33 rfl rfl rfl ?_
      refine S_getI dX1_weigh_16 rfl fl_X1_122 rfl rfl ?_
      refine S_ishl dX1_weigh_19 ?_
      refine S_ic_ge (tgt := 92) dX1_weigh_20 (by decide) (fun h20 => ?_) (fun h20 => ?_)
      · exact S_vret dX1_weigh_92 rfl rfl
      · refine S_iconst dX1_weigh_23 rfl ?_
        refine S_istore_n (lv' := [(3, .inl 1), (0, .inr (.inr 0)), (1, .inl p1), (2, .inl x2)]) dX1_weigh_24 rfl rfl ?_
        refine S_iconst dX1_weigh_25 rfl ?_
        refine S_istore (lv' := [(4, .inl 0), (3, .inl 1), (0, .inr (.inr 0)), (1, .inl p1), (2, .inl x2)]) dX1_weigh_26 rfl rfl ?_
        refine S_jn (fun (K6 : Int → Option Mem) => ∀ (x5 : Int), Sim σ cX1_weigh 5 RX1 (6) (none) wV 66 [(0, .inr (.inr 0)), (1, .inl p1), (2, .inl x2), (3, .inl x5)] [] μ3 (K6 x5)) ?_ (fun K6 hK6 => ?_)
        · intro x5
          refine S_aload_n dX1_weigh_66 rfl ?_
          refine S_getR (c1 := 38) dX1_weigh_67 rfl fl_X1_71 rfl rfl rfl ?_
          refine S_aload_n dX1_weigh_70 rfl ?_
          refine S_getR (c1 := 20) dX1_weigh_71 rfl fl_X1_33 rfl rfl rfl ?_
          refine S_iload_n dX1_weigh_74 rfl ?_
          refine S_callW_I dX1_weigh_75 [.inl x2] (K_X0_holder (by unfold isBk; decide) x2 μ3) l_X1_145 yo_X0_holder rfl rfl rfl rfl rfl (fun x7 => ?_)
          refine S_callS_I dX1_weigh_78 [.inl x7] (K_X1_placeOf x7 μ3) l_X1_296 yo_X1_placeOf rfl rfl rfl (fun x8 => ?_)
          refine S_dup2 dX1_weigh_81 rfl rfl ?_
          refine S_iald (N := 7) dX1_weigh_82 rfl (by decide) rfl ?_
          refine S_iload_n dX1_weigh_83 rfl ?_
          refine S_iadd dX1_weigh_84 ?_
          refine S_iast (N := 7) dX1_weigh_85 rfl (by decide) rfl (fun μ9 => ?_)
          refine S_iinc (lv' := fun x10 => [(2, .inl x10), (0, .inr (.inr 0)), (1, .inl p1), (3, .inl x5)]) dX1_weigh_86 rfl rfl rfl (fun _ => rfl) (fun x10 => ?_)
          refine S_goto (tgt := 10) dX1_weigh_89 (by decide) ?_
          exact S_sub [1, 2, 0] rfl (ih x10 μ9)
        have hL28 : ∀ (n13 : Nat) (x11 : Int) (x12 : Int), Sim σ cX1_weigh 5 RX1 (6) (none) wV 28 [(0, .inr (.inr 0)), (1, .inl p1), (2, .inl x2), (3, .inl x11), (4, .inl x12)] [] μ3 (fX1_weigh_L28 μ3 K6 x2 p1 n13 x11 x12) := by
          intro n13
          induction n13 with
          | zero =>
            intro x11 x12
            exact S_none rfl
          | succ n13 ih =>
            intro x11 x12
            rw [fX1_weigh_L28]
            refine S_iload dX1_weigh_28 rfl ?_
            refine S_aload_n dX1_weigh_30 rfl ?_
            refine S_getR (c1 := 20) dX1_weigh_31 rfl fl_X1_33 rfl rfl rfl ?_
            refine S_getI dX1_weigh_34 rfl fl_X1_122 rfl rfl ?_
            refine S_ic_ge (tgt := 66) dX1_weigh_37 (by decide) (fun h19 => ?_) (fun h19 => ?_)
            · exact S_sub [0, 1, 2, 3] rfl (hK6 x11)
            · refine S_iload_n dX1_weigh_40 rfl ?_
              refine S_iload_n dX1_weigh_41 rfl ?_
              refine S_iload dX1_weigh_42 rfl ?_
              refine S_ishr dX1_weigh_44 ?_
              refine S_iconst dX1_weigh_45 rfl ?_
              refine S_iand dX1_weigh_46 ?_
              refine S_jn (fun (K15 : Int → Option Mem) => ∀ (x14 : Int), Sim σ cX1_weigh 5 RX1 (6) (none) wV 58 [(0, .inr (.inr 0)), (1, .inl p1), (2, .inl x2), (4, .inl x12)] [.inl x14, .inl x11] μ3 (K15 x14)) ?_ (fun K15 hK15 => ?_)
              · intro x14
                refine S_imul dX1_weigh_58 ?_
                refine S_let (fun x16 => ?_)
                refine S_istore_n (lv' := [(3, .inl x16), (0, .inr (.inr 0)), (1, .inl p1), (2, .inl x2), (4, .inl x12)]) dX1_weigh_59 rfl rfl ?_
                refine S_iinc (lv' := fun x17 => [(4, .inl x17), (3, .inl x16), (0, .inr (.inr 0)), (1, .inl p1), (2, .inl x2)]) dX1_weigh_60 rfl rfl rfl (fun _ => rfl) (fun x17 => ?_)
                refine S_goto (tgt := 28) dX1_weigh_63 (by decide) ?_
                exact S_sub [2, 3, 4, 1, 0] rfl (ih x16 x17)
              refine S_if_eq (tgt := 54) dX1_weigh_47 (by decide) (fun h18 => ?_) (fun h18 => ?_)
              · refine S_bipush dX1_weigh_54 rfl (by decide) ?_
                refine S_iload_n dX1_weigh_56 rfl ?_
                refine S_isub dX1_weigh_57 ?_
                exact S_sub [0, 1, 2, 4] rfl (hK15 (w32 (12 - p1)))
              · refine S_iload_n dX1_weigh_50 rfl ?_
                refine S_goto (tgt := 58) dX1_weigh_51 (by decide) ?_
                exact S_sub [0, 1, 2, 4] rfl (hK15 p1)
        exact S_sub [2, 3, 4, 1, 0] rfl (hL28 fuel 1 0)
  exact S_sub [1, 2, 0] rfl (hL10 fuel 0 μ1)
def fX1_odds (p1 : Int) (p2 : Int) (μ : Mem) : Option (Int × Mem) :=
  (fX0_has 20 p1 μ).bind fun x1 =>
  if x1 = 0 then
    some ((-1), μ)
  else
    (fX1_isWithin p2 0 12 μ).bind fun x2 =>
    if ¬ x2 = 0 then
      (fX1_weigh p2 μ).bind fun μ3 =>
      grd (0 ≤ p1 ∧ p1 < 7) <|
      (fX1_allWeight μ3).bind fun x4 =>
      (fX1_tellRatio (μ3 38 (p1).toNat) x4 μ3).bind fun μ5 =>
      some (1, μ5)
    else
      some ((-1), μ)
theorem K_X1_odds {σ : Scr}  (p1 : Int) (p2 : Int)  (μ : Mem) : Con σ yX1_odds cX1_odds 3 (some .int) 7 [.inr (.inr 0), .inl p1, .inl p2] μ (fX1_odds p1 p2 μ) wI := by
  refine con_of (own := RX1) (by decide) rfl (Nat.le_of_ble_eq_true rfl) ?_
  show Sim σ cX1_odds 3 RX1 (7) (some .int) wI 0 [(0, .inr (.inr 0)), (1, .inl p1), (2, .inl p2)] [] μ (fX1_odds p1 p2 μ)
  unfold fX1_odds
  refine S_aload_n dX1_odds_0 rfl ?_
  refine S_getR (c1 := 20) dX1_odds_1 rfl fl_X1_33 rfl rfl rfl ?_
  refine S_iload_n dX1_odds_4 rfl ?_
  refine S_callW_I dX1_odds_5 [.inl p1] (K_X0_has (by unfold isBk; decide) p1 μ) l_X1_125 yo_X0_has rfl rfl rfl rfl rfl (fun x1 => ?_)
  refine S_if_eq (tgt := 21) dX1_odds_8 (by decide) (fun h7 => ?_) (fun h7 => ?_)
  · refine S_iconst dX1_odds_21 rfl ?_
    exact S_iret dX1_odds_22 rfl rfl
  · refine S_iload_n dX1_odds_11 rfl ?_
    refine S_iconst dX1_odds_12 rfl ?_
    refine S_bipush dX1_odds_13 rfl (by decide) ?_
    refine S_callS_I dX1_odds_15 [.inl p2, .inl 0, .inl 12] (K_X1_isWithin p2 0 12 μ) l_X1_128 yo_X1_isWithin rfl rfl rfl (fun x2 => ?_)
    refine S_if_ne (tgt := 23) dX1_odds_18 (by decide) (fun h6 => ?_) (fun h6 => ?_)
    · refine S_aload_n dX1_odds_23 rfl ?_
      refine S_iload_n dX1_odds_24 rfl ?_
      refine S_callV_V dX1_odds_25 [.inl p2] (K_X1_weigh p2 μ) l_X1_217 yo_X1_weigh rfl rfl rfl rfl rfl (fun μ3 => ?_)
      refine S_aload_n dX1_odds_28 rfl ?_
      refine S_aload_n dX1_odds_29 rfl ?_
      refine S_getR (c1 := 38) dX1_odds_30 rfl fl_X1_71 rfl rfl rfl ?_
      refine S_iload_n dX1_odds_33 rfl ?_
      refine S_iald (N := 7) dX1_odds_34 rfl (by decide) rfl ?_
      refine S_i2l dX1_odds_35 ?_
      refine S_aload_n dX1_odds_36 rfl ?_
      refine S_callV_I dX1_odds_37 [] (K_X1_allWeight μ3) l_X1_220 yo_X1_allWeight rfl rfl rfl rfl rfl (fun x4 => ?_)
      refine S_i2l dX1_odds_40 ?_
      refine S_callV_V dX1_odds_41 [.inr (.inl (μ3 38 (p1).toNat)), .inr (.inl x4)] (K_X1_tellRatio (μ3 38 (p1).toNat) x4 μ3) l_X1_209 yo_X1_tellRatio rfl rfl rfl rfl rfl (fun μ5 => ?_)
      refine S_iconst dX1_odds_44 rfl ?_
      exact S_iret dX1_odds_45 rfl rfl
    · refine S_iconst dX1_odds_21 rfl ?_
      exact S_iret dX1_odds_22 rfl rfl
def fX1_weighedFar_L23 (μ : Mem) (p1 : Int) : Nat → Int → Int → Option Int
  | 0, _, _ => none
  | n4 + 1, x2, x3 =>
    if (μ 20 4) ≤ x3 then
      some x2
    else
      grd (0 ≤ x3 ∧ x3 < 7) <|
      grd (0 ≤ x3 ∧ x3 < 6) <|
      mlet ((w32 (x2 + (w32 ((μ 38 (x3).toNat) * (mabs (w32 ((μ 22 (x3).toNat) - p1)))))))) fun x5 =>
      mlet (w32 (x3 + 1)) fun x6 =>
      fX1_weighedFar_L23 μ p1 n4 x5 x6
def fX1_weighedFar (p1 : Int) (μ : Mem) : Option Int :=
  mlet ((w32 ((μ 38 6) * (mabs (w32 ((μ 20 5) - p1)))))) fun x1 =>
  fX1_weighedFar_L23 μ p1 fuel x1 0
theorem K_X1_weighedFar {σ : Scr}  (p1 : Int)  (μ : Mem) : Con σ yX1_weighedFar cX1_weighedFar 4 (some .int) 2 [.inr (.inr 0), .inl p1] μ (fX1_weighedFar p1 μ) (rI μ) := by
  refine con_of (own := RX1) (by decide) rfl (Nat.le_of_ble_eq_true rfl) ?_
  show Sim σ cX1_weighedFar 4 RX1 (2) (some .int) (rI μ) 0 [(0, .inr (.inr 0)), (1, .inl p1)] [] μ (fX1_weighedFar p1 μ)
  unfold fX1_weighedFar
  refine S_aload_n dX1_weighedFar_0 rfl ?_
  refine S_getR (c1 := 38) dX1_weighedFar_1 rfl fl_X1_71 rfl rfl rfl ?_
  refine S_bipush dX1_weighedFar_4 rfl (by decide) ?_
  refine S_ialdK (k := 6) dX1_weighedFar_6 rfl (by decide) (by decide) ?_
  refine S_aload_n dX1_weighedFar_7 rfl ?_
  refine S_getR (c1 := 20) dX1_weighedFar_8 rfl fl_X1_33 rfl rfl rfl ?_
  refine S_getI dX1_weighedFar_11 rfl fl_X1_178 rfl rfl ?_
  refine S_iload_n dX1_weighedFar_14 rfl ?_
  refine S_isub dX1_weighedFar_15 ?_
  refine S_mabs dX1_weighedFar_16 jl_X1_311 jm_abs jm_M jc_abs rfl rfl ?_
  refine S_imul dX1_weighedFar_19 ?_
  refine S_let (fun x1 => ?_)
  refine S_istore_n (lv' := [(2, .inl x1), (0, .inr (.inr 0)), (1, .inl p1)]) dX1_weighedFar_20 rfl rfl ?_
  refine S_iconst dX1_weighedFar_21 rfl ?_
  refine S_istore_n (lv' := [(3, .inl 0), (2, .inl x1), (0, .inr (.inr 0)), (1, .inl p1)]) dX1_weighedFar_22 rfl rfl ?_
  have hL23 : ∀ (n4 : Nat) (x2 : Int) (x3 : Int), Sim σ cX1_weighedFar 4 RX1 (2) (some .int) (rI μ) 23 [(0, .inr (.inr 0)), (1, .inl p1), (2, .inl x2), (3, .inl x3)] [] μ (fX1_weighedFar_L23 μ p1 n4 x2 x3) := by
    intro n4
    induction n4 with
    | zero =>
      intro x2 x3
      exact S_none rfl
    | succ n4 ih =>
      intro x2 x3
      rw [fX1_weighedFar_L23]
      refine S_iload_n dX1_weighedFar_23 rfl ?_
      refine S_aload_n dX1_weighedFar_24 rfl ?_
      refine S_getR (c1 := 20) dX1_weighedFar_25 rfl fl_X1_33 rfl rfl rfl ?_
      refine S_getI dX1_weighedFar_28 rfl fl_X1_122 rfl rfl ?_
      refine S_ic_ge (tgt := 64) dX1_weighedFar_31 (by decide) (fun h7 => ?_) (fun h7 => ?_)
      · refine S_iload_n dX1_weighedFar_64 rfl ?_
        exact S_iret dX1_weighedFar_65 rfl rfl
      · refine S_iload_n dX1_weighedFar_34 rfl ?_
        refine S_aload_n dX1_weighedFar_35 rfl ?_
        refine S_getR (c1 := 38) dX1_weighedFar_36 rfl fl_X1_71 rfl rfl rfl ?_
        refine S_iload_n dX1_weighedFar_39 rfl ?_
        refine S_iald (N := 7) dX1_weighedFar_40 rfl (by decide) rfl ?_
        refine S_aload_n dX1_weighedFar_41 rfl ?_
        refine S_getR (c1 := 20) dX1_weighedFar_42 rfl fl_X1_33 rfl rfl rfl ?_
        refine S_getR (c1 := 22) dX1_weighedFar_45 rfl fl_X1_162 rfl rfl rfl ?_
        refine S_iload_n dX1_weighedFar_48 rfl ?_
        refine S_iald (N := 6) dX1_weighedFar_49 rfl (by decide) rfl ?_
        refine S_iload_n dX1_weighedFar_50 rfl ?_
        refine S_isub dX1_weighedFar_51 ?_
        refine S_mabs dX1_weighedFar_52 jl_X1_311 jm_abs jm_M jc_abs rfl rfl ?_
        refine S_imul dX1_weighedFar_55 ?_
        refine S_iadd dX1_weighedFar_56 ?_
        refine S_let (fun x5 => ?_)
        refine S_istore_n (lv' := [(2, .inl x5), (0, .inr (.inr 0)), (1, .inl p1), (3, .inl x3)]) dX1_weighedFar_57 rfl rfl ?_
        refine S_iinc (lv' := fun x6 => [(3, .inl x6), (2, .inl x5), (0, .inr (.inr 0)), (1, .inl p1)]) dX1_weighedFar_58 rfl rfl rfl (fun _ => rfl) (fun x6 => ?_)
        refine S_goto (tgt := 23) dX1_weighedFar_61 (by decide) ?_
        exact S_sub [2, 3, 1, 0] rfl (ih x5 x6)
  exact S_sub [2, 3, 1, 0] rfl (hL23 fuel x1 0)
def fX1_mid (p1 : Int) (p2 : Int) (μ : Mem) : Option (Int × Mem) :=
  (fX1_isPlace p1 μ).bind fun x1 =>
  if x1 = 0 then
    some ((-1), μ)
  else
    (fX1_isWithin p2 0 12 μ).bind fun x2 =>
    if ¬ x2 = 0 then
      if ¬ (μ 20 4) = 0 then
        (fX1_weigh p2 μ).bind fun μ3 =>
        (fX1_weighedFar p1 μ3).bind fun x4 =>
        (fX1_allWeight μ3).bind fun x5 =>
        (fX1_tellRatio x4 x5 μ3).bind fun μ6 =>
        some (1, μ6)
      else
        some ((-4), μ)
    else
      some ((-1), μ)
theorem K_X1_mid {σ : Scr}  (p1 : Int) (p2 : Int)  (μ : Mem) : Con σ yX1_mid cX1_mid 3 (some .int) 7 [.inr (.inr 0), .inl p1, .inl p2] μ (fX1_mid p1 p2 μ) wI := by
  refine con_of (own := RX1) (by decide) rfl (Nat.le_of_ble_eq_true rfl) ?_
  show Sim σ cX1_mid 3 RX1 (7) (some .int) wI 0 [(0, .inr (.inr 0)), (1, .inl p1), (2, .inl p2)] [] μ (fX1_mid p1 p2 μ)
  unfold fX1_mid
  refine S_iload_n dX1_mid_0 rfl ?_
  refine S_callS_I dX1_mid_1 [.inl p1] (K_X1_isPlace p1 μ) l_X1_159 yo_X1_isPlace rfl rfl rfl (fun x1 => ?_)
  refine S_if_eq (tgt := 17) dX1_mid_4 (by decide) (fun h9 => ?_) (fun h9 => ?_)
  · refine S_iconst dX1_mid_17 rfl ?_
    exact S_iret dX1_mid_18 rfl rfl
  · refine S_iload_n dX1_mid_7 rfl ?_
    refine S_iconst dX1_mid_8 rfl ?_
    refine S_bipush dX1_mid_9 rfl (by decide) ?_
    refine S_callS_I dX1_mid_11 [.inl p2, .inl 0, .inl 12] (K_X1_isWithin p2 0 12 μ) l_X1_128 yo_X1_isWithin rfl rfl rfl (fun x2 => ?_)
    refine S_if_ne (tgt := 19) dX1_mid_14 (by decide) (fun h8 => ?_) (fun h8 => ?_)
    · refine S_aload_n dX1_mid_19 rfl ?_
      refine S_getR (c1 := 20) dX1_mid_20 rfl fl_X1_33 rfl rfl rfl ?_
      refine S_getI dX1_mid_23 rfl fl_X1_122 rfl rfl ?_
      refine S_if_ne (tgt := 32) dX1_mid_26 (by decide) (fun h7 => ?_) (fun h7 => ?_)
      · refine S_aload_n dX1_mid_32 rfl ?_
        refine S_iload_n dX1_mid_33 rfl ?_
        refine S_callV_V dX1_mid_34 [.inl p2] (K_X1_weigh p2 μ) l_X1_217 yo_X1_weigh rfl rfl rfl rfl rfl (fun μ3 => ?_)
        refine S_aload_n dX1_mid_37 rfl ?_
        refine S_aload_n dX1_mid_38 rfl ?_
        refine S_iload_n dX1_mid_39 rfl ?_
        refine S_callV_I dX1_mid_40 [.inl p1] (K_X1_weighedFar p1 μ3) l_X1_223 yo_X1_weighedFar rfl rfl rfl rfl rfl (fun x4 => ?_)
        refine S_i2l dX1_mid_43 ?_
        refine S_aload_n dX1_mid_44 rfl ?_
        refine S_callV_I dX1_mid_45 [] (K_X1_allWeight μ3) l_X1_220 yo_X1_allWeight rfl rfl rfl rfl rfl (fun x5 => ?_)
        refine S_i2l dX1_mid_48 ?_
        refine S_callV_V dX1_mid_49 [.inr (.inl x4), .inr (.inl x5)] (K_X1_tellRatio x4 x5 μ3) l_X1_209 yo_X1_tellRatio rfl rfl rfl rfl rfl (fun μ6 => ?_)
        refine S_iconst dX1_mid_52 rfl ?_
        exact S_iret dX1_mid_53 rfl rfl
      · refine S_bipush dX1_mid_29 rfl (by decide) ?_
        exact S_iret dX1_mid_31 rfl rfl
    · refine S_iconst dX1_mid_17 rfl ?_
      exact S_iret dX1_mid_18 rfl rfl
def fX1_fair_L34 (K4 : Int → Option (Int × Mem)) (μ2 : Mem) : Nat → Int → Int → Option (Int × Mem)
  | 0, _, _ => none
  | n10 + 1, x8, x9 =>
    if 9 < x9 then
      K4 x8
    else
      (fX1_weighedFar x9 μ2).bind fun x11 =>
      (fX1_weighedFar x8 μ2).bind fun x12 =>
      mlet (fun (x13 : Int) =>
        mlet (w32 (x9 + 1)) fun x15 =>
        fX1_fair_L34 K4 μ2 n10 x13 x15
        ) fun (K14 : Int → Option (Int × Mem)) =>
      if x12 ≤ x11 then
        K14 x8
      else
        K14 x9
def fX1_fair (p1 : Int) (μ : Mem) : Option (Int × Mem) :=
  (fX1_isWithin p1 0 12 μ).bind fun x1 =>
  if ¬ x1 = 0 then
    if ¬ (μ 20 4) = 0 then
      (fX1_weigh p1 μ).bind fun μ2 =>
      mlet (fun (x3 : Int) =>
        (fX1_weighedFar x3 μ2).bind fun x5 =>
        (fX1_allWeight μ2).bind fun x6 =>
        (fX1_tellRatio x5 x6 μ2).bind fun μ7 =>
        some (x3, μ7)
        ) fun (K4 : Int → Option (Int × Mem)) =>
      fX1_fair_L34 K4 μ2 fuel 0 1
    else
      some ((-4), μ)
  else
    some ((-1), μ)
theorem K_X1_fair {σ : Scr}  (p1 : Int)  (μ : Mem) : Con σ yX1_fair cX1_fair 4 (some .int) 7 [.inr (.inr 0), .inl p1] μ (fX1_fair p1 μ) wI := by
  refine con_of (own := RX1) (by decide) rfl (Nat.le_of_ble_eq_true rfl) ?_
  show Sim σ cX1_fair 4 RX1 (7) (some .int) wI 0 [(0, .inr (.inr 0)), (1, .inl p1)] [] μ (fX1_fair p1 μ)
  unfold fX1_fair
  refine S_iload_n dX1_fair_0 rfl ?_
  refine S_iconst dX1_fair_1 rfl ?_
  refine S_bipush dX1_fair_2 rfl (by decide) ?_
  refine S_callS_I dX1_fair_4 [.inl p1, .inl 0, .inl 12] (K_X1_isWithin p1 0 12 μ) l_X1_128 yo_X1_isWithin rfl rfl rfl (fun x1 => ?_)
  refine S_if_ne (tgt := 12) dX1_fair_7 (by decide) (fun h19 => ?_) (fun h19 => ?_)
  · refine S_aload_n dX1_fair_12 rfl ?_
    refine S_getR (c1 := 20) dX1_fair_13 rfl fl_X1_33 rfl rfl rfl ?_
    refine S_getI dX1_fair_16 rfl fl_X1_122 rfl rfl ?_
    refine S_if_ne (tgt := 25) dX1_fair_19 (by decide) (fun h18 => ?_) (fun h18 => ?_)
    · refine S_aload_n dX1_fair_25 rfl ?_
      refine S_iload_n dX1_fair_26 rfl ?_
      refine S_callV_V dX1_fair_27 [.inl p1] (K_X1_weigh p1 μ) l_X1_217 yo_X1_weigh rfl rfl rfl rfl rfl (fun μ2 => ?_)
      refine S_iconst dX1_fair_30 rfl ?_
      refine S_istore_n (lv' := [(2, .inl 0), (0, .inr (.inr 0)), (1, .inl p1)]) dX1_fair_31 rfl rfl ?_
      refine S_iconst dX1_fair_32 rfl ?_
      refine S_istore_n (lv' := [(3, .inl 1), (2, .inl 0), (0, .inr (.inr 0)), (1, .inl p1)]) dX1_fair_33 rfl rfl ?_
      refine S_jn (fun (K4 : Int → Option (Int × Mem)) => ∀ (x3 : Int), Sim σ cX1_fair 4 RX1 (7) (some .int) wI 61 [(0, .inr (.inr 0)), (2, .inl x3)] [] μ2 (K4 x3)) ?_ (fun K4 hK4 => ?_)
      · intro x3
        refine S_aload_n dX1_fair_61 rfl ?_
        refine S_aload_n dX1_fair_62 rfl ?_
        refine S_iload_n dX1_fair_63 rfl ?_
        refine S_callV_I dX1_fair_64 [.inl x3] (K_X1_weighedFar x3 μ2) l_X1_223 yo_X1_weighedFar rfl rfl rfl rfl rfl (fun x5 => ?_)
        refine S_i2l dX1_fair_67 ?_
        refine S_aload_n dX1_fair_68 rfl ?_
        refine S_callV_I dX1_fair_69 [] (K_X1_allWeight μ2) l_X1_220 yo_X1_allWeight rfl rfl rfl rfl rfl (fun x6 => ?_)
        refine S_i2l dX1_fair_72 ?_
        refine S_callV_V dX1_fair_73 [.inr (.inl x5), .inr (.inl x6)] (K_X1_tellRatio x5 x6 μ2) l_X1_209 yo_X1_tellRatio rfl rfl rfl rfl rfl (fun μ7 => ?_)
        refine S_iload_n dX1_fair_76 rfl ?_
        exact S_iret dX1_fair_77 rfl rfl
      have hL34 : ∀ (n10 : Nat) (x8 : Int) (x9 : Int), Sim σ cX1_fair 4 RX1 (7) (some .int) wI 34 [(0, .inr (.inr 0)), (2, .inl x8), (3, .inl x9)] [] μ2 (fX1_fair_L34 K4 μ2 n10 x8 x9) := by
        intro n10
        induction n10 with
        | zero =>
          intro x8 x9
          exact S_none rfl
        | succ n10 ih =>
          intro x8 x9
          rw [fX1_fair_L34]
          refine S_iload_n dX1_fair_34 rfl ?_
          refine S_bipush dX1_fair_35 rfl (by decide) ?_
          refine S_ic_gt (tgt := 61) dX1_fair_37 (by decide) (fun h17 => ?_) (fun h17 => ?_)
          · exact S_sub [0, 1] rfl (hK4 x8)
          · refine S_aload_n dX1_fair_40 rfl ?_
            refine S_iload_n dX1_fair_41 rfl ?_
            refine S_callV_I dX1_fair_42 [.inl x9] (K_X1_weighedFar x9 μ2) l_X1_223 yo_X1_weighedFar rfl rfl rfl rfl rfl (fun x11 => ?_)
            refine S_aload_n dX1_fair_45 rfl ?_
            refine S_iload_n dX1_fair_46 rfl ?_
            refine S_callV_I dX1_fair_47 [.inl x8] (K_X1_weighedFar x8 μ2) l_X1_223 yo_X1_weighedFar rfl rfl rfl rfl rfl (fun x12 => ?_)
            refine S_jn (fun (K14 : Int → Option (Int × Mem)) => ∀ (x13 : Int), Sim σ cX1_fair 4 RX1 (7) (some .int) wI 55 [(0, .inr (.inr 0)), (2, .inl x13), (3, .inl x9)] [] μ2 (K14 x13)) ?_ (fun K14 hK14 => ?_)
            · intro x13
              refine S_iinc (lv' := fun x15 => [(3, .inl x15), (0, .inr (.inr 0)), (2, .inl x13)]) dX1_fair_55 rfl rfl rfl (fun _ => rfl) (fun x15 => ?_)
              refine S_goto (tgt := 34) dX1_fair_58 (by decide) ?_
              exact S_sub [1, 2, 0] rfl (ih x13 x15)
            refine S_ic_ge (tgt := 55) dX1_fair_50 (by decide) (fun h16 => ?_) (fun h16 => ?_)
            · exact S_sub [0, 1, 2] rfl (hK14 x8)
            · refine S_iload_n dX1_fair_53 rfl ?_
              refine S_istore_n (lv' := [(2, .inl x9), (0, .inr (.inr 0)), (3, .inl x9)]) dX1_fair_54 rfl rfl ?_
              exact S_sub [1, 0, 2] rfl (hK14 x9)
      exact S_sub [2, 1, 0] rfl (hL34 fuel 0 1)
    · refine S_bipush dX1_fair_22 rfl (by decide) ?_
      exact S_iret dX1_fair_24 rfl rfl
  · refine S_iconst dX1_fair_10 rfl ?_
    exact S_iret dX1_fair_11 rfl rfl
def fX1_deedByLot (p1 : Int) (μ : Mem) : Option Int :=
  mlet (fun (x1 : Int) =>
    mlet (((w32 (p1.tdiv 8)).tmod 8)) fun x3 =>
    mlet ((w32 (p1.tdiv 64))) fun x4 =>
    if 1 < x3 then
      if ¬ x3 = 2 then
        if ¬ x3 = 3 then
          (fX1_deedOf 0 0 0 μ).bind fun x5 =>
          some x5
        else
          (fX1_deedOf 3 x1 (x4.tmod 10) μ).bind fun x6 =>
          some x6
      else
        (fX1_deedOf 2 x1 (w32 (1 + (x4.tmod 5))) μ).bind fun x8 =>
        some x8
    else
      (fX1_deedOf 1 x1 (w32 (1 + (x4.tmod 5))) μ).bind fun x10 =>
      some x10
    ) fun (K2 : Int → Option Int) =>
  if (μ 20 4) ≤ 0 then
    K2 0
  else
    grd (¬ (μ 20 4) = 0) <|
    K2 (p1.tmod (μ 20 4))
theorem K_X1_deedByLot {σ : Scr}  (p1 : Int)  (μ : Mem) : Con σ yX1_deedByLot cX1_deedByLot 5 (some .int) 3 [.inr (.inr 0), .inl p1] μ (fX1_deedByLot p1 μ) (rI μ) := by
  refine con_of (own := RX1) (by decide) rfl (Nat.le_of_ble_eq_true rfl) ?_
  show Sim σ cX1_deedByLot 5 RX1 (3) (some .int) (rI μ) 0 [(0, .inr (.inr 0)), (1, .inl p1)] [] μ (fX1_deedByLot p1 μ)
  unfold fX1_deedByLot
  refine S_aload_n dX1_deedByLot_0 rfl ?_
  refine S_getR (c1 := 20) dX1_deedByLot_1 rfl fl_X1_33 rfl rfl rfl ?_
  refine S_getI dX1_deedByLot_4 rfl fl_X1_122 rfl rfl ?_
  refine S_jn (fun (K2 : Int → Option Int) => ∀ (x1 : Int), Sim σ cX1_deedByLot 5 RX1 (3) (some .int) (rI μ) 23 [(1, .inl p1)] [.inl x1] μ (K2 x1)) ?_ (fun K2 hK2 => ?_)
  · intro x1
    refine S_istore_n (lv' := [(2, .inl x1), (1, .inl p1)]) dX1_deedByLot_23 rfl rfl ?_
    refine S_iload_n dX1_deedByLot_24 rfl ?_
    refine S_bipush dX1_deedByLot_25 rfl (by decide) ?_
    refine S_idivK dX1_deedByLot_27 (by decide) ?_
    refine S_bipush dX1_deedByLot_28 rfl (by decide) ?_
    refine S_iremK dX1_deedByLot_30 (by decide) ?_
    refine S_let (fun x3 => ?_)
    refine S_istore_n (lv' := [(3, .inl x3), (2, .inl x1), (1, .inl p1)]) dX1_deedByLot_31 rfl rfl ?_
    refine S_iload_n dX1_deedByLot_32 rfl ?_
    refine S_bipush dX1_deedByLot_33 rfl (by decide) ?_
    refine S_idivK dX1_deedByLot_35 (by decide) ?_
    refine S_let (fun x4 => ?_)
    refine S_istore (lv' := [(4, .inl x4), (3, .inl x3), (2, .inl x1), (1, .inl p1)]) dX1_deedByLot_36 rfl rfl ?_
    refine S_iload_n dX1_deedByLot_38 rfl ?_
    refine S_iconst dX1_deedByLot_39 rfl ?_
    refine S_ic_gt (tgt := 55) dX1_deedByLot_40 (by decide) (fun h11 => ?_) (fun h11 => ?_)
    · refine S_iload_n dX1_deedByLot_55 rfl ?_
      refine S_iconst dX1_deedByLot_56 rfl ?_
      refine S_ic_ne (tgt := 72) dX1_deedByLot_57 (by decide) (fun h9 => ?_) (fun h9 => ?_)
      · refine S_iload_n dX1_deedByLot_72 rfl ?_
        refine S_iconst dX1_deedByLot_73 rfl ?_
        refine S_ic_ne (tgt := 90) dX1_deedByLot_74 (by decide) (fun h7 => ?_) (fun h7 => ?_)
        · refine S_iconst dX1_deedByLot_90 rfl ?_
          refine S_iconst dX1_deedByLot_91 rfl ?_
          refine S_iconst dX1_deedByLot_92 rfl ?_
          refine S_callS_I dX1_deedByLot_93 [.inl 0, .inl 0, .inl 0] (K_X1_deedOf 0 0 0 μ) l_X1_148 yo_X1_deedOf rfl rfl rfl (fun x5 => ?_)
          exact S_iret dX1_deedByLot_96 rfl rfl
        · refine S_iconst dX1_deedByLot_77 rfl ?_
          refine S_iload_n dX1_deedByLot_78 rfl ?_
          refine S_iload dX1_deedByLot_79 rfl ?_
          refine S_bipush dX1_deedByLot_81 rfl (by decide) ?_
          refine S_iremK dX1_deedByLot_83 (by decide) ?_
          refine S_callS_I dX1_deedByLot_84 [.inl 3, .inl x1, .inl (x4.tmod 10)] (K_X1_deedOf 3 x1 (x4.tmod 10) μ) l_X1_148 yo_X1_deedOf rfl rfl rfl (fun x6 => ?_)
          refine S_goto (tgt := 96) dX1_deedByLot_87 (by decide) ?_
          exact S_iret dX1_deedByLot_96 rfl rfl
      · refine S_iconst dX1_deedByLot_60 rfl ?_
        refine S_iload_n dX1_deedByLot_61 rfl ?_
        refine S_iconst dX1_deedByLot_62 rfl ?_
        refine S_iload dX1_deedByLot_63 rfl ?_
        refine S_iconst dX1_deedByLot_65 rfl ?_
        refine S_iremK dX1_deedByLot_66 (by decide) ?_
        refine S_iadd dX1_deedByLot_67 ?_
        refine S_callS_I dX1_deedByLot_68 [.inl 2, .inl x1, .inl (w32 (1 + (x4.tmod 5)))] (K_X1_deedOf 2 x1 (w32 (1 + (x4.tmod 5))) μ) l_X1_148 yo_X1_deedOf rfl rfl rfl (fun x8 => ?_)
        exact S_iret dX1_deedByLot_71 rfl rfl
    · refine S_iconst dX1_deedByLot_43 rfl ?_
      refine S_iload_n dX1_deedByLot_44 rfl ?_
      refine S_iconst dX1_deedByLot_45 rfl ?_
      refine S_iload dX1_deedByLot_46 rfl ?_
      refine S_iconst dX1_deedByLot_48 rfl ?_
      refine S_iremK dX1_deedByLot_49 (by decide) ?_
      refine S_iadd dX1_deedByLot_50 ?_
      refine S_callS_I dX1_deedByLot_51 [.inl 1, .inl x1, .inl (w32 (1 + (x4.tmod 5)))] (K_X1_deedOf 1 x1 (w32 (1 + (x4.tmod 5))) μ) l_X1_148 yo_X1_deedOf rfl rfl rfl (fun x10 => ?_)
      exact S_iret dX1_deedByLot_54 rfl rfl
  refine S_if_le (tgt := 22) dX1_deedByLot_7 (by decide) (fun h12 => ?_) (fun h12 => ?_)
  · refine S_iconst dX1_deedByLot_22 rfl ?_
    exact S_sub [1] rfl (hK2 0)
  · refine S_iload_n dX1_deedByLot_10 rfl ?_
    refine S_aload_n dX1_deedByLot_11 rfl ?_
    refine S_getR (c1 := 20) dX1_deedByLot_12 rfl fl_X1_33 rfl rfl rfl ?_
    refine S_getI dX1_deedByLot_15 rfl fl_X1_122 rfl rfl ?_
    refine S_irem dX1_deedByLot_18 ?_
    refine S_goto (tgt := 23) dX1_deedByLot_19 (by decide) ?_
    exact S_sub [1] rfl (hK2 (p1.tmod (μ 20 4)))
def fX1_lots_L55 (p1 : Int) : Nat → Int → Int → Mem → Option (Int × Mem)
  | 0, _, _, _ => none
  | n6 + 1, x3, x4, μ5 =>
    if p1 ≤ x4 then
      some ((μ5 20 5), μ5)
    else
      mlet (((w64 (x3 * 48271)).tmod 2147483647)) fun x7 =>
      (fX1_deedByLot (w32 x7) μ5).bind fun x8 =>
      (fX1_perform x8 μ5).bind fun μ9 =>
      mlet (w32 (x4 + 1)) fun x10 =>
      fX1_lots_L55 p1 n6 x7 x10 μ9
def fX1_lots (p1 : Int) (p2 : Int) (μ : Mem) : Option (Int × Mem) :=
  (fX1_isWithin p1 1 20 μ).bind fun x1 =>
  if x1 = 0 then
    some ((-1), μ)
  else
    (fX1_isWithin p2 1 2147483646 μ).bind fun x2 =>
    if ¬ x2 = 0 then
      if ¬ (μ 20 4) = 0 then
        if (w32 ((μ 0 8) + p1)) ≤ 40 then
          fX1_lots_L55 p1 fuel p2 0 μ
        else
          some ((-2), μ)
      else
        some ((-4), μ)
    else
      some ((-1), μ)
theorem K_X1_lots {σ : Scr}  (p1 : Int) (p2 : Int)  (μ : Mem) : Con σ yX1_lots cX1_lots 6 (some .int) 9 [.inr (.inr 0), .inl p1, .inl p2] μ (fX1_lots p1 p2 μ) wI := by
  refine con_of (own := RX1) (by decide) rfl (Nat.le_of_ble_eq_true rfl) ?_
  show Sim σ cX1_lots 6 RX1 (9) (some .int) wI 0 [(0, .inr (.inr 0)), (1, .inl p1), (2, .inl p2)] [] μ (fX1_lots p1 p2 μ)
  unfold fX1_lots
  refine S_iload_n dX1_lots_0 rfl ?_
  refine S_iconst dX1_lots_1 rfl ?_
  refine S_bipush dX1_lots_2 rfl (by decide) ?_
  refine S_callS_I dX1_lots_4 [.inl p1, .inl 1, .inl 20] (K_X1_isWithin p1 1 20 μ) l_X1_128 yo_X1_isWithin rfl rfl rfl (fun x1 => ?_)
  refine S_if_eq (tgt := 20) dX1_lots_7 (by decide) (fun h15 => ?_) (fun h15 => ?_)
  · refine S_iconst dX1_lots_20 rfl ?_
    exact S_iret dX1_lots_21 rfl rfl
  · refine S_iload_n dX1_lots_10 rfl ?_
    refine S_iconst dX1_lots_11 rfl ?_
    refine S_ldc dX1_lots_12 rfl k_X1_226 ?_
    refine S_callS_I dX1_lots_14 [.inl p2, .inl 1, .inl 2147483646] (K_X1_isWithin p2 1 2147483646 μ) l_X1_128 yo_X1_isWithin rfl rfl rfl (fun x2 => ?_)
    refine S_if_ne (tgt := 22) dX1_lots_17 (by decide) (fun h14 => ?_) (fun h14 => ?_)
    · refine S_aload_n dX1_lots_22 rfl ?_
      refine S_getR (c1 := 20) dX1_lots_23 rfl fl_X1_33 rfl rfl rfl ?_
      refine S_getI dX1_lots_26 rfl fl_X1_122 rfl rfl ?_
      refine S_if_ne (tgt := 35) dX1_lots_29 (by decide) (fun h13 => ?_) (fun h13 => ?_)
      · refine S_aload_n dX1_lots_35 rfl ?_
        refine S_getI dX1_lots_36 rfl fl_X1_42 rfl rfl ?_
        refine S_iload_n dX1_lots_39 rfl ?_
        refine S_iadd dX1_lots_40 ?_
        refine S_bipush dX1_lots_41 rfl (by decide) ?_
        refine S_ic_le (tgt := 49) dX1_lots_43 (by decide) (fun h12 => ?_) (fun h12 => ?_)
        · refine S_iload_n dX1_lots_49 rfl ?_
          refine S_i2l dX1_lots_50 ?_
          refine S_lstore_n (lv' := [(3, .inr (.inl p2)), (0, .inr (.inr 0)), (1, .inl p1), (2, .inl p2)]) dX1_lots_51 rfl rfl ?_
          refine S_iconst dX1_lots_52 rfl ?_
          refine S_istore (lv' := [(5, .inl 0), (3, .inr (.inl p2)), (0, .inr (.inr 0)), (1, .inl p1), (2, .inl p2)]) dX1_lots_53 rfl rfl ?_
          have hL55 : ∀ (n6 : Nat) (x3 : Int) (x4 : Int) (μ5 : Mem), Sim σ cX1_lots 6 RX1 (9) (some .int) wI 55 [(0, .inr (.inr 0)), (1, .inl p1), (3, .inr (.inl x3)), (5, .inl x4)] [] μ5 (fX1_lots_L55 p1 n6 x3 x4 μ5) := by
            intro n6
            induction n6 with
            | zero =>
              intro x3 x4 μ5
              exact S_none rfl
            | succ n6 ih =>
              intro x3 x4 μ5
              rw [fX1_lots_L55]
              refine S_iload dX1_lots_55 rfl ?_
              refine S_iload_n dX1_lots_57 rfl ?_
              refine S_ic_ge (tgt := 87) dX1_lots_58 (by decide) (fun h11 => ?_) (fun h11 => ?_)
              · refine S_aload_n dX1_lots_87 rfl ?_
                refine S_getR (c1 := 20) dX1_lots_88 rfl fl_X1_33 rfl rfl rfl ?_
                refine S_getI dX1_lots_91 rfl fl_X1_178 rfl rfl ?_
                exact S_iret dX1_lots_94 rfl rfl
              · refine S_lload_n dX1_lots_61 rfl ?_
                refine S_ldc2 dX1_lots_62 rfl k_X1_227 ?_
                refine S_lmul dX1_lots_65 ?_
                refine S_ldc2 dX1_lots_66 rfl k_X1_229 ?_
                refine S_lremK dX1_lots_69 (by decide) ?_
                refine S_letL (fun x7 => ?_)
                refine S_lstore_n (lv' := [(3, .inr (.inl x7)), (0, .inr (.inr 0)), (1, .inl p1), (5, .inl x4)]) dX1_lots_70 rfl rfl ?_
                refine S_aload_n dX1_lots_71 rfl ?_
                refine S_aload_n dX1_lots_72 rfl ?_
                refine S_lload_n dX1_lots_73 rfl ?_
                refine S_l2i dX1_lots_74 ?_
                refine S_callV_I dX1_lots_75 [.inl (w32 x7)] (K_X1_deedByLot (w32 x7) μ5) l_X1_231 yo_X1_deedByLot rfl rfl rfl rfl rfl (fun x8 => ?_)
                refine S_callV_V dX1_lots_78 [.inl x8] (K_X1_perform x8 μ5) l_X1_152 yo_X1_perform rfl rfl rfl rfl rfl (fun μ9 => ?_)
                refine S_iinc (lv' := fun x10 => [(5, .inl x10), (3, .inr (.inl x7)), (0, .inr (.inr 0)), (1, .inl p1)]) dX1_lots_81 rfl rfl rfl (fun _ => rfl) (fun x10 => ?_)
                refine S_goto (tgt := 55) dX1_lots_84 (by decide) ?_
                exact S_sub [2, 3, 1, 0] rfl (ih x7 x10 μ9)
          exact S_sub [2, 3, 1, 0] rfl (hL55 fuel p2 0 μ)
        · refine S_bipush dX1_lots_46 rfl (by decide) ?_
          exact S_iret dX1_lots_48 rfl rfl
      · refine S_bipush dX1_lots_32 rfl (by decide) ?_
        exact S_iret dX1_lots_34 rfl rfl
    · refine S_iconst dX1_lots_20 rfl ?_
      exact S_iret dX1_lots_21 rfl rfl
def fX1_asked (μ : Mem) : Option Int :=
  some (μ 0 11)
theorem K_X1_asked {σ : Scr}    (μ : Mem) : Con σ yX1_asked cX1_asked 1 (some .int) 2 [.inr (.inr 0)] μ (fX1_asked  μ) (rI μ) := by
  refine con_of (own := RX1) (by decide) rfl (Nat.le_of_ble_eq_true rfl) ?_
  show Sim σ cX1_asked 1 RX1 (2) (some .int) (rI μ) 0 [(0, .inr (.inr 0))] [] μ (fX1_asked  μ)
  unfold fX1_asked
  refine S_aload_n dX1_asked_0 rfl ?_
  refine S_getI dX1_asked_1 rfl fl_X1_52 rfl rfl ?_
  exact S_iret dX1_asked_4 rfl rfl
def fX1_upper (μ : Mem) : Option Int :=
  some (μ 0 12)
theorem K_X1_upper {σ : Scr}    (μ : Mem) : Con σ yX1_upper cX1_upper 1 (some .long) 2 [.inr (.inr 0)] μ (fX1_upper  μ) (rL μ) := by
  refine con_of (own := RX1) (by decide) rfl (Nat.le_of_ble_eq_true rfl) ?_
  show Sim σ cX1_upper 1 RX1 (2) (some .long) (rL μ) 0 [(0, .inr (.inr 0))] [] μ (fX1_upper  μ)
  unfold fX1_upper
  refine S_aload_n dX1_upper_0 rfl ?_
  refine S_getL dX1_upper_1 rfl fl_X1_55 rfl rfl ?_
  exact S_lret dX1_upper_4 rfl rfl
