theorem dX1_weighedFar_0 : decode cX1_weighedFar 0 = .ok (.aload_n 0, 1) := by decide +kernel
theorem dX1_weighedFar_1 : decode cX1_weighedFar 1 = .ok (.getfield 71, 3) := by decide +kernel
theorem dX1_weighedFar_4 : decode cX1_weighedFar 4 = .ok (.bipush 6, 2) := by decide +kernel
theorem dX1_weighedFar_6 : decode cX1_weighedFar 6 = .ok (.iaload, 1) := by decide +kernel
theorem dX1_weighedFar_7 : decode cX1_weighedFar 7 = .ok (.aload_n 0, 1) := by decide +kernel
theorem dX1_weighedFar_8 : decode cX1_weighedFar 8 = .ok (.getfield 33, 3) := by decide +kernel
theorem dX1_weighedFar_11 : decode cX1_weighedFar 11 = .ok (.getfield 178, 3) := by decide +kernel
theorem dX1_weighedFar_14 : decode cX1_weighedFar 14 = .ok (.iload_n 1, 1) := by decide +kernel
theorem dX1_weighedFar_15 : decode cX1_weighedFar 15 = .ok (.isub, 1) := by decide +kernel
theorem dX1_weighedFar_16 : decode cX1_weighedFar 16 = .ok (.invokestatic 311, 3) := by decide +kernel
theorem dX1_weighedFar_19 : decode cX1_weighedFar 19 = .ok (.imul, 1) := by decide +kernel
theorem dX1_weighedFar_20 : decode cX1_weighedFar 20 = .ok (.istore_n 2, 1) := by decide +kernel
theorem dX1_weighedFar_21 : decode cX1_weighedFar 21 = .ok (.iconst 0, 1) := by decide +kernel
theorem dX1_weighedFar_22 : decode cX1_weighedFar 22 = .ok (.istore_n 3, 1) := by decide +kernel
theorem dX1_weighedFar_23 : decode cX1_weighedFar 23 = .ok (.iload_n 3, 1) := by decide +kernel
theorem dX1_weighedFar_24 : decode cX1_weighedFar 24 = .ok (.aload_n 0, 1) := by decide +kernel
theorem dX1_weighedFar_25 : decode cX1_weighedFar 25 = .ok (.getfield 33, 3) := by decide +kernel
theorem dX1_weighedFar_28 : decode cX1_weighedFar 28 = .ok (.getfield 122, 3) := by decide +kernel
theorem dX1_weighedFar_31 : decode cX1_weighedFar 31 = .ok (.if_icmp .ge 33, 3) := by decide +kernel
theorem dX1_weighedFar_34 : decode cX1_weighedFar 34 = .ok (.iload_n 2, 1) := by decide +kernel
theorem dX1_weighedFar_35 : decode cX1_weighedFar 35 = .ok (.aload_n 0, 1) := by decide +kernel
theorem dX1_weighedFar_36 : decode cX1_weighedFar 36 = .ok (.getfield 71, 3) := by decide +kernel
theorem dX1_weighedFar_39 : decode cX1_weighedFar 39 = .ok (.iload_n 3, 1) := by decide +kernel
theorem dX1_weighedFar_40 : decode cX1_weighedFar 40 = .ok (.iaload, 1) := by decide +kernel
theorem dX1_weighedFar_41 : decode cX1_weighedFar 41 = .ok (.aload_n 0, 1) := by decide +kernel
theorem dX1_weighedFar_42 : decode cX1_weighedFar 42 = .ok (.getfield 33, 3) := by decide +kernel
theorem dX1_weighedFar_45 : decode cX1_weighedFar 45 = .ok (.getfield 162, 3) := by decide +kernel
theorem dX1_weighedFar_48 : decode cX1_weighedFar 48 = .ok (.iload_n 3, 1) := by decide +kernel
theorem dX1_weighedFar_49 : decode cX1_weighedFar 49 = .ok (.iaload, 1) := by decide +kernel
theorem dX1_weighedFar_50 : decode cX1_weighedFar 50 = .ok (.iload_n 1, 1) := by decide +kernel
theorem dX1_weighedFar_51 : decode cX1_weighedFar 51 = .ok (.isub, 1) := by decide +kernel
theorem dX1_weighedFar_52 : decode cX1_weighedFar 52 = .ok (.invokestatic 311, 3) := by decide +kernel
theorem dX1_weighedFar_55 : decode cX1_weighedFar 55 = .ok (.imul, 1) := by decide +kernel
theorem dX1_weighedFar_56 : decode cX1_weighedFar 56 = .ok (.iadd, 1) := by decide +kernel
theorem dX1_weighedFar_57 : decode cX1_weighedFar 57 = .ok (.istore_n 2, 1) := by decide +kernel
theorem dX1_weighedFar_58 : decode cX1_weighedFar 58 = .ok (.iinc 3 1, 3) := by decide +kernel
theorem dX1_weighedFar_61 : decode cX1_weighedFar 61 = .ok (.goto (-38), 3) := by decide +kernel
theorem dX1_weighedFar_64 : decode cX1_weighedFar 64 = .ok (.iload_n 2, 1) := by decide +kernel
theorem dX1_weighedFar_65 : decode cX1_weighedFar 65 = .ok (.ireturn, 1) := by decide +kernel
theorem dX1_mid_0 : decode cX1_mid 0 = .ok (.iload_n 1, 1) := by decide +kernel
theorem dX1_mid_1 : decode cX1_mid 1 = .ok (.invokestatic 159, 3) := by decide +kernel
theorem dX1_mid_4 : decode cX1_mid 4 = .ok (.ifCond .eq 13, 3) := by decide +kernel
theorem dX1_mid_7 : decode cX1_mid 7 = .ok (.iload_n 2, 1) := by decide +kernel
theorem dX1_mid_8 : decode cX1_mid 8 = .ok (.iconst 0, 1) := by decide +kernel
theorem dX1_mid_9 : decode cX1_mid 9 = .ok (.bipush 12, 2) := by decide +kernel
theorem dX1_mid_11 : decode cX1_mid 11 = .ok (.invokestatic 128, 3) := by decide +kernel
theorem dX1_mid_14 : decode cX1_mid 14 = .ok (.ifCond .ne 5, 3) := by decide +kernel
theorem dX1_mid_17 : decode cX1_mid 17 = .ok (.iconst (-1), 1) := by decide +kernel
theorem dX1_mid_18 : decode cX1_mid 18 = .ok (.ireturn, 1) := by decide +kernel
theorem dX1_mid_19 : decode cX1_mid 19 = .ok (.aload_n 0, 1) := by decide +kernel
theorem dX1_mid_20 : decode cX1_mid 20 = .ok (.getfield 33, 3) := by decide +kernel
theorem dX1_mid_23 : decode cX1_mid 23 = .ok (.getfield 122, 3) := by decide +kernel
theorem dX1_mid_26 : decode cX1_mid 26 = .ok (.ifCond .ne 6, 3) := by decide +kernel
theorem dX1_mid_29 : decode cX1_mid 29 = .ok (.bipush (-4), 2) := by decide +kernel
theorem dX1_mid_31 : decode cX1_mid 31 = .ok (.ireturn, 1) := by decide +kernel
theorem dX1_mid_32 : decode cX1_mid 32 = .ok (.aload_n 0, 1) := by decide +kernel
theorem dX1_mid_33 : decode cX1_mid 33 = .ok (.iload_n 2, 1) := by decide +kernel
theorem dX1_mid_34 : decode cX1_mid 34 = .ok (.invokevirtual 217, 3) := by decide +kernel
theorem dX1_mid_37 : decode cX1_mid 37 = .ok (.aload_n 0, 1) := by decide +kernel
theorem dX1_mid_38 : decode cX1_mid 38 = .ok (.aload_n 0, 1) := by decide +kernel
theorem dX1_mid_39 : decode cX1_mid 39 = .ok (.iload_n 1, 1) := by decide +kernel
theorem dX1_mid_40 : decode cX1_mid 40 = .ok (.invokevirtual 223, 3) := by decide +kernel
theorem dX1_mid_43 : decode cX1_mid 43 = .ok (.i2l, 1) := by decide +kernel
theorem dX1_mid_44 : decode cX1_mid 44 = .ok (.aload_n 0, 1) := by decide +kernel
theorem dX1_mid_45 : decode cX1_mid 45 = .ok (.invokevirtual 220, 3) := by decide +kernel
theorem dX1_mid_48 : decode cX1_mid 48 = .ok (.i2l, 1) := by decide +kernel
theorem dX1_mid_49 : decode cX1_mid 49 = .ok (.invokevirtual 209, 3) := by decide +kernel
theorem dX1_mid_52 : decode cX1_mid 52 = .ok (.iconst 1, 1) := by decide +kernel
theorem dX1_mid_53 : decode cX1_mid 53 = .ok (.ireturn, 1) := by decide +kernel
theorem dX1_fair_0 : decode cX1_fair 0 = .ok (.iload_n 1, 1) := by decide +kernel
theorem dX1_fair_1 : decode cX1_fair 1 = .ok (.iconst 0, 1) := by decide +kernel
theorem dX1_fair_2 : decode cX1_fair 2 = .ok (.bipush 12, 2) := by decide +kernel
theorem dX1_fair_4 : decode cX1_fair 4 = .ok (.invokestatic 128, 3) := by decide +kernel
theorem dX1_fair_7 : decode cX1_fair 7 = .ok (.ifCond .ne 5, 3) := by decide +kernel
theorem dX1_fair_10 : decode cX1_fair 10 = .ok (.iconst (-1), 1) := by decide +kernel
theorem dX1_fair_11 : decode cX1_fair 11 = .ok (.ireturn, 1) := by decide +kernel
theorem dX1_fair_12 : decode cX1_fair 12 = .ok (.aload_n 0, 1) := by decide +kernel
theorem dX1_fair_13 : decode cX1_fair 13 = .ok (.getfield 33, 3) := by decide +kernel
theorem dX1_fair_16 : decode cX1_fair 16 = .ok (.getfield 122, 3) := by decide +kernel
theorem dX1_fair_19 : decode cX1_fair 19 = .ok (.ifCond .ne 6, 3) := by decide +kernel
theorem dX1_fair_22 : decode cX1_fair 22 = .ok (.bipush (-4), 2) := by decide +kernel
theorem dX1_fair_24 : decode cX1_fair 24 = .ok (.ireturn, 1) := by decide +kernel
theorem dX1_fair_25 : decode cX1_fair 25 = .ok (.aload_n 0, 1) := by decide +kernel
theorem dX1_fair_26 : decode cX1_fair 26 = .ok (.iload_n 1, 1) := by decide +kernel
theorem dX1_fair_27 : decode cX1_fair 27 = .ok (.invokevirtual 217, 3) := by decide +kernel
theorem dX1_fair_30 : decode cX1_fair 30 = .ok (.iconst 0, 1) := by decide +kernel
theorem dX1_fair_31 : decode cX1_fair 31 = .ok (.istore_n 2, 1) := by decide +kernel
theorem dX1_fair_32 : decode cX1_fair 32 = .ok (.iconst 1, 1) := by decide +kernel
theorem dX1_fair_33 : decode cX1_fair 33 = .ok (.istore_n 3, 1) := by decide +kernel
theorem dX1_fair_34 : decode cX1_fair 34 = .ok (.iload_n 3, 1) := by decide +kernel
theorem dX1_fair_35 : decode cX1_fair 35 = .ok (.bipush 9, 2) := by decide +kernel
theorem dX1_fair_37 : decode cX1_fair 37 = .ok (.if_icmp .gt 24, 3) := by decide +kernel
theorem dX1_fair_40 : decode cX1_fair 40 = .ok (.aload_n 0, 1) := by decide +kernel
theorem dX1_fair_41 : decode cX1_fair 41 = .ok (.iload_n 3, 1) := by decide +kernel
theorem dX1_fair_42 : decode cX1_fair 42 = .ok (.invokevirtual 223, 3) := by decide +kernel
theorem dX1_fair_45 : decode cX1_fair 45 = .ok (.aload_n 0, 1) := by decide +kernel
theorem dX1_fair_46 : decode cX1_fair 46 = .ok (.iload_n 2, 1) := by decide +kernel
theorem dX1_fair_47 : decode cX1_fair 47 = .ok (.invokevirtual 223, 3) := by decide +kernel
theorem dX1_fair_50 : decode cX1_fair 50 = .ok (.if_icmp .ge 5, 3) := by decide +kernel
theorem dX1_fair_53 : decode cX1_fair 53 = .ok (.iload_n 3, 1) := by decide +kernel
theorem dX1_fair_54 : decode cX1_fair 54 = .ok (.istore_n 2, 1) := by decide +kernel
theorem dX1_fair_55 : decode cX1_fair 55 = .ok (.iinc 3 1, 3) := by decide +kernel
theorem dX1_fair_58 : decode cX1_fair 58 = .ok (.goto (-24), 3) := by decide +kernel
theorem dX1_fair_61 : decode cX1_fair 61 = .ok (.aload_n 0, 1) := by decide +kernel
theorem dX1_fair_62 : decode cX1_fair 62 = .ok (.aload_n 0, 1) := by decide +kernel
theorem dX1_fair_63 : decode cX1_fair 63 = .ok (.iload_n 2, 1) := by decide +kernel
theorem dX1_fair_64 : decode cX1_fair 64 = .ok (.invokevirtual 223, 3) := by decide +kernel
theorem dX1_fair_67 : decode cX1_fair 67 = .ok (.i2l, 1) := by decide +kernel
theorem dX1_fair_68 : decode cX1_fair 68 = .ok (.aload_n 0, 1) := by decide +kernel
theorem dX1_fair_69 : decode cX1_fair 69 = .ok (.invokevirtual 220, 3) := by decide +kernel
theorem dX1_fair_72 : decode cX1_fair 72 = .ok (.i2l, 1) := by decide +kernel
theorem dX1_fair_73 : decode cX1_fair 73 = .ok (.invokevirtual 209, 3) := by decide +kernel
theorem dX1_fair_76 : decode cX1_fair 76 = .ok (.iload_n 2, 1) := by decide +kernel
theorem dX1_fair_77 : decode cX1_fair 77 = .ok (.ireturn, 1) := by decide +kernel
theorem dX1_deedByLot_0 : decode cX1_deedByLot 0 = .ok (.aload_n 0, 1) := by decide +kernel
theorem dX1_deedByLot_1 : decode cX1_deedByLot 1 = .ok (.getfield 33, 3) := by decide +kernel
theorem dX1_deedByLot_4 : decode cX1_deedByLot 4 = .ok (.getfield 122, 3) := by decide +kernel
theorem dX1_deedByLot_7 : decode cX1_deedByLot 7 = .ok (.ifCond .le 15, 3) := by decide +kernel
theorem dX1_deedByLot_10 : decode cX1_deedByLot 10 = .ok (.iload_n 1, 1) := by decide +kernel
theorem dX1_deedByLot_11 : decode cX1_deedByLot 11 = .ok (.aload_n 0, 1) := by decide +kernel
theorem dX1_deedByLot_12 : decode cX1_deedByLot 12 = .ok (.getfield 33, 3) := by decide +kernel
theorem dX1_deedByLot_15 : decode cX1_deedByLot 15 = .ok (.getfield 122, 3) := by decide +kernel
theorem dX1_deedByLot_18 : decode cX1_deedByLot 18 = .ok (.irem, 1) := by decide +kernel
theorem dX1_deedByLot_19 : decode cX1_deedByLot 19 = .ok (.goto 4, 3) := by decide +kernel
theorem dX1_deedByLot_22 : decode cX1_deedByLot 22 = .ok (.iconst 0, 1) := by decide +kernel
theorem dX1_deedByLot_23 : decode cX1_deedByLot 23 = .ok (.istore_n 2, 1) := by decide +kernel
theorem dX1_deedByLot_24 : decode cX1_deedByLot 24 = .ok (.iload_n 1, 1) := by decide +kernel
theorem dX1_deedByLot_25 : decode cX1_deedByLot 25 = .ok (.bipush 8, 2) := by decide +kernel
theorem dX1_deedByLot_27 : decode cX1_deedByLot 27 = .ok (.idiv, 1) := by decide +kernel
theorem dX1_deedByLot_28 : decode cX1_deedByLot 28 = .ok (.bipush 8, 2) := by decide +kernel
theorem dX1_deedByLot_30 : decode cX1_deedByLot 30 = .ok (.irem, 1) := by decide +kernel
theorem dX1_deedByLot_31 : decode cX1_deedByLot 31 = .ok (.istore_n 3, 1) := by decide +kernel
theorem dX1_deedByLot_32 : decode cX1_deedByLot 32 = .ok (.iload_n 1, 1) := by decide +kernel
theorem dX1_deedByLot_33 : decode cX1_deedByLot 33 = .ok (.bipush 64, 2) := by decide +kernel
theorem dX1_deedByLot_35 : decode cX1_deedByLot 35 = .ok (.idiv, 1) := by decide +kernel
theorem dX1_deedByLot_36 : decode cX1_deedByLot 36 = .ok (.istore 4, 2) := by decide +kernel
theorem dX1_deedByLot_38 : decode cX1_deedByLot 38 = .ok (.iload_n 3, 1) := by decide +kernel
theorem dX1_deedByLot_39 : decode cX1_deedByLot 39 = .ok (.iconst 1, 1) := by decide +kernel
theorem dX1_deedByLot_40 : decode cX1_deedByLot 40 = .ok (.if_icmp .gt 15, 3) := by decide +kernel
theorem dX1_deedByLot_43 : decode cX1_deedByLot 43 = .ok (.iconst 1, 1) := by decide +kernel
theorem dX1_deedByLot_44 : decode cX1_deedByLot 44 = .ok (.iload_n 2, 1) := by decide +kernel
theorem dX1_deedByLot_45 : decode cX1_deedByLot 45 = .ok (.iconst 1, 1) := by decide +kernel
theorem dX1_deedByLot_46 : decode cX1_deedByLot 46 = .ok (.iload 4, 2) := by decide +kernel
theorem dX1_deedByLot_48 : decode cX1_deedByLot 48 = .ok (.iconst 5, 1) := by decide +kernel
theorem dX1_deedByLot_49 : decode cX1_deedByLot 49 = .ok (.irem, 1) := by decide +kernel
theorem dX1_deedByLot_50 : decode cX1_deedByLot 50 = .ok (.iadd, 1) := by decide +kernel
theorem dX1_deedByLot_51 : decode cX1_deedByLot 51 = .ok (.invokestatic 148, 3) := by decide +kernel
theorem dX1_deedByLot_54 : decode cX1_deedByLot 54 = .ok (.ireturn, 1) := by decide +kernel
theorem dX1_deedByLot_55 : decode cX1_deedByLot 55 = .ok (.iload_n 3, 1) := by decide +kernel
theorem dX1_deedByLot_56 : decode cX1_deedByLot 56 = .ok (.iconst 2, 1) := by decide +kernel
theorem dX1_deedByLot_57 : decode cX1_deedByLot 57 = .ok (.if_icmp .ne 15, 3) := by decide +kernel
theorem dX1_deedByLot_60 : decode cX1_deedByLot 60 = .ok (.iconst 2, 1) := by decide +kernel
theorem dX1_deedByLot_61 : decode cX1_deedByLot 61 = .ok (.iload_n 2, 1) := by decide +kernel
theorem dX1_deedByLot_62 : decode cX1_deedByLot 62 = .ok (.iconst 1, 1) := by decide +kernel
theorem dX1_deedByLot_63 : decode cX1_deedByLot 63 = .ok (.iload 4, 2) := by decide +kernel
theorem dX1_deedByLot_65 : decode cX1_deedByLot 65 = .ok (.iconst 5, 1) := by decide +kernel
theorem dX1_deedByLot_66 : decode cX1_deedByLot 66 = .ok (.irem, 1) := by decide +kernel
theorem dX1_deedByLot_67 : decode cX1_deedByLot 67 = .ok (.iadd, 1) := by decide +kernel
theorem dX1_deedByLot_68 : decode cX1_deedByLot 68 = .ok (.invokestatic 148, 3) := by decide +kernel
theorem dX1_deedByLot_71 : decode cX1_deedByLot 71 = .ok (.ireturn, 1) := by decide +kernel
theorem dX1_deedByLot_72 : decode cX1_deedByLot 72 = .ok (.iload_n 3, 1) := by decide +kernel
theorem dX1_deedByLot_73 : decode cX1_deedByLot 73 = .ok (.iconst 3, 1) := by decide +kernel
theorem dX1_deedByLot_74 : decode cX1_deedByLot 74 = .ok (.if_icmp .ne 16, 3) := by decide +kernel
theorem dX1_deedByLot_77 : decode cX1_deedByLot 77 = .ok (.iconst 3, 1) := by decide +kernel
theorem dX1_deedByLot_78 : decode cX1_deedByLot 78 = .ok (.iload_n 2, 1) := by decide +kernel
theorem dX1_deedByLot_79 : decode cX1_deedByLot 79 = .ok (.iload 4, 2) := by decide +kernel
theorem dX1_deedByLot_81 : decode cX1_deedByLot 81 = .ok (.bipush 10, 2) := by decide +kernel
theorem dX1_deedByLot_83 : decode cX1_deedByLot 83 = .ok (.irem, 1) := by decide +kernel
theorem dX1_deedByLot_84 : decode cX1_deedByLot 84 = .ok (.invokestatic 148, 3) := by decide +kernel
theorem dX1_deedByLot_87 : decode cX1_deedByLot 87 = .ok (.goto 9, 3) := by decide +kernel
theorem dX1_deedByLot_90 : decode cX1_deedByLot 90 = .ok (.iconst 0, 1) := by decide +kernel
theorem dX1_deedByLot_91 : decode cX1_deedByLot 91 = .ok (.iconst 0, 1) := by decide +kernel
theorem dX1_deedByLot_92 : decode cX1_deedByLot 92 = .ok (.iconst 0, 1) := by decide +kernel
theorem dX1_deedByLot_93 : decode cX1_deedByLot 93 = .ok (.invokestatic 148, 3) := by decide +kernel
theorem dX1_deedByLot_96 : decode cX1_deedByLot 96 = .ok (.ireturn, 1) := by decide +kernel
theorem dX1_lots_0 : decode cX1_lots 0 = .ok (.iload_n 1, 1) := by decide +kernel
theorem dX1_lots_1 : decode cX1_lots 1 = .ok (.iconst 1, 1) := by decide +kernel
theorem dX1_lots_2 : decode cX1_lots 2 = .ok (.bipush 20, 2) := by decide +kernel
theorem dX1_lots_4 : decode cX1_lots 4 = .ok (.invokestatic 128, 3) := by decide +kernel
theorem dX1_lots_7 : decode cX1_lots 7 = .ok (.ifCond .eq 13, 3) := by decide +kernel
theorem dX1_lots_10 : decode cX1_lots 10 = .ok (.iload_n 2, 1) := by decide +kernel
theorem dX1_lots_11 : decode cX1_lots 11 = .ok (.iconst 1, 1) := by decide +kernel
theorem dX1_lots_12 : decode cX1_lots 12 = .ok (.ldc 226, 2) := by decide +kernel
theorem dX1_lots_14 : decode cX1_lots 14 = .ok (.invokestatic 128, 3) := by decide +kernel
theorem dX1_lots_17 : decode cX1_lots 17 = .ok (.ifCond .ne 5, 3) := by decide +kernel
theorem dX1_lots_20 : decode cX1_lots 20 = .ok (.iconst (-1), 1) := by decide +kernel
theorem dX1_lots_21 : decode cX1_lots 21 = .ok (.ireturn, 1) := by decide +kernel
theorem dX1_lots_22 : decode cX1_lots 22 = .ok (.aload_n 0, 1) := by decide +kernel
theorem dX1_lots_23 : decode cX1_lots 23 = .ok (.getfield 33, 3) := by decide +kernel
theorem dX1_lots_26 : decode cX1_lots 26 = .ok (.getfield 122, 3) := by decide +kernel
theorem dX1_lots_29 : decode cX1_lots 29 = .ok (.ifCond .ne 6, 3) := by decide +kernel
theorem dX1_lots_32 : decode cX1_lots 32 = .ok (.bipush (-4), 2) := by decide +kernel
theorem dX1_lots_34 : decode cX1_lots 34 = .ok (.ireturn, 1) := by decide +kernel
theorem dX1_lots_35 : decode cX1_lots 35 = .ok (.aload_n 0, 1) := by decide +kernel
theorem dX1_lots_36 : decode cX1_lots 36 = .ok (.getfield 42, 3) := by decide +kernel
theorem dX1_lots_39 : decode cX1_lots 39 = .ok (.iload_n 1, 1) := by decide +kernel
theorem dX1_lots_40 : decode cX1_lots 40 = .ok (.iadd, 1) := by decide +kernel
theorem dX1_lots_41 : decode cX1_lots 41 = .ok (.bipush 40, 2) := by decide +kernel
theorem dX1_lots_43 : decode cX1_lots 43 = .ok (.if_icmp .le 6, 3) := by decide +kernel
theorem dX1_lots_46 : decode cX1_lots 46 = .ok (.bipush (-2), 2) := by decide +kernel
theorem dX1_lots_48 : decode cX1_lots 48 = .ok (.ireturn, 1) := by decide +kernel
theorem dX1_lots_49 : decode cX1_lots 49 = .ok (.iload_n 2, 1) := by decide +kernel
theorem dX1_lots_50 : decode cX1_lots 50 = .ok (.i2l, 1) := by decide +kernel
theorem dX1_lots_51 : decode cX1_lots 51 = .ok (.lstore_n 3, 1) := by decide +kernel
theorem dX1_lots_52 : decode cX1_lots 52 = .ok (.iconst 0, 1) := by decide +kernel
theorem dX1_lots_53 : decode cX1_lots 53 = .ok (.istore 5, 2) := by decide +kernel
theorem dX1_lots_55 : decode cX1_lots 55 = .ok (.iload 5, 2) := by decide +kernel
theorem dX1_lots_57 : decode cX1_lots 57 = .ok (.iload_n 1, 1) := by decide +kernel
theorem dX1_lots_58 : decode cX1_lots 58 = .ok (.if_icmp .ge 29, 3) := by decide +kernel
theorem dX1_lots_61 : decode cX1_lots 61 = .ok (.lload_n 3, 1) := by decide +kernel
theorem dX1_lots_62 : decode cX1_lots 62 = .ok (.ldc2_w 227, 3) := by decide +kernel
theorem dX1_lots_65 : decode cX1_lots 65 = .ok (.lmul, 1) := by decide +kernel
theorem dX1_lots_66 : decode cX1_lots 66 = .ok (.ldc2_w 229, 3) := by decide +kernel
theorem dX1_lots_69 : decode cX1_lots 69 = .ok (.lrem, 1) := by decide +kernel
theorem dX1_lots_70 : decode cX1_lots 70 = .ok (.lstore_n 3, 1) := by decide +kernel
theorem dX1_lots_71 : decode cX1_lots 71 = .ok (.aload_n 0, 1) := by decide +kernel
theorem dX1_lots_72 : decode cX1_lots 72 = .ok (.aload_n 0, 1) := by decide +kernel
theorem dX1_lots_73 : decode cX1_lots 73 = .ok (.lload_n 3, 1) := by decide +kernel
theorem dX1_lots_74 : decode cX1_lots 74 = .ok (.l2i, 1) := by decide +kernel
theorem dX1_lots_75 : decode cX1_lots 75 = .ok (.invokevirtual 231, 3) := by decide +kernel
theorem dX1_lots_78 : decode cX1_lots 78 = .ok (.invokevirtual 152, 3) := by decide +kernel
theorem dX1_lots_81 : decode cX1_lots 81 = .ok (.iinc 5 1, 3) := by decide +kernel
theorem dX1_lots_84 : decode cX1_lots 84 = .ok (.goto (-29), 3) := by decide +kernel
theorem dX1_lots_87 : decode cX1_lots 87 = .ok (.aload_n 0, 1) := by decide +kernel
theorem dX1_lots_88 : decode cX1_lots 88 = .ok (.getfield 33, 3) := by decide +kernel
theorem dX1_lots_91 : decode cX1_lots 91 = .ok (.getfield 178, 3) := by decide +kernel
theorem dX1_lots_94 : decode cX1_lots 94 = .ok (.ireturn, 1) := by decide +kernel
theorem dX1_asked_0 : decode cX1_asked 0 = .ok (.aload_n 0, 1) := by decide +kernel
theorem dX1_asked_1 : decode cX1_asked 1 = .ok (.getfield 52, 3) := by decide +kernel
theorem dX1_asked_4 : decode cX1_asked 4 = .ok (.ireturn, 1) := by decide +kernel
theorem dX1_upper_0 : decode cX1_upper 0 = .ok (.aload_n 0, 1) := by decide +kernel
theorem dX1_upper_1 : decode cX1_upper 1 = .ok (.getfield 55, 3) := by decide +kernel
theorem dX1_upper_4 : decode cX1_upper 4 = .ok (.lreturn, 1) := by decide +kernel
theorem dX1_lower_0 : decode cX1_lower 0 = .ok (.aload_n 0, 1) := by decide +kernel
theorem dX1_lower_1 : decode cX1_lower 1 = .ok (.getfield 59, 3) := by decide +kernel
theorem dX1_lower_4 : decode cX1_lower 4 = .ok (.lreturn, 1) := by decide +kernel
theorem dX1_bitOf_0 : decode cX1_bitOf 0 = .ok (.iload_n 0, 1) := by decide +kernel
theorem dX1_bitOf_1 : decode cX1_bitOf 1 = .ok (.ifCond .lt 9, 3) := by decide +kernel
theorem dX1_bitOf_4 : decode cX1_bitOf 4 = .ok (.iconst 1, 1) := by decide +kernel
theorem dX1_bitOf_5 : decode cX1_bitOf 5 = .ok (.iload_n 0, 1) := by decide +kernel
theorem dX1_bitOf_6 : decode cX1_bitOf 6 = .ok (.ishl, 1) := by decide +kernel
theorem dX1_bitOf_7 : decode cX1_bitOf 7 = .ok (.goto 4, 3) := by decide +kernel
theorem dX1_bitOf_10 : decode cX1_bitOf 10 = .ok (.iconst 0, 1) := by decide +kernel
theorem dX1_bitOf_11 : decode cX1_bitOf 11 = .ok (.ireturn, 1) := by decide +kernel
theorem dX1_howManyThere_0 : decode cX1_howManyThere 0 = .ok (.iconst 0, 1) := by decide +kernel
theorem dX1_howManyThere_1 : decode cX1_howManyThere 1 = .ok (.istore_n 1, 1) := by decide +kernel
theorem dX1_howManyThere_2 : decode cX1_howManyThere 2 = .ok (.aload_n 0, 1) := by decide +kernel
theorem dX1_howManyThere_3 : decode cX1_howManyThere 3 = .ok (.astore_n 2, 1) := by decide +kernel
theorem dX1_howManyThere_4 : decode cX1_howManyThere 4 = .ok (.aload_n 2, 1) := by decide +kernel
theorem dX1_howManyThere_5 : decode cX1_howManyThere 5 = .ok (.arraylength, 1) := by decide +kernel
theorem dX1_howManyThere_6 : decode cX1_howManyThere 6 = .ok (.istore_n 3, 1) := by decide +kernel
theorem dX1_howManyThere_7 : decode cX1_howManyThere 7 = .ok (.iconst 0, 1) := by decide +kernel
theorem dX1_howManyThere_8 : decode cX1_howManyThere 8 = .ok (.istore 4, 2) := by decide +kernel
theorem dX1_howManyThere_10 : decode cX1_howManyThere 10 = .ok (.iload 4, 2) := by decide +kernel
theorem dX1_howManyThere_12 : decode cX1_howManyThere 12 = .ok (.iload_n 3, 1) := by decide +kernel
theorem dX1_howManyThere_13 : decode cX1_howManyThere 13 = .ok (.if_icmp .ge 23, 3) := by decide +kernel
theorem dX1_howManyThere_16 : decode cX1_howManyThere 16 = .ok (.aload_n 2, 1) := by decide +kernel
theorem dX1_howManyThere_17 : decode cX1_howManyThere 17 = .ok (.iload 4, 2) := by decide +kernel
theorem dX1_howManyThere_19 : decode cX1_howManyThere 19 = .ok (.iaload, 1) := by decide +kernel
theorem dX1_howManyThere_20 : decode cX1_howManyThere 20 = .ok (.istore 5, 2) := by decide +kernel
theorem dX1_howManyThere_22 : decode cX1_howManyThere 22 = .ok (.iload 5, 2) := by decide +kernel
theorem dX1_howManyThere_24 : decode cX1_howManyThere 24 = .ok (.ifCond .lt 6, 3) := by decide +kernel
theorem dX1_howManyThere_27 : decode cX1_howManyThere 27 = .ok (.iinc 1 1, 3) := by decide +kernel
theorem dX1_howManyThere_30 : decode cX1_howManyThere 30 = .ok (.iinc 4 1, 3) := by decide +kernel
theorem dX1_howManyThere_33 : decode cX1_howManyThere 33 = .ok (.goto (-23), 3) := by decide +kernel
theorem dX1_howManyThere_36 : decode cX1_howManyThere 36 = .ok (.iload_n 1, 1) := by decide +kernel
theorem dX1_howManyThere_37 : decode cX1_howManyThere 37 = .ok (.ireturn, 1) := by decide +kernel
theorem dX1_count_0 : decode cX1_count 0 = .ok (.iload_n 1, 1) := by decide +kernel
theorem dX1_count_1 : decode cX1_count 1 = .ok (.tableswitch 173 0 11 #[63, 71, 79, 84, 92, 104, 123, 131, 140, 149, 157, 165], 63) := by decide +kernel
theorem dX1_count_64 : decode cX1_count 64 = .ok (.aload_n 0, 1) := by decide +kernel
theorem dX1_count_65 : decode cX1_count 65 = .ok (.getfield 33, 3) := by decide +kernel
theorem dX1_count_68 : decode cX1_count 68 = .ok (.getfield 122, 3) := by decide +kernel
theorem dX1_count_71 : decode cX1_count 71 = .ok (.ireturn, 1) := by decide +kernel
theorem dX1_count_72 : decode cX1_count 72 = .ok (.aload_n 0, 1) := by decide +kernel
theorem dX1_count_73 : decode cX1_count 73 = .ok (.getfield 33, 3) := by decide +kernel
theorem dX1_count_76 : decode cX1_count 76 = .ok (.getfield 234, 3) := by decide +kernel
theorem dX1_count_79 : decode cX1_count 79 = .ok (.ireturn, 1) := by decide +kernel
theorem dX1_count_80 : decode cX1_count 80 = .ok (.aload_n 0, 1) := by decide +kernel
theorem dX1_count_81 : decode cX1_count 81 = .ok (.getfield 42, 3) := by decide +kernel
theorem dX1_count_84 : decode cX1_count 84 = .ok (.ireturn, 1) := by decide +kernel
theorem dX1_count_85 : decode cX1_count 85 = .ok (.aload_n 0, 1) := by decide +kernel
theorem dX1_count_86 : decode cX1_count 86 = .ok (.getfield 33, 3) := by decide +kernel
theorem dX1_count_89 : decode cX1_count 89 = .ok (.getfield 178, 3) := by decide +kernel
theorem dX1_count_92 : decode cX1_count 92 = .ok (.ireturn, 1) := by decide +kernel
theorem dX1_count_93 : decode cX1_count 93 = .ok (.aload_n 0, 1) := by decide +kernel
theorem dX1_count_94 : decode cX1_count 94 = .ok (.getfield 33, 3) := by decide +kernel
theorem dX1_count_97 : decode cX1_count 97 = .ok (.iconst 0, 1) := by decide +kernel
theorem dX1_count_98 : decode cX1_count 98 = .ok (.invokevirtual 145, 3) := by decide +kernel
theorem dX1_count_101 : decode cX1_count 101 = .ok (.invokestatic 237, 3) := by decide +kernel
theorem dX1_count_104 : decode cX1_count 104 = .ok (.ireturn, 1) := by decide +kernel
theorem dX1_count_105 : decode cX1_count 105 = .ok (.aload_n 0, 1) := by decide +kernel
theorem dX1_count_106 : decode cX1_count 106 = .ok (.getfield 33, 3) := by decide +kernel
theorem dX1_count_109 : decode cX1_count 109 = .ok (.iconst 1, 1) := by decide +kernel
theorem dX1_count_110 : decode cX1_count 110 = .ok (.aload_n 0, 1) := by decide +kernel
theorem dX1_count_111 : decode cX1_count 111 = .ok (.getfield 33, 3) := by decide +kernel
theorem dX1_count_114 : decode cX1_count 114 = .ok (.getfield 122, 3) := by decide +kernel
theorem dX1_count_117 : decode cX1_count 117 = .ok (.ishl, 1) := by decide +kernel
theorem dX1_count_118 : decode cX1_count 118 = .ok (.iconst 1, 1) := by decide +kernel
theorem dX1_count_119 : decode cX1_count 119 = .ok (.isub, 1) := by decide +kernel
theorem dX1_count_120 : decode cX1_count 120 = .ok (.invokevirtual 206, 3) := by decide +kernel
theorem dX1_count_123 : decode cX1_count 123 = .ok (.ireturn, 1) := by decide +kernel
theorem dX1_count_124 : decode cX1_count 124 = .ok (.aload_n 0, 1) := by decide +kernel
theorem dX1_count_125 : decode cX1_count 125 = .ok (.getfield 33, 3) := by decide +kernel
theorem dX1_count_128 : decode cX1_count 128 = .ok (.invokevirtual 240, 3) := by decide +kernel
theorem dX1_count_131 : decode cX1_count 131 = .ok (.ireturn, 1) := by decide +kernel
theorem dX1_count_132 : decode cX1_count 132 = .ok (.aload_n 0, 1) := by decide +kernel
theorem dX1_count_133 : decode cX1_count 133 = .ok (.getfield 33, 3) := by decide +kernel
theorem dX1_count_136 : decode cX1_count 136 = .ok (.iconst 2, 1) := by decide +kernel
theorem dX1_count_137 : decode cX1_count 137 = .ok (.invokevirtual 243, 3) := by decide +kernel
theorem dX1_count_140 : decode cX1_count 140 = .ok (.ireturn, 1) := by decide +kernel
theorem dX1_count_141 : decode cX1_count 141 = .ok (.aload_n 0, 1) := by decide +kernel
theorem dX1_count_142 : decode cX1_count 142 = .ok (.getfield 33, 3) := by decide +kernel
theorem dX1_count_145 : decode cX1_count 145 = .ok (.iconst 3, 1) := by decide +kernel
theorem dX1_count_146 : decode cX1_count 146 = .ok (.invokevirtual 243, 3) := by decide +kernel
theorem dX1_count_149 : decode cX1_count 149 = .ok (.ireturn, 1) := by decide +kernel
theorem dX1_count_150 : decode cX1_count 150 = .ok (.aload_n 0, 1) := by decide +kernel
theorem dX1_count_151 : decode cX1_count 151 = .ok (.getfield 14, 3) := by decide +kernel
theorem dX1_count_154 : decode cX1_count 154 = .ok (.invokestatic 246, 3) := by decide +kernel
theorem dX1_count_157 : decode cX1_count 157 = .ok (.ireturn, 1) := by decide +kernel
theorem dX1_count_158 : decode cX1_count 158 = .ok (.aload_n 0, 1) := by decide +kernel
theorem dX1_count_159 : decode cX1_count 159 = .ok (.getfield 23, 3) := by decide +kernel
theorem dX1_count_162 : decode cX1_count 162 = .ok (.invokestatic 246, 3) := by decide +kernel
theorem dX1_count_165 : decode cX1_count 165 = .ok (.ireturn, 1) := by decide +kernel
theorem dX1_count_166 : decode cX1_count 166 = .ok (.aload_n 0, 1) := by decide +kernel
theorem dX1_count_167 : decode cX1_count 167 = .ok (.getfield 49, 3) := by decide +kernel
theorem dX1_count_170 : decode cX1_count 170 = .ok (.invokestatic 246, 3) := by decide +kernel
theorem dX1_count_173 : decode cX1_count 173 = .ok (.ireturn, 1) := by decide +kernel
theorem dX1_count_174 : decode cX1_count 174 = .ok (.iconst (-1), 1) := by decide +kernel
theorem dX1_count_175 : decode cX1_count 175 = .ok (.ireturn, 1) := by decide +kernel
theorem dX1_finding_0 : decode cX1_finding 0 = .ok (.aload_n 0, 1) := by decide +kernel
theorem dX1_finding_1 : decode cX1_finding 1 = .ok (.getfield 62, 3) := by decide +kernel
theorem dX1_finding_4 : decode cX1_finding 4 = .ok (.ireturn, 1) := by decide +kernel
theorem dX1_findings_0 : decode cX1_findings 0 = .ok (.iload_n 1, 1) := by decide +kernel
theorem dX1_findings_1 : decode cX1_findings 1 = .ok (.iconst 1, 1) := by decide +kernel
theorem dX1_findings_2 : decode cX1_findings 2 = .ok (.iconst 5, 1) := by decide +kernel
theorem dX1_findings_3 : decode cX1_findings 3 = .ok (.invokestatic 128, 3) := by decide +kernel
theorem dX1_findings_6 : decode cX1_findings 6 = .ok (.ifCond .eq 12, 3) := by decide +kernel
theorem dX1_findings_9 : decode cX1_findings 9 = .ok (.aload_n 0, 1) := by decide +kernel
theorem dX1_findings_10 : decode cX1_findings 10 = .ok (.getfield 65, 3) := by decide +kernel
theorem dX1_findings_13 : decode cX1_findings 13 = .ok (.iload_n 1, 1) := by decide +kernel
theorem dX1_findings_14 : decode cX1_findings 14 = .ok (.iaload, 1) := by decide +kernel
theorem dX1_findings_15 : decode cX1_findings 15 = .ok (.goto 4, 3) := by decide +kernel
theorem dX1_findings_18 : decode cX1_findings 18 = .ok (.iconst (-1), 1) := by decide +kernel
theorem dX1_findings_19 : decode cX1_findings 19 = .ok (.ireturn, 1) := by decide +kernel
theorem jl_X1_311 : Cond.methodLink RX1 311 Lib.Math.abs.name ∈ gd_tbl := in_gd (i := 545) (by decide +kernel) rfl
theorem mt_X1_weighedFar : (Cond.instanceMethod yX1_weighedFar ∈ gd_tbl ∧ Cond.selects yX1_weighedFar.cls yX1_weighedFar yX1_weighedFar ∈ gd_tbl) ∧ Cond.initialized yX1_weighedFar.cls ∈ gd_tbl ∧ Cond.code yX1_weighedFar cX1_weighedFar 4 (some .int) ∈ gd_tbl := ⟨⟨in_gd (i := 543) (by decide +kernel) rfl, in_gd (i := 33) (by decide +kernel) rfl⟩, in_gd (i := 84) (by decide +kernel) rfl, in_gd (i := 544) (by decide +kernel) rfl⟩
theorem yo_X1_weighedFar : yOk yX1_weighedFar 1 := ⟨by decide, by decide, by decide +kernel⟩
theorem l_X1_223 : mlV RX1 223 yX1_weighedFar cX1_weighedFar 4 (some .int) := ⟨in_gd (i := 541) (by decide +kernel) rfl, mt_X1_weighedFar⟩
theorem k_X1_226 : Cond.constant RX1 226 (Int32.ofInt 2147483646) ∈ gd_tbl := in_gd (i := 554) (by decide +kernel) rfl
theorem k_X1_227 : Cond.constantLong RX1 227 (Int64.ofInt 48271) ∈ gd_tbl := in_gd (i := 555) (by decide +kernel) rfl
theorem k_X1_229 : Cond.constantLong RX1 229 (Int64.ofInt 2147483647) ∈ gd_tbl := in_gd (i := 556) (by decide +kernel) rfl
theorem mt_X1_deedByLot : (Cond.instanceMethod yX1_deedByLot ∈ gd_tbl ∧ Cond.selects yX1_deedByLot.cls yX1_deedByLot yX1_deedByLot ∈ gd_tbl) ∧ Cond.initialized yX1_deedByLot.cls ∈ gd_tbl ∧ Cond.code yX1_deedByLot cX1_deedByLot 5 (some .int) ∈ gd_tbl := ⟨⟨in_gd (i := 559) (by decide +kernel) rfl, in_gd (i := 34) (by decide +kernel) rfl⟩, in_gd (i := 84) (by decide +kernel) rfl, in_gd (i := 560) (by decide +kernel) rfl⟩
theorem yo_X1_deedByLot : yOk yX1_deedByLot 1 := ⟨by decide, by decide, by decide +kernel⟩
theorem l_X1_231 : mlV RX1 231 yX1_deedByLot cX1_deedByLot 5 (some .int) := ⟨in_gd (i := 557) (by decide +kernel) rfl, mt_X1_deedByLot⟩
theorem fl_X1_234 : FLk RX1 234 0 6 := Or.inr ⟨"DareFord", in_ns (i := 121) (by decide +kernel) rfl⟩
theorem mt_X1_bitOf : Cond.static yX1_bitOf ∈ gd_tbl ∧ Cond.initialized yX1_bitOf.cls ∈ gd_tbl ∧ Cond.code yX1_bitOf cX1_bitOf 1 (some .int) ∈ gd_tbl := ⟨in_gd (i := 578) (by decide +kernel) rfl, in_gd (i := 84) (by decide +kernel) rfl, in_gd (i := 579) (by decide +kernel) rfl⟩
theorem yo_X1_bitOf : yOk yX1_bitOf 1 := ⟨by decide, by decide, by decide +kernel⟩
theorem l_X1_237 : mlS RX1 237 yX1_bitOf cX1_bitOf 1 (some .int) := ⟨in_gd (i := 577) (by decide +kernel) rfl, mt_X1_bitOf⟩
theorem mt_X0_allCrossings : (Cond.instanceMethod yX0_allCrossings ∈ gd_tbl ∧ Cond.selects yX0_allCrossings.cls yX0_allCrossings yX0_allCrossings ∈ gd_tbl) ∧ Cond.initialized yX0_allCrossings.cls ∈ gd_tbl ∧ Cond.code yX0_allCrossings cX0_allCrossings 3 (some .int) ∈ gd_tbl := ⟨⟨in_gd (i := 582) (by decide +kernel) rfl, in_gd (i := 35) (by decide +kernel) rfl⟩, in_gd (i := 85) (by decide +kernel) rfl, in_gd (i := 583) (by decide +kernel) rfl⟩
theorem yo_X0_allCrossings : yOk yX0_allCrossings 0 := ⟨by decide, by decide, by decide +kernel⟩
theorem l_X1_240 : mlW RX1 240 yX0_allCrossings cX0_allCrossings 3 (some .int) "DareFord" := ⟨in_ns (i := 580) (by decide +kernel) rfl, mt_X0_allCrossings⟩
theorem mt_X0_howManyOf : (Cond.instanceMethod yX0_howManyOf ∈ gd_tbl ∧ Cond.selects yX0_howManyOf.cls yX0_howManyOf yX0_howManyOf ∈ gd_tbl) ∧ Cond.initialized yX0_howManyOf.cls ∈ gd_tbl ∧ Cond.code yX0_howManyOf cX0_howManyOf 4 (some .int) ∈ gd_tbl := ⟨⟨in_gd (i := 586) (by decide +kernel) rfl, in_gd (i := 36) (by decide +kernel) rfl⟩, in_gd (i := 85) (by decide +kernel) rfl, in_gd (i := 587) (by decide +kernel) rfl⟩
theorem yo_X0_howManyOf : yOk yX0_howManyOf 1 := ⟨by decide, by decide, by decide +kernel⟩
theorem l_X1_243 : mlW RX1 243 yX0_howManyOf cX0_howManyOf 4 (some .int) "DareFord" := ⟨in_ns (i := 584) (by decide +kernel) rfl, mt_X0_howManyOf⟩
theorem mt_X1_howManyThere : Cond.static yX1_howManyThere ∈ gd_tbl ∧ Cond.initialized yX1_howManyThere.cls ∈ gd_tbl ∧ Cond.code yX1_howManyThere cX1_howManyThere 6 (some .int) ∈ gd_tbl := ⟨in_gd (i := 590) (by decide +kernel) rfl, in_gd (i := 84) (by decide +kernel) rfl, in_gd (i := 591) (by decide +kernel) rfl⟩
theorem yo_X1_howManyThere : yOk yX1_howManyThere 1 := ⟨by decide, by decide, by decide +kernel⟩
theorem l_X1_246 : mlS RX1 246 yX1_howManyThere cX1_howManyThere 6 (some .int) := ⟨in_gd (i := 589) (by decide +kernel) rfl, mt_X1_howManyThere⟩
def fX1_weighedFar_L23 (μ : Mem) (p1 : Int) : Nat → Int → Int → Option Int
  | 0, _, _ => none
  | n4 + 1, x2, x3 =>
    if (μ 20 4) ≤ x3 then
      some x2
    else
      grd (0 ≤ x3 ∧ x3 < 7) <|
      grd (0 ≤ x3 ∧ x3 < 6) <|
      mlet ((w32 (x2 + (w32 ((μ 38 (x3).toNat) * (mabs (w32 ((μ 22 (x3).toNat) - p1)))))))) fun x5 =>
      mlet (w32 (x3 + 1)) fun x6 =>
      fX1_weighedFar_L23 μ p1 n4 x5 x6
def fX1_weighedFar (p1 : Int) (μ : Mem) : Option Int :=
  mlet ((w32 ((μ 38 6) * (mabs (w32 ((μ 20 5) - p1)))))) fun x1 =>
  fX1_weighedFar_L23 μ p1 fuel x1 0
theorem K_X1_weighedFar  (p1 : Int)  (μ : Mem) : Con yX1_weighedFar cX1_weighedFar 4 (some .int) 2 [.inr (.inr 0), .inl p1] μ (fX1_weighedFar p1 μ) (rI μ) := by
  refine con_of (own := RX1) (by decide) rfl (Nat.le_of_ble_eq_true rfl) ?_
  show Sim cX1_weighedFar 4 RX1 (2) (some .int) (rI μ) 0 [(0, .inr (.inr 0)), (1, .inl p1)] [] μ (fX1_weighedFar p1 μ)
  unfold fX1_weighedFar
  refine S_aload_n dX1_weighedFar_0 rfl ?_
  refine S_getR (c1 := 38) dX1_weighedFar_1 rfl fl_X1_71 rfl rfl rfl ?_
  refine S_bipush dX1_weighedFar_4 rfl (by decide) ?_
  refine S_ialdK (k := 6) dX1_weighedFar_6 rfl (by decide) (by decide) ?_
  refine S_aload_n dX1_weighedFar_7 rfl ?_
  refine S_getR (c1 := 20) dX1_weighedFar_8 rfl fl_X1_33 rfl rfl rfl ?_
  refine S_getI dX1_weighedFar_11 rfl fl_X1_178 rfl rfl ?_
  refine S_iload_n dX1_weighedFar_14 rfl ?_
  refine S_isub dX1_weighedFar_15 ?_
  refine S_mabs dX1_weighedFar_16 jl_X1_311 jm_abs jm_M jc_abs rfl rfl ?_
  refine S_imul dX1_weighedFar_19 ?_
  refine S_let (fun x1 => ?_)
  refine S_istore_n (lv' := [(2, .inl x1), (0, .inr (.inr 0)), (1, .inl p1)]) dX1_weighedFar_20 rfl rfl ?_
  refine S_iconst dX1_weighedFar_21 rfl ?_
  refine S_istore_n (lv' := [(3, .inl 0), (2, .inl x1), (0, .inr (.inr 0)), (1, .inl p1)]) dX1_weighedFar_22 rfl rfl ?_
  have hL23 : ∀ (n4 : Nat) (x2 : Int) (x3 : Int), Sim cX1_weighedFar 4 RX1 (2) (some .int) (rI μ) 23 [(0, .inr (.inr 0)), (1, .inl p1), (2, .inl x2), (3, .inl x3)] [] μ (fX1_weighedFar_L23 μ p1 n4 x2 x3) := by
    intro n4
    induction n4 with
    | zero =>
      intro x2 x3
      exact S_none rfl
    | succ n4 ih =>
      intro x2 x3
      rw [fX1_weighedFar_L23]
      refine S_iload_n dX1_weighedFar_23 rfl ?_
      refine S_aload_n dX1_weighedFar_24 rfl ?_
      refine S_getR (c1 := 20) dX1_weighedFar_25 rfl fl_X1_33 rfl rfl rfl ?_
      refine S_getI dX1_weighedFar_28 rfl fl_X1_122 rfl rfl ?_
      refine S_ic_ge (tgt := 64) dX1_weighedFar_31 (by decide) (fun h7 => ?_) (fun h7 => ?_)
      · refine S_iload_n dX1_weighedFar_64 rfl ?_
        exact S_iret dX1_weighedFar_65 rfl rfl
      · refine S_iload_n dX1_weighedFar_34 rfl ?_
        refine S_aload_n dX1_weighedFar_35 rfl ?_
        refine S_getR (c1 := 38) dX1_weighedFar_36 rfl fl_X1_71 rfl rfl rfl ?_
        refine S_iload_n dX1_weighedFar_39 rfl ?_
        refine S_iald (N := 7) dX1_weighedFar_40 rfl (by decide) rfl ?_
        refine S_aload_n dX1_weighedFar_41 rfl ?_
        refine S_getR (c1 := 20) dX1_weighedFar_42 rfl fl_X1_33 rfl rfl rfl ?_
        refine S_getR (c1 := 22) dX1_weighedFar_45 rfl fl_X1_162 rfl rfl rfl ?_
        refine S_iload_n dX1_weighedFar_48 rfl ?_
        refine S_iald (N := 6) dX1_weighedFar_49 rfl (by decide) rfl ?_
        refine S_iload_n dX1_weighedFar_50 rfl ?_
        refine S_isub dX1_weighedFar_51 ?_
        refine S_mabs dX1_weighedFar_52 jl_X1_311 jm_abs jm_M jc_abs rfl rfl ?_
        refine S_imul dX1_weighedFar_55 ?_
        refine S_iadd dX1_weighedFar_56 ?_
        refine S_let (fun x5 => ?_)
        refine S_istore_n (lv' := [(2, .inl x5), (0, .inr (.inr 0)), (1, .inl p1), (3, .inl x3)]) dX1_weighedFar_57 rfl rfl ?_
        refine S_iinc (lv' := fun x6 => [(3, .inl x6), (2, .inl x5), (0, .inr (.inr 0)), (1, .inl p1)]) dX1_weighedFar_58 rfl rfl rfl (fun _ => rfl) (fun x6 => ?_)
        refine S_goto (tgt := 23) dX1_weighedFar_61 (by decide) ?_
        exact S_sub [2, 3, 1, 0] rfl (ih x5 x6)
  exact S_sub [2, 3, 1, 0] rfl (hL23 fuel x1 0)
def fX1_mid (p1 : Int) (p2 : Int) (μ : Mem) : Option (Int × Mem) :=
  (fX1_isPlace p1 μ).bind fun x1 =>
  if x1 = 0 then
    some ((-1), μ)
  else
    (fX1_isWithin p2 0 12 μ).bind fun x2 =>
    if ¬ x2 = 0 then
      if ¬ (μ 20 4) = 0 then
        (fX1_weigh p2 μ).bind fun μ3 =>
        (fX1_weighedFar p1 μ3).bind fun x4 =>
        (fX1_allWeight μ3).bind fun x5 =>
        (fX1_tellRatio x4 x5 μ3).bind fun μ6 =>
        some (1, μ6)
      else
        some ((-4), μ)
    else
      some ((-1), μ)
theorem K_X1_mid  (p1 : Int) (p2 : Int)  (μ : Mem) : Con yX1_mid cX1_mid 3 (some .int) 7 [.inr (.inr 0), .inl p1, .inl p2] μ (fX1_mid p1 p2 μ) wI := by
  refine con_of (own := RX1) (by decide) rfl (Nat.le_of_ble_eq_true rfl) ?_
  show Sim cX1_mid 3 RX1 (7) (some .int) wI 0 [(0, .inr (.inr 0)), (1, .inl p1), (2, .inl p2)] [] μ (fX1_mid p1 p2 μ)
  unfold fX1_mid
  refine S_iload_n dX1_mid_0 rfl ?_
  refine S_callS_I dX1_mid_1 [.inl p1] (K_X1_isPlace p1 μ) l_X1_159 yo_X1_isPlace rfl rfl rfl (fun x1 => ?_)
  refine S_if_eq (tgt := 17) dX1_mid_4 (by decide) (fun h9 => ?_) (fun h9 => ?_)
  · refine S_iconst dX1_mid_17 rfl ?_
    exact S_iret dX1_mid_18 rfl rfl
  · refine S_iload_n dX1_mid_7 rfl ?_
    refine S_iconst dX1_mid_8 rfl ?_
    refine S_bipush dX1_mid_9 rfl (by decide) ?_
    refine S_callS_I dX1_mid_11 [.inl p2, .inl 0, .inl 12] (K_X1_isWithin p2 0 12 μ) l_X1_128 yo_X1_isWithin rfl rfl rfl (fun x2 => ?_)
    refine S_if_ne (tgt := 19) dX1_mid_14 (by decide) (fun h8 => ?_) (fun h8 => ?_)
    · refine S_aload_n dX1_mid_19 rfl ?_
      refine S_getR (c1 := 20) dX1_mid_20 rfl fl_X1_33 rfl rfl rfl ?_
      refine S_getI dX1_mid_23 rfl fl_X1_122 rfl rfl ?_
      refine S_if_ne (tgt := 32) dX1_mid_26 (by decide) (fun h7 => ?_) (fun h7 => ?_)
      · refine S_aload_n dX1_mid_32 rfl ?_
        refine S_iload_n dX1_mid_33 rfl ?_
        refine S_callV_V dX1_mid_34 [.inl p2] (K_X1_weigh p2 μ) l_X1_217 yo_X1_weigh rfl rfl rfl rfl rfl (fun μ3 => ?_)
        refine S_aload_n dX1_mid_37 rfl ?_
        refine S_aload_n dX1_mid_38 rfl ?_
        refine S_iload_n dX1_mid_39 rfl ?_
        refine S_callV_I dX1_mid_40 [.inl p1] (K_X1_weighedFar p1 μ3) l_X1_223 yo_X1_weighedFar rfl rfl rfl rfl rfl (fun x4 => ?_)
        refine S_i2l dX1_mid_43 ?_
        refine S_aload_n dX1_mid_44 rfl ?_
        refine S_callV_I dX1_mid_45 [] (K_X1_allWeight μ3) l_X1_220 yo_X1_allWeight rfl rfl rfl rfl rfl (fun x5 => ?_)
        refine S_i2l dX1_mid_48 ?_
        refine S_callV_V dX1_mid_49 [.inr (.inl x4), .inr (.inl x5)] (K_X1_tellRatio x4 x5 μ3) l_X1_209 yo_X1_tellRatio rfl rfl rfl rfl rfl (fun μ6 => ?_)
        refine S_iconst dX1_mid_52 rfl ?_
        exact S_iret dX1_mid_53 rfl rfl
      · refine S_bipush dX1_mid_29 rfl (by decide) ?_
        exact S_iret dX1_mid_31 rfl rfl
    · refine S_iconst dX1_mid_17 rfl ?_
      exact S_iret dX1_mid_18 rfl rfl
def fX1_fair_L34 (K4 : Int → Option (Int × Mem)) (μ2 : Mem) : Nat → Int → Int → Option (Int × Mem)
  | 0, _, _ => none
  | n10 + 1, x8, x9 =>
    if 9 < x9 then
      K4 x8
    else
      (fX1_weighedFar x9 μ2).bind fun x11 =>
      (fX1_weighedFar x8 μ2).bind fun x12 =>
      mlet (fun (x13 : Int) =>
        mlet (w32 (x9 + 1)) fun x15 =>
        fX1_fair_L34 K4 μ2 n10 x13 x15
        ) fun (K14 : Int → Option (Int × Mem)) =>
      if x12 ≤ x11 then
        K14 x8
      else
        K14 x9
def fX1_fair (p1 : Int) (μ : Mem) : Option (Int × Mem) :=
  (fX1_isWithin p1 0 12 μ).bind fun x1 =>
  if ¬ x1 = 0 then
    if ¬ (μ 20 4) = 0 then
      (fX1_weigh p1 μ).bind fun μ2 =>
      mlet (fun (x3 : Int) =>
        (fX1_weighedFar x3 μ2).bind fun x5 =>
        (fX1_allWeight μ2).bind fun x6 =>
        (fX1_tellRatio x5 x6 μ2).bind fun μ7 =>
        some (x3, μ7)
        ) fun (K4 : Int → Option (Int × Mem)) =>
      fX1_fair_L34 K4 μ2 fuel 0 1
    else
      some ((-4), μ)
  else
    some ((-1), μ)
theorem K_X1_fair  (p1 : Int)  (μ : Mem) : Con yX1_fair cX1_fair 4 (some .int) 7 [.inr (.inr 0), .inl p1] μ (fX1_fair p1 μ) wI := by
  refine con_of (own := RX1) (by decide) rfl (Nat.le_of_ble_eq_true rfl) ?_
  show Sim cX1_fair 4 RX1 (7) (some .int) wI 0 [(0, .inr (.inr 0)), (1, .inl p1)] [] μ (fX1_fair p1 μ)
  unfold fX1_fair
  refine S_iload_n dX1_fair_0 rfl ?_
  refine S_iconst dX1_fair_1 rfl ?_
  refine S_bipush dX1_fair_2 rfl (by decide) ?_
  refine S_callS_I dX1_fair_4 [.inl p1, .inl 0, .inl 12] (K_X1_isWithin p1 0 12 μ) l_X1_128 yo_X1_isWithin rfl rfl rfl (fun x1 => ?_)
  refine S_if_ne (tgt := 12) dX1_fair_7 (by decide) (fun h19 => ?_) (fun h19 => ?_)
  · refine S_aload_n dX1_fair_12 rfl ?_
    refine S_getR (c1 := 20) dX1_fair_13 rfl fl_X1_33 rfl rfl rfl ?_
    refine S_getI dX1_fair_16 rfl fl_X1_122 rfl rfl ?_
    refine S_if_ne (tgt := 25) dX1_fair_19 (by decide) (fun h18 => ?_) (fun h18 => ?_)
    · refine S_aload_n dX1_fair_25 rfl ?_
      refine S_iload_n dX1_fair_26 rfl ?_
      refine S_callV_V dX1_fair_27 [.inl p1] (K_X1_weigh p1 μ) l_X1_217 yo_X1_weigh rfl rfl rfl rfl rfl (fun μ2 => ?_)
      refine S_iconst dX1_fair_30 rfl ?_
      refine S_istore_n (lv' := [(2, .inl 0), (0, .inr (.inr 0)), (1, .inl p1)]) dX1_fair_31 rfl rfl ?_
      refine S_iconst dX1_fair_32 rfl ?_
      refine S_istore_n (lv' := [(3, .inl 1), (2, .inl 0), (0, .inr (.inr 0)), (1, .inl p1)]) dX1_fair_33 rfl rfl ?_
      refine S_jn (fun (K4 : Int → Option (Int × Mem)) => ∀ (x3 : Int), Sim cX1_fair 4 RX1 (7) (some .int) wI 61 [(0, .inr (.inr 0)), (2, .inl x3)] [] μ2 (K4 x3)) ?_ (fun K4 hK4 => ?_)
      · intro x3
        refine S_aload_n dX1_fair_61 rfl ?_
        refine S_aload_n dX1_fair_62 rfl ?_
        refine S_iload_n dX1_fair_63 rfl ?_
        refine S_callV_I dX1_fair_64 [.inl x3] (K_X1_weighedFar x3 μ2) l_X1_223 yo_X1_weighedFar rfl rfl rfl rfl rfl (fun x5 => ?_)
        refine S_i2l dX1_fair_67 ?_
        refine S_aload_n dX1_fair_68 rfl ?_
        refine S_callV_I dX1_fair_69 [] (K_X1_allWeight μ2) l_X1_220 yo_X1_allWeight rfl rfl rfl rfl rfl (fun x6 => ?_)
        refine S_i2l dX1_fair_72 ?_
        refine S_callV_V dX1_fair_73 [.inr (.inl x5), .inr (.inl x6)] (K_X1_tellRatio x5 x6 μ2) l_X1_209 yo_X1_tellRatio rfl rfl rfl rfl rfl (fun μ7 => ?_)
        refine S_iload_n dX1_fair_76 rfl ?_
        exact S_iret dX1_fair_77 rfl rfl
      have hL34 : ∀ (n10 : Nat) (x8 : Int) (x9 : Int), Sim cX1_fair 4 RX1 (7) (some .int) wI 34 [(0, .inr (.inr 0)), (2, .inl x8), (3, .inl x9)] [] μ2 (fX1_fair_L34 K4 μ2 n10 x8 x9) := by
        intro n10
        induction n10 with
        | zero =>
          intro x8 x9
          exact S_none rfl
        | succ n10 ih =>
          intro x8 x9
          rw [fX1_fair_L34]
          refine S_iload_n dX1_fair_34 rfl ?_
          refine S_bipush dX1_fair_35 rfl (by decide) ?_
          refine S_ic_gt (tgt := 61) dX1_fair_37 (by decide) (fun h17 => ?_) (fun h17 => ?_)
          · exact S_sub [0, 1] rfl (hK4 x8)
          · refine S_aload_n dX1_fair_40 rfl ?_
            refine S_iload_n dX1_fair_41 rfl ?_
            refine S_callV_I dX1_fair_42 [.inl x9] (K_X1_weighedFar x9 μ2) l_X1_223 yo_X1_weighedFar rfl rfl rfl rfl rfl (fun x11 => ?_)
            refine S_aload_n dX1_fair_45 rfl ?_
            refine S_iload_n dX1_fair_46 rfl ?_
            refine S_callV_I dX1_fair_47 [.inl x8] (K_X1_weighedFar x8 μ2) l_X1_223 yo_X1_weighedFar rfl rfl rfl rfl rfl (fun x12 => ?_)
            refine S_jn (fun (K14 : Int → Option (Int × Mem)) => ∀ (x13 : Int), Sim cX1_fair 4 RX1 (7) (some .int) wI 55 [(0, .inr (.inr 0)), (2, .inl x13), (3, .inl x9)] [] μ2 (K14 x13)) ?_ (fun K14 hK14 => ?_)
            · intro x13
              refine S_iinc (lv' := fun x15 => [(3, .inl x15), (0, .inr (.inr 0)), (2, .inl x13)]) dX1_fair_55 rfl rfl rfl (fun _ => rfl) (fun x15 => ?_)
              refine S_goto (tgt := 34) dX1_fair_58 (by decide) ?_
              exact S_sub [1, 2, 0] rfl (ih x13 x15)
            refine S_ic_ge (tgt := 55) dX1_fair_50 (by decide) (fun h16 => ?_) (fun h16 => ?_)
            · exact S_sub [0, 1, 2] rfl (hK14 x8)
            · refine S_iload_n dX1_fair_53 rfl ?_
              refine S_istore_n (lv' := [(2, .inl x9), (0, .inr (.inr 0)), (3, .inl x9)]) dX1_fair_54 rfl rfl ?_
              exact S_sub [1, 0, 2] rfl (hK14 x9)
      exact S_sub [2, 1, 0] rfl (hL34 fuel 0 1)
    · refine S_bipush dX1_fair_22 rfl (by decide) ?_
      exact S_iret dX1_fair_24 rfl rfl
  · refine S_iconst dX1_fair_10 rfl ?_
    exact S_iret dX1_fair_11 rfl rfl
def fX1_deedByLot (p1 : Int) (μ : Mem) : Option Int :=
  mlet (fun (x1 : Int) =>
    mlet (((w32 (p1.tdiv 8)).tmod 8)) fun x3 =>
    mlet ((w32 (p1.tdiv 64))) fun x4 =>
    if 1 < x3 then
      if ¬ x3 = 2 then
        if ¬ x3 = 3 then
          (fX1_deedOf 0 0 0 μ).bind fun x5 =>
          some x5
        else
          (fX1_deedOf 3 x1 (x4.tmod 10) μ).bind fun x6 =>
          some x6
      else
        (fX1_deedOf 2 x1 (w32 (1 + (x4.tmod 5))) μ).bind fun x8 =>
        some x8
    else
      (fX1_deedOf 1 x1 (w32 (1 + (x4.tmod 5))) μ).bind fun x10 =>
      some x10
    ) fun (K2 : Int → Option Int) =>
  if (μ 20 4) ≤ 0 then
    K2 0
  else
    grd (¬ (μ 20 4) = 0) <|
    K2 (p1.tmod (μ 20 4))
theorem K_X1_deedByLot  (p1 : Int)  (μ : Mem) : Con yX1_deedByLot cX1_deedByLot 5 (some .int) 3 [.inr (.inr 0), .inl p1] μ (fX1_deedByLot p1 μ) (rI μ) := by
  refine con_of (own := RX1) (by decide) rfl (Nat.le_of_ble_eq_true rfl) ?_
  show Sim cX1_deedByLot 5 RX1 (3) (some .int) (rI μ) 0 [(0, .inr (.inr 0)), (1, .inl p1)] [] μ (fX1_deedByLot p1 μ)
  unfold fX1_deedByLot
  refine S_aload_n dX1_deedByLot_0 rfl ?_
  refine S_getR (c1 := 20) dX1_deedByLot_1 rfl fl_X1_33 rfl rfl rfl ?_
  refine S_getI dX1_deedByLot_4 rfl fl_X1_122 rfl rfl ?_
  refine S_jn (fun (K2 : Int → Option Int) => ∀ (x1 : Int), Sim cX1_deedByLot 5 RX1 (3) (some .int) (rI μ) 23 [(1, .inl p1)] [.inl x1] μ (K2 x1)) ?_ (fun K2 hK2 => ?_)
  · intro x1
    refine S_istore_n (lv' := [(2, .inl x1), (1, .inl p1)]) dX1_deedByLot_23 rfl rfl ?_
    refine S_iload_n dX1_deedByLot_24 rfl ?_
    refine S_bipush dX1_deedByLot_25 rfl (by decide) ?_
    refine S_idivK dX1_deedByLot_27 (by decide) ?_
    refine S_bipush dX1_deedByLot_28 rfl (by decide) ?_
    refine S_iremK dX1_deedByLot_30 (by decide) ?_
    refine S_let (fun x3 => ?_)
    refine S_istore_n (lv' := [(3, .inl x3), (2, .inl x1), (1, .inl p1)]) dX1_deedByLot_31 rfl rfl ?_
    refine S_iload_n dX1_deedByLot_32 rfl ?_
    refine S_bipush dX1_deedByLot_33 rfl (by decide) ?_
    refine S_idivK dX1_deedByLot_35 (by decide) ?_
    refine S_let (fun x4 => ?_)
    refine S_istore (lv' := [(4, .inl x4), (3, .inl x3), (2, .inl x1), (1, .inl p1)]) dX1_deedByLot_36 rfl rfl ?_
    refine S_iload_n dX1_deedByLot_38 rfl ?_
    refine S_iconst dX1_deedByLot_39 rfl ?_
    refine S_ic_gt (tgt := 55) dX1_deedByLot_40 (by decide) (fun h11 => ?_) (fun h11 => ?_)
    · refine S_iload_n dX1_deedByLot_55 rfl ?_
      refine S_iconst dX1_deedByLot_56 rfl ?_
      refine S_ic_ne (tgt := 72) dX1_deedByLot_57 (by decide) (fun h9 => ?_) (fun h9 => ?_)
      · refine S_iload_n dX1_deedByLot_72 rfl ?_
        refine S_iconst dX1_deedByLot_73 rfl ?_
        refine S_ic_ne (tgt := 90) dX1_deedByLot_74 (by decide) (fun h7 => ?_) (fun h7 => ?_)
        · refine S_iconst dX1_deedByLot_90 rfl ?_
          refine S_iconst dX1_deedByLot_91 rfl ?_
          refine S_iconst dX1_deedByLot_92 rfl ?_
          refine S_callS_I dX1_deedByLot_93 [.inl 0, .inl 0, .inl 0] (K_X1_deedOf 0 0 0 μ) l_X1_148 yo_X1_deedOf rfl rfl rfl (fun x5 => ?_)
          exact S_iret dX1_deedByLot_96 rfl rfl
        · refine S_iconst dX1_deedByLot_77 rfl ?_
          refine S_iload_n dX1_deedByLot_78 rfl ?_
          refine S_iload dX1_deedByLot_79 rfl ?_
          refine S_bipush dX1_deedByLot_81 rfl (by decide) ?_
          refine S_iremK dX1_deedByLot_83 (by decide) ?_
          refine S_callS_I dX1_deedByLot_84 [.inl 3, .inl x1, .inl (x4.tmod 10)] (K_X1_deedOf 3 x1 (x4.tmod 10) μ) l_X1_148 yo_X1_deedOf rfl rfl rfl (fun x6 => ?_)
          refine S_goto (tgt := 96) dX1_deedByLot_87 (by decide) ?_
          exact S_iret dX1_deedByLot_96 rfl rfl
      · refine S_iconst dX1_deedByLot_60 rfl ?_
        refine S_iload_n dX1_deedByLot_61 rfl ?_
        refine S_iconst dX1_deedByLot_62 rfl ?_
        refine S_iload dX1_deedByLot_63 rfl ?_
        refine S_iconst dX1_deedByLot_65 rfl ?_
        refine S_iremK dX1_deedByLot_66 (by decide) ?_
        refine S_iadd dX1_deedByLot_67 ?_
        refine S_callS_I dX1_deedByLot_68 [.inl 2, .inl x1, .inl (w32 (1 + (x4.tmod 5)))] (K_X1_deedOf 2 x1 (w32 (1 + (x4.tmod 5))) μ) l_X1_148 yo_X1_deedOf rfl rfl rfl (fun x8 => ?_)
        exact S_iret dX1_deedByLot_71 rfl rfl
    · refine S_iconst dX1_deedByLot_43 rfl ?_
      refine S_iload_n dX1_deedByLot_44 rfl ?_
      refine S_iconst dX1_deedByLot_45 rfl ?_
      refine S_iload dX1_deedByLot_46 rfl ?_
      refine S_iconst dX1_deedByLot_48 rfl ?_
      refine S_iremK dX1_deedByLot_49 (by decide) ?_
      refine S_iadd dX1_deedByLot_50 ?_
      refine S_callS_I dX1_deedByLot_51 [.inl 1, .inl x1, .inl (w32 (1 + (x4.tmod 5)))] (K_X1_deedOf 1 x1 (w32 (1 + (x4.tmod 5))) μ) l_X1_148 yo_X1_deedOf rfl rfl rfl (fun x10 => ?_)
      exact S_iret dX1_deedByLot_54 rfl rfl
  refine S_if_le (tgt := 22) dX1_deedByLot_7 (by decide) (fun h12 => ?_) (fun h12 => ?_)
  · refine S_iconst dX1_deedByLot_22 rfl ?_
    exact S_sub [1] rfl (hK2 0)
  · refine S_iload_n dX1_deedByLot_10 rfl ?_
    refine S_aload_n dX1_deedByLot_11 rfl ?_
    refine S_getR (c1 := 20) dX1_deedByLot_12 rfl fl_X1_33 rfl rfl rfl ?_
    refine S_getI dX1_deedByLot_15 rfl fl_X1_122 rfl rfl ?_
    refine S_irem dX1_deedByLot_18 ?_
    refine S_goto (tgt := 23) dX1_deedByLot_19 (by decide) ?_
    exact S_sub [1] rfl (hK2 (p1.tmod (μ 20 4)))
def fX1_lots_L55 (p1 : Int) : Nat → Int → Int → Mem → Option (Int × Mem)
  | 0, _, _, _ => none
  | n6 + 1, x3, x4, μ5 =>
    if p1 ≤ x4 then
      some ((μ5 20 5), μ5)
    else
      mlet (((w64 (x3 * 48271)).tmod 2147483647)) fun x7 =>
      (fX1_deedByLot (w32 x7) μ5).bind fun x8 =>
      (fX1_perform x8 μ5).bind fun μ9 =>
      mlet (w32 (x4 + 1)) fun x10 =>
      fX1_lots_L55 p1 n6 x7 x10 μ9
def fX1_lots (p1 : Int) (p2 : Int) (μ : Mem) : Option (Int × Mem) :=
  (fX1_isWithin p1 1 20 μ).bind fun x1 =>
  if x1 = 0 then
    some ((-1), μ)
  else
    (fX1_isWithin p2 1 2147483646 μ).bind fun x2 =>
    if ¬ x2 = 0 then
      if ¬ (μ 20 4) = 0 then
        if (w32 ((μ 0 8) + p1)) ≤ 40 then
          fX1_lots_L55 p1 fuel p2 0 μ
        else
          some ((-2), μ)
      else
        some ((-4), μ)
    else
      some ((-1), μ)
theorem K_X1_lots  (p1 : Int) (p2 : Int)  (μ : Mem) : Con yX1_lots cX1_lots 6 (some .int) 9 [.inr (.inr 0), .inl p1, .inl p2] μ (fX1_lots p1 p2 μ) wI := by
  refine con_of (own := RX1) (by decide) rfl (Nat.le_of_ble_eq_true rfl) ?_
  show Sim cX1_lots 6 RX1 (9) (some .int) wI 0 [(0, .inr (.inr 0)), (1, .inl p1), (2, .inl p2)] [] μ (fX1_lots p1 p2 μ)
  unfold fX1_lots
  refine S_iload_n dX1_lots_0 rfl ?_
  refine S_iconst dX1_lots_1 rfl ?_
  refine S_bipush dX1_lots_2 rfl (by decide) ?_
  refine S_callS_I dX1_lots_4 [.inl p1, .inl 1, .inl 20] (K_X1_isWithin p1 1 20 μ) l_X1_128 yo_X1_isWithin rfl rfl rfl (fun x1 => ?_)
  refine S_if_eq (tgt := 20) dX1_lots_7 (by decide) (fun h15 => ?_) (fun h15 => ?_)
  · refine S_iconst dX1_lots_20 rfl ?_
    exact S_iret dX1_lots_21 rfl rfl
  · refine S_iload_n dX1_lots_10 rfl ?_
    refine S_iconst dX1_lots_11 rfl ?_
    refine S_ldc dX1_lots_12 rfl k_X1_226 ?_
    refine S_callS_I dX1_lots_14 [.inl p2, .inl 1, .inl 2147483646] (K_X1_isWithin p2 1 2147483646 μ) l_X1_128 yo_X1_isWithin rfl rfl rfl (fun x2 => ?_)
    refine S_if_ne (tgt := 22) dX1_lots_17 (by decide) (fun h14 => ?_) (fun h14 => ?_)
    · refine S_aload_n dX1_lots_22 rfl ?_
      refine S_getR (c1 := 20) dX1_lots_23 rfl fl_X1_33 rfl rfl rfl ?_
      refine S_getI dX1_lots_26 rfl fl_X1_122 rfl rfl ?_
      refine S_if_ne (tgt := 35) dX1_lots_29 (by decide) (fun h13 => ?_) (fun h13 => ?_)
      · refine S_aload_n dX1_lots_35 rfl ?_
        refine S_getI dX1_lots_36 rfl fl_X1_42 rfl rfl ?_
        refine S_iload_n dX1_lots_39 rfl ?_
        refine S_iadd dX1_lots_40 ?_
        refine S_bipush dX1_lots_41 rfl (by decide) ?_
        refine S_ic_le (tgt := 49) dX1_lots_43 (by decide) (fun h12 => ?_) (fun h12 => ?_)
        · refine S_iload_n dX1_lots_49 rfl ?_
          refine S_i2l dX1_lots_50 ?_
          refine S_lstore_n (lv' := [(3, .inr (.inl p2)), (0, .inr (.inr 0)), (1, .inl p1), (2, .inl p2)]) dX1_lots_51 rfl rfl ?_
          refine S_iconst dX1_lots_52 rfl ?_
          refine S_istore (lv' := [(5, .inl 0), (3, .inr (.inl p2)), (0, .inr (.inr 0)), (1, .inl p1), (2, .inl p2)]) dX1_lots_53 rfl rfl ?_
          have hL55 : ∀ (n6 : Nat) (x3 : Int) (x4 : Int) (μ5 : Mem), Sim cX1_lots 6 RX1 (9) (some .int) wI 55 [(0, .inr (.inr 0)), (1, .inl p1), (3, .inr (.inl x3)), (5, .inl x4)] [] μ5 (fX1_lots_L55 p1 n6 x3 x4 μ5) := by
            intro n6
            induction n6 with
            | zero =>
              intro x3 x4 μ5
              exact S_none rfl
            | succ n6 ih =>
              intro x3 x4 μ5
              rw [fX1_lots_L55]
              refine S_iload dX1_lots_55 rfl ?_
              refine S_iload_n dX1_lots_57 rfl ?_
              refine S_ic_ge (tgt := 87) dX1_lots_58 (by decide) (fun h11 => ?_) (fun h11 => ?_)
              · refine S_aload_n dX1_lots_87 rfl ?_
                refine S_getR (c1 := 20) dX1_lots_88 rfl fl_X1_33 rfl rfl rfl ?_
                refine S_getI dX1_lots_91 rfl fl_X1_178 rfl rfl ?_
                exact S_iret dX1_lots_94 rfl rfl
              · refine S_lload_n dX1_lots_61 rfl ?_
                refine S_ldc2 dX1_lots_62 rfl k_X1_227 ?_
                refine S_lmul dX1_lots_65 ?_
                refine S_ldc2 dX1_lots_66 rfl k_X1_229 ?_
                refine S_lremK dX1_lots_69 (by decide) ?_
                refine S_letL (fun x7 => ?_)
                refine S_lstore_n (lv' := [(3, .inr (.inl x7)), (0, .inr (.inr 0)), (1, .inl p1), (5, .inl x4)]) dX1_lots_70 rfl rfl ?_
                refine S_aload_n dX1_lots_71 rfl ?_
                refine S_aload_n dX1_lots_72 rfl ?_
                refine S_lload_n dX1_lots_73 rfl ?_
                refine S_l2i dX1_lots_74 ?_
                refine S_callV_I dX1_lots_75 [.inl (w32 x7)] (K_X1_deedByLot (w32 x7) μ5) l_X1_231 yo_X1_deedByLot rfl rfl rfl rfl rfl (fun x8 => ?_)
                refine S_callV_V dX1_lots_78 [.inl x8] (K_X1_perform x8 μ5) l_X1_152 yo_X1_perform rfl rfl rfl rfl rfl (fun μ9 => ?_)
                refine S_iinc (lv' := fun x10 => [(5, .inl x10), (3, .inr (.inl x7)), (0, .inr (.inr 0)), (1, .inl p1)]) dX1_lots_81 rfl rfl rfl (fun _ => rfl) (fun x10 => ?_)
                refine S_goto (tgt := 55) dX1_lots_84 (by decide) ?_
                exact S_sub [2, 3, 1, 0] rfl (ih x7 x10 μ9)
          exact S_sub [2, 3, 1, 0] rfl (hL55 fuel p2 0 μ)
        · refine S_bipush dX1_lots_46 rfl (by decide) ?_
          exact S_iret dX1_lots_48 rfl rfl
      · refine S_bipush dX1_lots_32 rfl (by decide) ?_
        exact S_iret dX1_lots_34 rfl rfl
    · refine S_iconst dX1_lots_20 rfl ?_
      exact S_iret dX1_lots_21 rfl rfl
def fX1_asked (μ : Mem) : Option Int :=
  some (μ 0 11)
theorem K_X1_asked    (μ : Mem) : Con yX1_asked cX1_asked 1 (some .int) 2 [.inr (.inr 0)] μ (fX1_asked  μ) (rI μ) := by
  refine con_of (own := RX1) (by decide) rfl (Nat.le_of_ble_eq_true rfl) ?_
  show Sim cX1_asked 1 RX1 (2) (some .int) (rI μ) 0 [(0, .inr (.inr 0))] [] μ (fX1_asked  μ)
  unfold fX1_asked
  refine S_aload_n dX1_asked_0 rfl ?_
  refine S_getI dX1_asked_1 rfl fl_X1_52 rfl rfl ?_
  exact S_iret dX1_asked_4 rfl rfl
def fX1_upper (μ : Mem) : Option Int :=
  some (μ 0 12)
theorem K_X1_upper    (μ : Mem) : Con yX1_upper cX1_upper 1 (some .long) 2 [.inr (.inr 0)] μ (fX1_upper  μ) (rL μ) := by
  refine con_of (own := RX1) (by decide) rfl (Nat.le_of_ble_eq_true rfl) ?_
  show Sim cX1_upper 1 RX1 (2) (some .long) (rL μ) 0 [(0, .inr (.inr 0))] [] μ (fX1_upper  μ)
  unfold fX1_upper
  refine S_aload_n dX1_upper_0 rfl ?_
  refine S_getL dX1_upper_1 rfl fl_X1_55 rfl rfl ?_
  exact S_lret dX1_upper_4 rfl rfl
def fX1_lower (μ : Mem) : Option Int :=
  some (μ 0 13)
theorem K_X1_lower    (μ : Mem) : Con yX1_lower cX1_lower 1 (some .long) 2 [.inr (.inr 0)] μ (fX1_lower  μ) (rL μ) := by
  refine con_of (own := RX1) (by decide) rfl (Nat.le_of_ble_eq_true rfl) ?_
  show Sim cX1_lower 1 RX1 (2) (some .long) (rL μ) 0 [(0, .inr (.inr 0))] [] μ (fX1_lower  μ)
  unfold fX1_lower
  refine S_aload_n dX1_lower_0 rfl ?_
  refine S_getL dX1_lower_1 rfl fl_X1_59 rfl rfl ?_
  exact S_lret dX1_lower_4 rfl rfl
def fX1_bitOf (p1 : Int) (μ : Mem) : Option Int :=
  if p1 < 0 then
    some 0
  else
    some (bshl 1 p1)
theorem K_X1_bitOf  (p1 : Int)  (μ : Mem) : Con yX1_bitOf cX1_bitOf 1 (some .int) 2 [.inl p1] μ (fX1_bitOf p1 μ) (rI μ) := by
  refine con_of (own := RX1) (by decide) rfl (Nat.le_of_ble_eq_true rfl) ?_
  show Sim cX1_bitOf 1 RX1 (2) (some .int) (rI μ) 0 [(0, .inl p1)] [] μ (fX1_bitOf p1 μ)
  unfold fX1_bitOf
  refine S_iload_n dX1_bitOf_0 rfl ?_
  refine S_if_lt (tgt := 10) dX1_bitOf_1 (by decide) (fun h1 => ?_) (fun h1 => ?_)
  · refine S_iconst dX1_bitOf_10 rfl ?_
    exact S_iret dX1_bitOf_11 rfl rfl
  · refine S_iconst dX1_bitOf_4 rfl ?_
    refine S_iload_n dX1_bitOf_5 rfl ?_
    refine S_ishl dX1_bitOf_6 ?_
    refine S_goto (tgt := 11) dX1_bitOf_7 (by decide) ?_
    exact S_iret dX1_bitOf_11 rfl rfl
def fX1_howManyThere_L10 (x1 : Int) (n1 : Nat) (μ : Mem) (p1 : Nat) : Nat → Int → Int → Option Int
  | 0, _, _ => none
  | n4 + 1, x2, x3 =>
    if x1 ≤ x3 then
      some x2
    else
      grd (0 ≤ x3 ∧ x3 < (Nat.cast n1 : Int)) <|
      mlet ((μ p1 (x3).toNat)) fun x5 =>
      mlet (fun (x6 : Int) =>
        mlet (w32 (x3 + 1)) fun x8 =>
        fX1_howManyThere_L10 x1 n1 μ p1 n4 x6 x8
        ) fun (K7 : Int → Option Int) =>
      if x5 < 0 then
        K7 x2
      else
        mlet (w32 (x2 + 1)) fun x9 =>
        K7 x9
def fX1_howManyThere (p1 : Nat) (n1 : Nat) (μ : Mem) : Option Int :=
  mlet ((Nat.cast n1 : Int)) fun x1 =>
  fX1_howManyThere_L10 x1 n1 μ p1 fuel 0 0
theorem K_X1_howManyThere {p1 : Nat} {n1 : Nat} (hp1 : kd p1 = .inl (0, n1)) (hc1 : p1 < 73) (hn1 : n1 ≤ 4000)   (μ : Mem) : Con yX1_howManyThere cX1_howManyThere 6 (some .int) 2 [.inr (.inr p1)] μ (fX1_howManyThere p1 n1 μ) (rI μ) := by
  refine con_of (own := RX1) (by decide) rfl (Nat.le_of_ble_eq_true rfl) ?_
  show Sim cX1_howManyThere 6 RX1 (2) (some .int) (rI μ) 0 [(0, .inr (.inr p1))] [] μ (fX1_howManyThere p1 n1 μ)
  unfold fX1_howManyThere
  refine S_iconst dX1_howManyThere_0 rfl ?_
  refine S_istore_n (lv' := [(1, .inl 0), (0, .inr (.inr p1))]) dX1_howManyThere_1 rfl rfl ?_
  refine S_aload_n dX1_howManyThere_2 rfl ?_
  refine S_astore_n (lv' := [(2, .inr (.inr p1)), (1, .inl 0), (0, .inr (.inr p1))]) dX1_howManyThere_3 rfl rfl ?_
  refine S_aload_n dX1_howManyThere_4 rfl ?_
  refine S_alenN dX1_howManyThere_5 hp1 hc1 (by decide) hn1 ?_
  refine S_let (fun x1 => ?_)
  refine S_istore_n (lv' := [(3, .inl x1), (2, .inr (.inr p1)), (1, .inl 0), (0, .inr (.inr p1))]) dX1_howManyThere_6 rfl rfl ?_
  refine S_iconst dX1_howManyThere_7 rfl ?_
  refine S_istore (lv' := [(4, .inl 0), (3, .inl x1), (2, .inr (.inr p1)), (1, .inl 0), (0, .inr (.inr p1))]) dX1_howManyThere_8 rfl rfl ?_
  have hL10 : ∀ (n4 : Nat) (x2 : Int) (x3 : Int), Sim cX1_howManyThere 6 RX1 (2) (some .int) (rI μ) 10 [(1, .inl x2), (2, .inr (.inr p1)), (3, .inl x1), (4, .inl x3)] [] μ (fX1_howManyThere_L10 x1 n1 μ p1 n4 x2 x3) := by
    intro n4
    induction n4 with
    | zero =>
      intro x2 x3
      exact S_none rfl
    | succ n4 ih =>
      intro x2 x3
      rw [fX1_howManyThere_L10]
      refine S_iload dX1_howManyThere_10 rfl ?_
      refine S_iload_n dX1_howManyThere_12 rfl ?_
      refine S_ic_ge (tgt := 36) dX1_howManyThere_13 (by decide) (fun h11 => ?_) (fun h11 => ?_)
      · refine S_iload_n dX1_howManyThere_36 rfl ?_
        exact S_iret dX1_howManyThere_37 rfl rfl
      · refine S_aload_n dX1_howManyThere_16 rfl ?_
        refine S_iload dX1_howManyThere_17 rfl ?_
        refine S_iald (N := (Nat.cast n1 : Int)) dX1_howManyThere_19 hp1 hc1 rfl ?_
        refine S_let (fun x5 => ?_)
        refine S_istore (lv' := [(5, .inl x5), (1, .inl x2), (2, .inr (.inr p1)), (3, .inl x1), (4, .inl x3)]) dX1_howManyThere_20 rfl rfl ?_
        refine S_iload dX1_howManyThere_22 rfl ?_
        refine S_jn (fun (K7 : Int → Option Int) => ∀ (x6 : Int), Sim cX1_howManyThere 6 RX1 (2) (some .int) (rI μ) 30 [(1, .inl x6), (2, .inr (.inr p1)), (3, .inl x1), (4, .inl x3)] [] μ (K7 x6)) ?_ (fun K7 hK7 => ?_)
        · intro x6
          refine S_iinc (lv' := fun x8 => [(4, .inl x8), (1, .inl x6), (2, .inr (.inr p1)), (3, .inl x1)]) dX1_howManyThere_30 rfl rfl rfl (fun _ => rfl) (fun x8 => ?_)
          refine S_goto (tgt := 10) dX1_howManyThere_33 (by decide) ?_
          exact S_sub [1, 2, 3, 0] rfl (ih x6 x8)
        refine S_if_lt (tgt := 30) dX1_howManyThere_24 (by decide) (fun h10 => ?_) (fun h10 => ?_)
        · exact S_sub [1, 2, 3, 4] rfl (hK7 x2)
        · refine S_iinc (lv' := fun x9 => [(1, .inl x9), (5, .inl x5), (2, .inr (.inr p1)), (3, .inl x1), (4, .inl x3)]) dX1_howManyThere_27 rfl rfl rfl (fun _ => rfl) (fun x9 => ?_)
          exact S_sub [0, 2, 3, 4] rfl (hK7 x9)
  exact S_sub [3, 2, 1, 0] rfl (hL10 fuel 0 0)
def fX1_count (p1 : Int) (μ : Mem) : Option Int :=
  if p1 = 0 then
    some (μ 20 4)
  else
    if p1 = 1 then
      some (μ 20 6)
    else
      if p1 = 2 then
        some (μ 0 8)
      else
        if p1 = 3 then
          some (μ 20 5)
        else
          if p1 = 4 then
            (fX0_holder 20 0 μ).bind fun x6 =>
            (fX1_bitOf x6 μ).bind fun x7 =>
            some x7
          else
            if p1 = 5 then
              (fX0_daringOf 20 (w32 ((bshl 1 (μ 20 4)) - 1)) μ).bind fun x9 =>
              some x9
            else
              if p1 = 6 then
                (fX0_allCrossings 20 μ).bind fun x11 =>
                some x11
              else
                if p1 = 7 then
                  (fX0_howManyOf 20 2 μ).bind fun x13 =>
                  some x13
                else
                  if p1 = 8 then
                    (fX0_howManyOf 20 3 μ).bind fun x15 =>
                    some x15
                  else
                    if p1 = 9 then
                      (fX1_howManyThere 8 6 μ).bind fun x17 =>
                      some x17
                    else
                      if p1 = 10 then
                        (fX1_howManyThere 14 4 μ).bind fun x19 =>
                        some x19
                      else
                        if p1 = 11 then
                          (fX1_howManyThere 35 3 μ).bind fun x21 =>
                          some x21
                        else
                          some (-1)
theorem K_X1_count  (p1 : Int)  (μ : Mem) : Con yX1_count cX1_count 2 (some .int) 6 [.inr (.inr 0), .inl p1] μ (fX1_count p1 μ) (rI μ) := by
  refine con_of (own := RX1) (by decide) rfl (Nat.le_of_ble_eq_true rfl) ?_
  show Sim cX1_count 2 RX1 (6) (some .int) (rI μ) 0 [(0, .inr (.inr 0)), (1, .inl p1)] [] μ (fX1_count p1 μ)
  unfold fX1_count
  refine S_iload_n dX1_count_0 rfl ?_
  refine S_if (fun h1 => ?_) (fun h1 => ?_)
  · refine S_tsIn (n := 0) (tgt := 64) dX1_count_1 h1 (by decide) (by decide) rfl (by decide) ?_
    refine S_aload_n dX1_count_64 rfl ?_
    refine S_getR (c1 := 20) dX1_count_65 rfl fl_X1_33 rfl rfl rfl ?_
    refine S_getI dX1_count_68 rfl fl_X1_122 rfl rfl ?_
    exact S_iret dX1_count_71 rfl rfl
  · refine S_if (fun h2 => ?_) (fun h2 => ?_)
    · refine S_tsIn (n := 1) (tgt := 72) dX1_count_1 h2 (by decide) (by decide) rfl (by decide) ?_
      refine S_aload_n dX1_count_72 rfl ?_
      refine S_getR (c1 := 20) dX1_count_73 rfl fl_X1_33 rfl rfl rfl ?_
      refine S_getI dX1_count_76 rfl fl_X1_234 rfl rfl ?_
      exact S_iret dX1_count_79 rfl rfl
    · refine S_if (fun h3 => ?_) (fun h3 => ?_)
      · refine S_tsIn (n := 2) (tgt := 80) dX1_count_1 h3 (by decide) (by decide) rfl (by decide) ?_
        refine S_aload_n dX1_count_80 rfl ?_
        refine S_getI dX1_count_81 rfl fl_X1_42 rfl rfl ?_
        exact S_iret dX1_count_84 rfl rfl
      · refine S_if (fun h4 => ?_) (fun h4 => ?_)
        · refine S_tsIn (n := 3) (tgt := 85) dX1_count_1 h4 (by decide) (by decide) rfl (by decide) ?_
          refine S_aload_n dX1_count_85 rfl ?_
          refine S_getR (c1 := 20) dX1_count_86 rfl fl_X1_33 rfl rfl rfl ?_
          refine S_getI dX1_count_89 rfl fl_X1_178 rfl rfl ?_
          exact S_iret dX1_count_92 rfl rfl
        · refine S_if (fun h5 => ?_) (fun h5 => ?_)
          · refine S_tsIn (n := 4) (tgt := 93) dX1_count_1 h5 (by decide) (by decide) rfl (by decide) ?_
            refine S_aload_n dX1_count_93 rfl ?_
            refine S_getR (c1 := 20) dX1_count_94 rfl fl_X1_33 rfl rfl rfl ?_
            refine S_iconst dX1_count_97 rfl ?_
            refine S_callW_I dX1_count_98 [.inl 0] (K_X0_holder (by unfold isBk; decide) 0 μ) l_X1_145 yo_X0_holder rfl rfl rfl rfl rfl (fun x6 => ?_)
            refine S_callS_I dX1_count_101 [.inl x6] (K_X1_bitOf x6 μ) l_X1_237 yo_X1_bitOf rfl rfl rfl (fun x7 => ?_)
            exact S_iret dX1_count_104 rfl rfl
          · refine S_if (fun h8 => ?_) (fun h8 => ?_)
            · refine S_tsIn (n := 5) (tgt := 105) dX1_count_1 h8 (by decide) (by decide) rfl (by decide) ?_
              refine S_aload_n dX1_count_105 rfl ?_
              refine S_getR (c1 := 20) dX1_count_106 rfl fl_X1_33 rfl rfl rfl ?_
              refine S_iconst dX1_count_109 rfl ?_
              refine S_aload_n dX1_count_110 rfl ?_
              refine S_getR (c1 := 20) dX1_count_111 rfl fl_X1_33 rfl rfl rfl ?_
              refine S_getI dX1_count_114 rfl fl_X1_122 rfl rfl ?_
              refine S_ishl dX1_count_117 ?_
              refine S_iconst dX1_count_118 rfl ?_
              refine S_isub dX1_count_119 ?_
              refine S_callW_I dX1_count_120 [.inl (w32 ((bshl 1 (μ 20 4)) - 1))] (K_X0_daringOf (by unfold isBk; decide) (w32 ((bshl 1 (μ 20 4)) - 1)) μ) l_X1_206 yo_X0_daringOf rfl rfl rfl rfl rfl (fun x9 => ?_)
              exact S_iret dX1_count_123 rfl rfl
            · refine S_if (fun h10 => ?_) (fun h10 => ?_)
              · refine S_tsIn (n := 6) (tgt := 124) dX1_count_1 h10 (by decide) (by decide) rfl (by decide) ?_
                refine S_aload_n dX1_count_124 rfl ?_
                refine S_getR (c1 := 20) dX1_count_125 rfl fl_X1_33 rfl rfl rfl ?_
                refine S_callW_I dX1_count_128 [] (K_X0_allCrossings (by unfold isBk; decide) μ) l_X1_240 yo_X0_allCrossings rfl rfl rfl rfl rfl (fun x11 => ?_)
                exact S_iret dX1_count_131 rfl rfl
              · refine S_if (fun h12 => ?_) (fun h12 => ?_)
                · refine S_tsIn (n := 7) (tgt := 132) dX1_count_1 h12 (by decide) (by decide) rfl (by decide) ?_
                  refine S_aload_n dX1_count_132 rfl ?_
                  refine S_getR (c1 := 20) dX1_count_133 rfl fl_X1_33 rfl rfl rfl ?_
                  refine S_iconst dX1_count_136 rfl ?_
                  refine S_callW_I dX1_count_137 [.inl 2] (K_X0_howManyOf (by unfold isBk; decide) 2 μ) l_X1_243 yo_X0_howManyOf rfl rfl rfl rfl rfl (fun x13 => ?_)
                  exact S_iret dX1_count_140 rfl rfl
                · refine S_if (fun h14 => ?_) (fun h14 => ?_)
                  · refine S_tsIn (n := 8) (tgt := 141) dX1_count_1 h14 (by decide) (by decide) rfl (by decide) ?_
                    refine S_aload_n dX1_count_141 rfl ?_
                    refine S_getR (c1 := 20) dX1_count_142 rfl fl_X1_33 rfl rfl rfl ?_
                    refine S_iconst dX1_count_145 rfl ?_
                    refine S_callW_I dX1_count_146 [.inl 3] (K_X0_howManyOf (by unfold isBk; decide) 3 μ) l_X1_243 yo_X0_howManyOf rfl rfl rfl rfl rfl (fun x15 => ?_)
                    exact S_iret dX1_count_149 rfl rfl
                  · refine S_if (fun h16 => ?_) (fun h16 => ?_)
                    · refine S_tsIn (n := 9) (tgt := 150) dX1_count_1 h16 (by decide) (by decide) rfl (by decide) ?_
                      refine S_aload_n dX1_count_150 rfl ?_
                      refine S_getR (c1 := 8) dX1_count_151 rfl fl_X1_14 rfl rfl rfl ?_
                      refine S_callS_I dX1_count_154 [.inr (.inr 8)] (K_X1_howManyThere rfl (by decide) (by decide) μ) l_X1_246 yo_X1_howManyThere rfl rfl rfl (fun x17 => ?_)
                      exact S_iret dX1_count_157 rfl rfl
                    · refine S_if (fun h18 => ?_) (fun h18 => ?_)
                      · refine S_tsIn (n := 10) (tgt := 158) dX1_count_1 h18 (by decide) (by decide) rfl (by decide) ?_
                        refine S_aload_n dX1_count_158 rfl ?_
                        refine S_getR (c1 := 14) dX1_count_159 rfl fl_X1_23 rfl rfl rfl ?_
                        refine S_callS_I dX1_count_162 [.inr (.inr 14)] (K_X1_howManyThere rfl (by decide) (by decide) μ) l_X1_246 yo_X1_howManyThere rfl rfl rfl (fun x19 => ?_)
                        exact S_iret dX1_count_165 rfl rfl
                      · refine S_if (fun h20 => ?_) (fun h20 => ?_)
                        · refine S_tsIn (n := 11) (tgt := 166) dX1_count_1 h20 (by decide) (by decide) rfl (by decide) ?_
                          refine S_aload_n dX1_count_166 rfl ?_
                          refine S_getR (c1 := 35) dX1_count_167 rfl fl_X1_49 rfl rfl rfl ?_
                          refine S_callS_I dX1_count_170 [.inr (.inr 35)] (K_X1_howManyThere rfl (by decide) (by decide) μ) l_X1_246 yo_X1_howManyThere rfl rfl rfl (fun x21 => ?_)
                          exact S_iret dX1_count_173 rfl rfl
                        · refine S_tsD (tgt := 174) [0, 1, 2, 3, 4, 5, 6, 7, 8, 9, 10, 11] dX1_count_1 (by decide) (by decide) (by intro v9 h9 e9; simp only [List.mem_cons, List.not_mem_nil, or_false] at h9; omega) ?_
                          refine S_iconst dX1_count_174 rfl ?_
                          exact S_iret dX1_count_175 rfl rfl
def fX1_finding (μ : Mem) : Option Int :=
  some (μ 0 14)
theorem K_X1_finding    (μ : Mem) : Con yX1_finding cX1_finding 1 (some .int) 2 [.inr (.inr 0)] μ (fX1_finding  μ) (rI μ) := by
  refine con_of (own := RX1) (by decide) rfl (Nat.le_of_ble_eq_true rfl) ?_
  show Sim cX1_finding 1 RX1 (2) (some .int) (rI μ) 0 [(0, .inr (.inr 0))] [] μ (fX1_finding  μ)
  unfold fX1_finding
  refine S_aload_n dX1_finding_0 rfl ?_
  refine S_getI dX1_finding_1 rfl fl_X1_62 rfl rfl ?_
  exact S_iret dX1_finding_4 rfl rfl
def fX1_findings (p1 : Int) (μ : Mem) : Option Int :=
  (fX1_isWithin p1 1 5 μ).bind fun x1 =>
  if x1 = 0 then
    some (-1)
  else
    grd (0 ≤ p1 ∧ p1 < 6) <|
    some (μ 36 (p1).toNat)
theorem K_X1_findings  (p1 : Int)  (μ : Mem) : Con yX1_findings cX1_findings 2 (some .int) 3 [.inr (.inr 0), .inl p1] μ (fX1_findings p1 μ) (rI μ) := by
  refine con_of (own := RX1) (by decide) rfl (Nat.le_of_ble_eq_true rfl) ?_
  show Sim cX1_findings 2 RX1 (3) (some .int) (rI μ) 0 [(0, .inr (.inr 0)), (1, .inl p1)] [] μ (fX1_findings p1 μ)
  unfold fX1_findings
  refine S_iload_n dX1_findings_0 rfl ?_
  refine S_iconst dX1_findings_1 rfl ?_
  refine S_iconst dX1_findings_2 rfl ?_
  refine S_callS_I dX1_findings_3 [.inl p1, .inl 1, .inl 5] (K_X1_isWithin p1 1 5 μ) l_X1_128 yo_X1_isWithin rfl rfl rfl (fun x1 => ?_)
  refine S_if_eq (tgt := 18) dX1_findings_6 (by decide) (fun h2 => ?_) (fun h2 => ?_)
  · refine S_iconst dX1_findings_18 rfl ?_
    exact S_iret dX1_findings_19 rfl rfl
  · refine S_aload_n dX1_findings_9 rfl ?_
    refine S_getR (c1 := 36) dX1_findings_10 rfl fl_X1_65 rfl rfl rfl ?_
    refine S_iload_n dX1_findings_13 rfl ?_
    refine S_iald (N := 6) dX1_findings_14 rfl (by decide) rfl ?_
    refine S_goto (tgt := 19) dX1_findings_15 (by decide) ?_
    exact S_iret dX1_findings_19 rfl rfl
