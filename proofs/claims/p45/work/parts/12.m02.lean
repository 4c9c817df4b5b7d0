theorem dX1_readAside_0 : decode cX1_readAside 0 = .ok (.aload_n 1, 1) := by decide +kernel
theorem dX1_readAside_1 : decode cX1_readAside 1 = .ok (.iload_n 2, 1) := by decide +kernel
theorem dX1_readAside_2 : decode cX1_readAside 2 = .ok (.iconst 0, 1) := by decide +kernel
theorem dX1_readAside_3 : decode cX1_readAside 3 = .ok (.invokestatic 261, 3) := by decide +kernel
theorem dX1_readAside_6 : decode cX1_readAside 6 = .ok (.istore_n 3, 1) := by decide +kernel
theorem dX1_readAside_7 : decode cX1_readAside 7 = .ok (.iload_n 3, 1) := by decide +kernel
theorem dX1_readAside_8 : decode cX1_readAside 8 = .ok (.iload_n 2, 1) := by decide +kernel
theorem dX1_readAside_9 : decode cX1_readAside 9 = .ok (.if_icmp .ge 11, 3) := by decide +kernel
theorem dX1_readAside_12 : decode cX1_readAside 12 = .ok (.aload_n 1, 1) := by decide +kernel
theorem dX1_readAside_13 : decode cX1_readAside 13 = .ok (.iload_n 3, 1) := by decide +kernel
theorem dX1_readAside_14 : decode cX1_readAside 14 = .ok (.baload, 1) := by decide +kernel
theorem dX1_readAside_15 : decode cX1_readAside 15 = .ok (.bipush 102, 2) := by decide +kernel
theorem dX1_readAside_17 : decode cX1_readAside 17 = .ok (.if_icmp .eq 5, 3) := by decide +kernel
theorem dX1_readAside_20 : decode cX1_readAside 20 = .ok (.iload_n 3, 1) := by decide +kernel
theorem dX1_readAside_21 : decode cX1_readAside 21 = .ok (.ireturn, 1) := by decide +kernel
theorem dX1_readAside_22 : decode cX1_readAside 22 = .ok (.aload_n 1, 1) := by decide +kernel
theorem dX1_readAside_23 : decode cX1_readAside 23 = .ok (.iload_n 2, 1) := by decide +kernel
theorem dX1_readAside_24 : decode cX1_readAside 24 = .ok (.iload_n 3, 1) := by decide +kernel
theorem dX1_readAside_25 : decode cX1_readAside 25 = .ok (.iconst 1, 1) := by decide +kernel
theorem dX1_readAside_26 : decode cX1_readAside 26 = .ok (.iadd, 1) := by decide +kernel
theorem dX1_readAside_27 : decode cX1_readAside 27 = .ok (.iconst 1, 1) := by decide +kernel
theorem dX1_readAside_28 : decode cX1_readAside 28 = .ok (.invokestatic 265, 3) := by decide +kernel
theorem dX1_readAside_31 : decode cX1_readAside 31 = .ok (.istore 4, 2) := by decide +kernel
theorem dX1_readAside_33 : decode cX1_readAside 33 = .ok (.iload 4, 2) := by decide +kernel
theorem dX1_readAside_35 : decode cX1_readAside 35 = .ok (.bipush (-9), 2) := by decide +kernel
theorem dX1_readAside_37 : decode cX1_readAside 37 = .ok (.if_icmp .eq 6, 3) := by decide +kernel
theorem dX1_readAside_40 : decode cX1_readAside 40 = .ok (.iload 4, 2) := by decide +kernel
theorem dX1_readAside_42 : decode cX1_readAside 42 = .ok (.ireturn, 1) := by decide +kernel
theorem dX1_readAside_43 : decode cX1_readAside 43 = .ok (.aload_n 0, 1) := by decide +kernel
theorem dX1_readAside_44 : decode cX1_readAside 44 = .ok (.getfield 36, 3) := by decide +kernel
theorem dX1_readAside_47 : decode cX1_readAside 47 = .ok (.aload_n 1, 1) := by decide +kernel
theorem dX1_readAside_48 : decode cX1_readAside 48 = .ok (.iload_n 3, 1) := by decide +kernel
theorem dX1_readAside_49 : decode cX1_readAside 49 = .ok (.iconst 1, 1) := by decide +kernel
theorem dX1_readAside_50 : decode cX1_readAside 50 = .ok (.iadd, 1) := by decide +kernel
theorem dX1_readAside_51 : decode cX1_readAside 51 = .ok (.baload, 1) := by decide +kernel
theorem dX1_readAside_52 : decode cX1_readAside 52 = .ok (.bipush 48, 2) := by decide +kernel
theorem dX1_readAside_54 : decode cX1_readAside 54 = .ok (.isub, 1) := by decide +kernel
theorem dX1_readAside_55 : decode cX1_readAside 55 = .ok (.invokevirtual 269, 3) := by decide +kernel
theorem dX1_readAside_58 : decode cX1_readAside 58 = .ok (.aload_n 1, 1) := by decide +kernel
theorem dX1_readAside_59 : decode cX1_readAside 59 = .ok (.iload_n 2, 1) := by decide +kernel
theorem dX1_readAside_60 : decode cX1_readAside 60 = .ok (.iload_n 3, 1) := by decide +kernel
theorem dX1_readAside_61 : decode cX1_readAside 61 = .ok (.iconst 2, 1) := by decide +kernel
theorem dX1_readAside_62 : decode cX1_readAside 62 = .ok (.iadd, 1) := by decide +kernel
theorem dX1_readAside_63 : decode cX1_readAside 63 = .ok (.invokestatic 261, 3) := by decide +kernel
theorem dX1_readAside_66 : decode cX1_readAside 66 = .ok (.istore 5, 2) := by decide +kernel
theorem dX1_readAside_68 : decode cX1_readAside 68 = .ok (.iconst 0, 1) := by decide +kernel
theorem dX1_readAside_69 : decode cX1_readAside 69 = .ok (.istore 6, 2) := by decide +kernel
theorem dX1_readAside_71 : decode cX1_readAside 71 = .ok (.iload 6, 2) := by decide +kernel
theorem dX1_readAside_73 : decode cX1_readAside 73 = .ok (.bipush 6, 2) := by decide +kernel
theorem dX1_readAside_75 : decode cX1_readAside 75 = .ok (.if_icmp .gt 46, 3) := by decide +kernel
theorem dX1_readAside_78 : decode cX1_readAside 78 = .ok (.iload 5, 2) := by decide +kernel
theorem dX1_readAside_80 : decode cX1_readAside 80 = .ok (.iload_n 2, 1) := by decide +kernel
theorem dX1_readAside_81 : decode cX1_readAside 81 = .ok (.if_icmp .ge 40, 3) := by decide +kernel
theorem dX1_readAside_84 : decode cX1_readAside 84 = .ok (.aload_n 0, 1) := by decide +kernel
theorem dX1_readAside_85 : decode cX1_readAside 85 = .ok (.aload_n 1, 1) := by decide +kernel
theorem dX1_readAside_86 : decode cX1_readAside 86 = .ok (.iload_n 2, 1) := by decide +kernel
theorem dX1_readAside_87 : decode cX1_readAside 87 = .ok (.iload 5, 2) := by decide +kernel
theorem dX1_readAside_89 : decode cX1_readAside 89 = .ok (.invokevirtual 272, 3) := by decide +kernel
theorem dX1_readAside_92 : decode cX1_readAside 92 = .ok (.istore 4, 2) := by decide +kernel
theorem dX1_readAside_94 : decode cX1_readAside 94 = .ok (.iload 4, 2) := by decide +kernel
theorem dX1_readAside_96 : decode cX1_readAside 96 = .ok (.bipush (-9), 2) := by decide +kernel
theorem dX1_readAside_98 : decode cX1_readAside 98 = .ok (.if_icmp .eq 6, 3) := by decide +kernel
theorem dX1_readAside_101 : decode cX1_readAside 101 = .ok (.iload 4, 2) := by decide +kernel
theorem dX1_readAside_103 : decode cX1_readAside 103 = .ok (.ireturn, 1) := by decide +kernel
theorem dX1_readAside_104 : decode cX1_readAside 104 = .ok (.aload_n 1, 1) := by decide +kernel
theorem dX1_readAside_105 : decode cX1_readAside 105 = .ok (.iload_n 2, 1) := by decide +kernel
theorem dX1_readAside_106 : decode cX1_readAside 106 = .ok (.iload 5, 2) := by decide +kernel
theorem dX1_readAside_108 : decode cX1_readAside 108 = .ok (.iconst 4, 1) := by decide +kernel
theorem dX1_readAside_109 : decode cX1_readAside 109 = .ok (.iadd, 1) := by decide +kernel
theorem dX1_readAside_110 : decode cX1_readAside 110 = .ok (.invokestatic 261, 3) := by decide +kernel
theorem dX1_readAside_113 : decode cX1_readAside 113 = .ok (.istore 5, 2) := by decide +kernel
theorem dX1_readAside_115 : decode cX1_readAside 115 = .ok (.iinc 6 1, 3) := by decide +kernel
theorem dX1_readAside_118 : decode cX1_readAside 118 = .ok (.goto (-47), 3) := by decide +kernel
theorem dX1_readAside_121 : decode cX1_readAside 121 = .ok (.aload_n 0, 1) := by decide +kernel
theorem dX1_readAside_122 : decode cX1_readAside 122 = .ok (.getfield 36, 3) := by decide +kernel
theorem dX1_readAside_125 : decode cX1_readAside 125 = .ok (.getfield 122, 3) := by decide +kernel
theorem dX1_readAside_128 : decode cX1_readAside 128 = .ok (.ifCond .ne 7, 3) := by decide +kernel
theorem dX1_readAside_131 : decode cX1_readAside 131 = .ok (.iload_n 2, 1) := by decide +kernel
theorem dX1_readAside_132 : decode cX1_readAside 132 = .ok (.goto 5, 3) := by decide +kernel
theorem dX1_readAside_135 : decode cX1_readAside 135 = .ok (.bipush (-9), 2) := by decide +kernel
theorem dX1_readAside_137 : decode cX1_readAside 137 = .ok (.ireturn, 1) := by decide +kernel
theorem dX1_fault_0 : decode cX1_fault 0 = .ok (.iload_n 1, 1) := by decide +kernel
theorem dX1_fault_1 : decode cX1_fault 1 = .ok (.invokestatic 108, 3) := by decide +kernel
theorem dX1_fault_4 : decode cX1_fault 4 = .ok (.ifCond .ne 5, 3) := by decide +kernel
theorem dX1_fault_7 : decode cX1_fault 7 = .ok (.iconst (-1), 1) := by decide +kernel
theorem dX1_fault_8 : decode cX1_fault 8 = .ok (.ireturn, 1) := by decide +kernel
theorem dX1_fault_9 : decode cX1_fault 9 = .ok (.aload_n 0, 1) := by decide +kernel
theorem dX1_fault_10 : decode cX1_fault 10 = .ok (.getfield 23, 3) := by decide +kernel
theorem dX1_fault_13 : decode cX1_fault 13 = .ok (.iload_n 1, 1) := by decide +kernel
theorem dX1_fault_14 : decode cX1_fault 14 = .ok (.iaload, 1) := by decide +kernel
theorem dX1_fault_15 : decode cX1_fault 15 = .ok (.ifCond .ge 9, 3) := by decide +kernel
theorem dX1_fault_18 : decode cX1_fault 18 = .ok (.aload_n 0, 1) := by decide +kernel
theorem dX1_fault_19 : decode cX1_fault 19 = .ok (.iconst 1, 1) := by decide +kernel
theorem dX1_fault_20 : decode cX1_fault 20 = .ok (.invokevirtual 87, 3) := by decide +kernel
theorem dX1_fault_23 : decode cX1_fault 23 = .ok (.ireturn, 1) := by decide +kernel
theorem dX1_fault_24 : decode cX1_fault 24 = .ok (.aload_n 0, 1) := by decide +kernel
theorem dX1_fault_25 : decode cX1_fault 25 = .ok (.aload_n 0, 1) := by decide +kernel
theorem dX1_fault_26 : decode cX1_fault 26 = .ok (.getfield 20, 3) := by decide +kernel
theorem dX1_fault_29 : decode cX1_fault 29 = .ok (.iload_n 1, 1) := by decide +kernel
theorem dX1_fault_30 : decode cX1_fault 30 = .ok (.aaload, 1) := by decide +kernel
theorem dX1_fault_31 : decode cX1_fault 31 = .ok (.aload_n 0, 1) := by decide +kernel
theorem dX1_fault_32 : decode cX1_fault 32 = .ok (.getfield 23, 3) := by decide +kernel
theorem dX1_fault_35 : decode cX1_fault 35 = .ok (.iload_n 1, 1) := by decide +kernel
theorem dX1_fault_36 : decode cX1_fault 36 = .ok (.iaload, 1) := by decide +kernel
theorem dX1_fault_37 : decode cX1_fault 37 = .ok (.invokevirtual 114, 3) := by decide +kernel
theorem dX1_fault_40 : decode cX1_fault 40 = .ok (.ireturn, 1) := by decide +kernel
theorem dX1_river_0 : decode cX1_river 0 = .ok (.iload_n 1, 1) := by decide +kernel
theorem dX1_river_1 : decode cX1_river 1 = .ok (.invokestatic 108, 3) := by decide +kernel
theorem dX1_river_4 : decode cX1_river 4 = .ok (.ifCond .ne 5, 3) := by decide +kernel
theorem dX1_river_7 : decode cX1_river 7 = .ok (.iconst (-1), 1) := by decide +kernel
theorem dX1_river_8 : decode cX1_river 8 = .ok (.ireturn, 1) := by decide +kernel
theorem dX1_river_9 : decode cX1_river 9 = .ok (.aload_n 0, 1) := by decide +kernel
theorem dX1_river_10 : decode cX1_river 10 = .ok (.getfield 23, 3) := by decide +kernel
theorem dX1_river_13 : decode cX1_river 13 = .ok (.iload_n 1, 1) := by decide +kernel
theorem dX1_river_14 : decode cX1_river 14 = .ok (.iaload, 1) := by decide +kernel
theorem dX1_river_15 : decode cX1_river 15 = .ok (.ifCond .ge 9, 3) := by decide +kernel
theorem dX1_river_18 : decode cX1_river 18 = .ok (.aload_n 0, 1) := by decide +kernel
theorem dX1_river_19 : decode cX1_river 19 = .ok (.iconst 1, 1) := by decide +kernel
theorem dX1_river_20 : decode cX1_river 20 = .ok (.invokevirtual 87, 3) := by decide +kernel
theorem dX1_river_23 : decode cX1_river 23 = .ok (.ireturn, 1) := by decide +kernel
theorem dX1_river_24 : decode cX1_river 24 = .ok (.aload_n 0, 1) := by decide +kernel
theorem dX1_river_25 : decode cX1_river 25 = .ok (.aload_n 0, 1) := by decide +kernel
theorem dX1_river_26 : decode cX1_river 26 = .ok (.getfield 20, 3) := by decide +kernel
theorem dX1_river_29 : decode cX1_river 29 = .ok (.iload_n 1, 1) := by decide +kernel
theorem dX1_river_30 : decode cX1_river 30 = .ok (.aaload, 1) := by decide +kernel
theorem dX1_river_31 : decode cX1_river 31 = .ok (.aload_n 0, 1) := by decide +kernel
theorem dX1_river_32 : decode cX1_river 32 = .ok (.getfield 23, 3) := by decide +kernel
theorem dX1_river_35 : decode cX1_river 35 = .ok (.iload_n 1, 1) := by decide +kernel
theorem dX1_river_36 : decode cX1_river 36 = .ok (.iaload, 1) := by decide +kernel
theorem dX1_river_37 : decode cX1_river 37 = .ok (.invokevirtual 114, 3) := by decide +kernel
theorem dX1_river_40 : decode cX1_river 40 = .ok (.bipush (-9), 2) := by decide +kernel
theorem dX1_river_42 : decode cX1_river 42 = .ok (.if_icmp .eq 6, 3) := by decide +kernel
theorem dX1_river_45 : decode cX1_river 45 = .ok (.bipush (-4), 2) := by decide +kernel
theorem dX1_river_47 : decode cX1_river 47 = .ok (.ireturn, 1) := by decide +kernel
theorem dX1_river_48 : decode cX1_river 48 = .ok (.aload_n 0, 1) := by decide +kernel
theorem dX1_river_49 : decode cX1_river 49 = .ok (.getfield 29, 3) := by decide +kernel
theorem dX1_river_52 : decode cX1_river 52 = .ok (.aload_n 0, 1) := by decide +kernel
theorem dX1_river_53 : decode cX1_river 53 = .ok (.getfield 36, 3) := by decide +kernel
theorem dX1_river_56 : decode cX1_river 56 = .ok (.invokevirtual 118, 3) := by decide +kernel
theorem dX1_river_59 : decode cX1_river 59 = .ok (.aload_n 0, 1) := by decide +kernel
theorem dX1_river_60 : decode cX1_river 60 = .ok (.getfield 33, 3) := by decide +kernel
theorem dX1_river_63 : decode cX1_river 63 = .ok (.aload_n 0, 1) := by decide +kernel
theorem dX1_river_64 : decode cX1_river 64 = .ok (.getfield 36, 3) := by decide +kernel
theorem dX1_river_67 : decode cX1_river 67 = .ok (.invokevirtual 118, 3) := by decide +kernel
theorem dX1_river_70 : decode cX1_river 70 = .ok (.aload_n 0, 1) := by decide +kernel
theorem dX1_river_71 : decode cX1_river 71 = .ok (.iconst 0, 1) := by decide +kernel
theorem dX1_river_72 : decode cX1_river 72 = .ok (.putfield 42, 3) := by decide +kernel
theorem dX1_river_75 : decode cX1_river 75 = .ok (.aload_n 0, 1) := by decide +kernel
theorem dX1_river_76 : decode cX1_river 76 = .ok (.getfield 49, 3) := by decide +kernel
theorem dX1_river_79 : decode cX1_river 79 = .ok (.iconst (-1), 1) := by decide +kernel
theorem dX1_river_80 : decode cX1_river 80 = .ok (.invokestatic 77, 3) := by decide +kernel
theorem dX1_river_83 : decode cX1_river 83 = .ok (.aload_n 0, 1) := by decide +kernel
theorem dX1_river_84 : decode cX1_river 84 = .ok (.getfield 33, 3) := by decide +kernel
theorem dX1_river_87 : decode cX1_river 87 = .ok (.getfield 122, 3) := by decide +kernel
theorem dX1_river_90 : decode cX1_river 90 = .ok (.ireturn, 1) := by decide +kernel
theorem dX1_one_0 : decode cX1_one 0 = .ok (.aload_n 0, 1) := by decide +kernel
theorem dX1_one_1 : decode cX1_one 1 = .ok (.getfield 33, 3) := by decide +kernel
theorem dX1_one_4 : decode cX1_one 4 = .ok (.iload_n 1, 1) := by decide +kernel
theorem dX1_one_5 : decode cX1_one 5 = .ok (.invokevirtual 125, 3) := by decide +kernel
theorem dX1_one_8 : decode cX1_one 8 = .ok (.ifCond .eq 12, 3) := by decide +kernel
theorem dX1_one_11 : decode cX1_one 11 = .ok (.iload_n 2, 1) := by decide +kernel
theorem dX1_one_12 : decode cX1_one 12 = .ok (.iconst 0, 1) := by decide +kernel
theorem dX1_one_13 : decode cX1_one 13 = .ok (.iconst 5, 1) := by decide +kernel
theorem dX1_one_14 : decode cX1_one 14 = .ok (.invokestatic 128, 3) := by decide +kernel
theorem dX1_one_17 : decode cX1_one 17 = .ok (.ifCond .ne 5, 3) := by decide +kernel
theorem dX1_one_20 : decode cX1_one 20 = .ok (.iconst (-1), 1) := by decide +kernel
theorem dX1_one_21 : decode cX1_one 21 = .ok (.ireturn, 1) := by decide +kernel
theorem dX1_one_22 : decode cX1_one 22 = .ok (.aload_n 0, 1) := by decide +kernel
theorem dX1_one_23 : decode cX1_one 23 = .ok (.aload_n 0, 1) := by decide +kernel
theorem dX1_one_24 : decode cX1_one 24 = .ok (.getfield 33, 3) := by decide +kernel
theorem dX1_one_27 : decode cX1_one 27 = .ok (.iload_n 1, 1) := by decide +kernel
theorem dX1_one_28 : decode cX1_one 28 = .ok (.iload_n 2, 1) := by decide +kernel
theorem dX1_one_29 : decode cX1_one 29 = .ok (.invokevirtual 132, 3) := by decide +kernel
theorem dX1_one_32 : decode cX1_one 32 = .ok (.invokevirtual 99, 3) := by decide +kernel
theorem dX1_one_35 : decode cX1_one 35 = .ok (.ireturn, 1) := by decide +kernel
theorem dX1_deedOf_0 : decode cX1_deedOf 0 = .ok (.iload_n 0, 1) := by decide +kernel
theorem dX1_deedOf_1 : decode cX1_deedOf 1 = .ok (.iload_n 1, 1) := by decide +kernel
theorem dX1_deedOf_2 : decode cX1_deedOf 2 = .ok (.iconst 2, 1) := by decide +kernel
theorem dX1_deedOf_3 : decode cX1_deedOf 3 = .ok (.ishl, 1) := by decide +kernel
theorem dX1_deedOf_4 : decode cX1_deedOf 4 = .ok (.ior, 1) := by decide +kernel
theorem dX1_deedOf_5 : decode cX1_deedOf 5 = .ok (.iload_n 2, 1) := by decide +kernel
theorem dX1_deedOf_6 : decode cX1_deedOf 6 = .ok (.iconst 5, 1) := by decide +kernel
theorem dX1_deedOf_7 : decode cX1_deedOf 7 = .ok (.ishl, 1) := by decide +kernel
theorem dX1_deedOf_8 : decode cX1_deedOf 8 = .ok (.ior, 1) := by decide +kernel
theorem dX1_deedOf_9 : decode cX1_deedOf 9 = .ok (.ireturn, 1) := by decide +kernel
theorem dX1_perform_0 : decode cX1_perform 0 = .ok (.aload_n 0, 1) := by decide +kernel
theorem dX1_perform_1 : decode cX1_perform 1 = .ok (.getfield 42, 3) := by decide +kernel
theorem dX1_perform_4 : decode cX1_perform 4 = .ok (.bipush 40, 2) := by decide +kernel
theorem dX1_perform_6 : decode cX1_perform 6 = .ok (.if_icmp .ge 31, 3) := by decide +kernel
theorem dX1_perform_9 : decode cX1_perform 9 = .ok (.aload_n 0, 1) := by decide +kernel
theorem dX1_perform_10 : decode cX1_perform 10 = .ok (.getfield 39, 3) := by decide +kernel
theorem dX1_perform_13 : decode cX1_perform 13 = .ok (.aload_n 0, 1) := by decide +kernel
theorem dX1_perform_14 : decode cX1_perform 14 = .ok (.getfield 42, 3) := by decide +kernel
theorem dX1_perform_17 : decode cX1_perform 17 = .ok (.iload_n 1, 1) := by decide +kernel
theorem dX1_perform_18 : decode cX1_perform 18 = .ok (.iastore, 1) := by decide +kernel
theorem dX1_perform_19 : decode cX1_perform 19 = .ok (.aload_n 0, 1) := by decide +kernel
theorem dX1_perform_20 : decode cX1_perform 20 = .ok (.dup, 1) := by decide +kernel
theorem dX1_perform_21 : decode cX1_perform 21 = .ok (.getfield 42, 3) := by decide +kernel
theorem dX1_perform_24 : decode cX1_perform 24 = .ok (.iconst 1, 1) := by decide +kernel
theorem dX1_perform_25 : decode cX1_perform 25 = .ok (.iadd, 1) := by decide +kernel
theorem dX1_perform_26 : decode cX1_perform 26 = .ok (.putfield 42, 3) := by decide +kernel
theorem dX1_perform_29 : decode cX1_perform 29 = .ok (.aload_n 0, 1) := by decide +kernel
theorem dX1_perform_30 : decode cX1_perform 30 = .ok (.getfield 33, 3) := by decide +kernel
theorem dX1_perform_33 : decode cX1_perform 33 = .ok (.iload_n 1, 1) := by decide +kernel
theorem dX1_perform_34 : decode cX1_perform 34 = .ok (.invokevirtual 293, 3) := by decide +kernel
theorem dX1_perform_37 : decode cX1_perform 37 = .ok (.return_, 1) := by decide +kernel
theorem dX1_night_0 : decode cX1_night 0 = .ok (.aload_n 0, 1) := by decide +kernel
theorem dX1_night_1 : decode cX1_night 1 = .ok (.getfield 33, 3) := by decide +kernel
theorem dX1_night_4 : decode cX1_night 4 = .ok (.getfield 122, 3) := by decide +kernel
theorem dX1_night_7 : decode cX1_night 7 = .ok (.ifCond .ne 6, 3) := by decide +kernel
theorem dX1_night_10 : decode cX1_night 10 = .ok (.bipush (-4), 2) := by decide +kernel
theorem dX1_night_12 : decode cX1_night 12 = .ok (.ireturn, 1) := by decide +kernel
theorem dX1_night_13 : decode cX1_night 13 = .ok (.aload_n 0, 1) := by decide +kernel
theorem dX1_night_14 : decode cX1_night 14 = .ok (.getfield 42, 3) := by decide +kernel
theorem dX1_night_17 : decode cX1_night 17 = .ok (.bipush 40, 2) := by decide +kernel
theorem dX1_night_19 : decode cX1_night 19 = .ok (.if_icmp .lt 6, 3) := by decide +kernel
theorem dX1_night_22 : decode cX1_night 22 = .ok (.bipush (-2), 2) := by decide +kernel
theorem dX1_night_24 : decode cX1_night 24 = .ok (.ireturn, 1) := by decide +kernel
theorem dX1_night_25 : decode cX1_night 25 = .ok (.aload_n 0, 1) := by decide +kernel
theorem dX1_night_26 : decode cX1_night 26 = .ok (.getfield 33, 3) := by decide +kernel
theorem dX1_night_29 : decode cX1_night 29 = .ok (.iconst 0, 1) := by decide +kernel
theorem dX1_night_30 : decode cX1_night 30 = .ok (.invokevirtual 145, 3) := by decide +kernel
theorem dX1_night_33 : decode cX1_night 33 = .ok (.istore_n 1, 1) := by decide +kernel
theorem dX1_night_34 : decode cX1_night 34 = .ok (.aload_n 0, 1) := by decide +kernel
theorem dX1_night_35 : decode cX1_night 35 = .ok (.iconst 0, 1) := by decide +kernel
theorem dX1_night_36 : decode cX1_night 36 = .ok (.iconst 0, 1) := by decide +kernel
theorem dX1_night_37 : decode cX1_night 37 = .ok (.iconst 0, 1) := by decide +kernel
theorem dX1_night_38 : decode cX1_night 38 = .ok (.invokestatic 148, 3) := by decide +kernel
theorem dX1_night_41 : decode cX1_night 41 = .ok (.invokevirtual 152, 3) := by decide +kernel
theorem dX1_night_44 : decode cX1_night 44 = .ok (.iload_n 1, 1) := by decide +kernel
theorem dX1_night_45 : decode cX1_night 45 = .ok (.ireturn, 1) := by decide +kernel
theorem dX1_raise_0 : decode cX1_raise 0 = .ok (.aload_n 0, 1) := by decide +kernel
theorem dX1_raise_1 : decode cX1_raise 1 = .ok (.getfield 33, 3) := by decide +kernel
theorem dX1_raise_4 : decode cX1_raise 4 = .ok (.iload_n 1, 1) := by decide +kernel
theorem dX1_raise_5 : decode cX1_raise 5 = .ok (.invokevirtual 125, 3) := by decide +kernel
theorem dX1_raise_8 : decode cX1_raise 8 = .ok (.ifCond .eq 13, 3) := by decide +kernel
theorem dX1_raise_11 : decode cX1_raise 11 = .ok (.iload_n 2, 1) := by decide +kernel
theorem dX1_raise_12 : decode cX1_raise 12 = .ok (.iconst 1, 1) := by decide +kernel
theorem dX1_raise_13 : decode cX1_raise 13 = .ok (.bipush 9, 2) := by decide +kernel
theorem dX1_raise_15 : decode cX1_raise 15 = .ok (.invokestatic 128, 3) := by decide +kernel
theorem dX1_raise_18 : decode cX1_raise 18 = .ok (.ifCond .ne 5, 3) := by decide +kernel
theorem dX1_raise_21 : decode cX1_raise 21 = .ok (.iconst (-1), 1) := by decide +kernel
theorem dX1_raise_22 : decode cX1_raise 22 = .ok (.ireturn, 1) := by decide +kernel
theorem dX1_raise_23 : decode cX1_raise 23 = .ok (.aload_n 0, 1) := by decide +kernel
theorem dX1_raise_24 : decode cX1_raise 24 = .ok (.getfield 33, 3) := by decide +kernel
theorem dX1_raise_27 : decode cX1_raise 27 = .ok (.getfield 156, 3) := by decide +kernel
theorem dX1_raise_30 : decode cX1_raise 30 = .ok (.iload_n 1, 1) := by decide +kernel
theorem dX1_raise_31 : decode cX1_raise 31 = .ok (.iaload, 1) := by decide +kernel
theorem dX1_raise_32 : decode cX1_raise 32 = .ok (.iload_n 2, 1) := by decide +kernel
theorem dX1_raise_33 : decode cX1_raise 33 = .ok (.iadd, 1) := by decide +kernel
theorem dX1_raise_34 : decode cX1_raise 34 = .ok (.bipush 20, 2) := by decide +kernel
theorem dX1_raise_36 : decode cX1_raise 36 = .ok (.if_icmp .le 6, 3) := by decide +kernel
theorem dX1_raise_39 : decode cX1_raise 39 = .ok (.bipush (-4), 2) := by decide +kernel
theorem dX1_raise_41 : decode cX1_raise 41 = .ok (.ireturn, 1) := by decide +kernel
theorem dX1_raise_42 : decode cX1_raise 42 = .ok (.aload_n 0, 1) := by decide +kernel
theorem dX1_raise_43 : decode cX1_raise 43 = .ok (.getfield 42, 3) := by decide +kernel
theorem dX1_raise_46 : decode cX1_raise 46 = .ok (.bipush 40, 2) := by decide +kernel
theorem dX1_raise_48 : decode cX1_raise 48 = .ok (.if_icmp .lt 6, 3) := by decide +kernel
theorem dX1_raise_51 : decode cX1_raise 51 = .ok (.bipush (-2), 2) := by decide +kernel
theorem dX1_raise_53 : decode cX1_raise 53 = .ok (.ireturn, 1) := by decide +kernel
theorem dX1_raise_54 : decode cX1_raise 54 = .ok (.aload_n 0, 1) := by decide +kernel
theorem dX1_raise_55 : decode cX1_raise 55 = .ok (.iconst 1, 1) := by decide +kernel
theorem dX1_raise_56 : decode cX1_raise 56 = .ok (.iload_n 1, 1) := by decide +kernel
theorem dX1_raise_57 : decode cX1_raise 57 = .ok (.iload_n 2, 1) := by decide +kernel
theorem dX1_raise_58 : decode cX1_raise 58 = .ok (.invokestatic 148, 3) := by decide +kernel
theorem dX1_raise_61 : decode cX1_raise 61 = .ok (.invokevirtual 152, 3) := by decide +kernel
theorem dX1_raise_64 : decode cX1_raise 64 = .ok (.aload_n 0, 1) := by decide +kernel
theorem dX1_raise_65 : decode cX1_raise 65 = .ok (.getfield 33, 3) := by decide +kernel
theorem dX1_raise_68 : decode cX1_raise 68 = .ok (.getfield 156, 3) := by decide +kernel
theorem dX1_raise_71 : decode cX1_raise 71 = .ok (.iload_n 1, 1) := by decide +kernel
theorem dX1_raise_72 : decode cX1_raise 72 = .ok (.iaload, 1) := by decide +kernel
theorem dX1_raise_73 : decode cX1_raise 73 = .ok (.ireturn, 1) := by decide +kernel
theorem dX1_shame_0 : decode cX1_shame 0 = .ok (.aload_n 0, 1) := by decide +kernel
theorem dX1_shame_1 : decode cX1_shame 1 = .ok (.getfield 33, 3) := by decide +kernel
theorem dX1_shame_4 : decode cX1_shame 4 = .ok (.iload_n 1, 1) := by decide +kernel
theorem dX1_shame_5 : decode cX1_shame 5 = .ok (.invokevirtual 125, 3) := by decide +kernel
theorem dX1_shame_8 : decode cX1_shame 8 = .ok (.ifCond .eq 13, 3) := by decide +kernel
theorem dX1_shame_11 : decode cX1_shame 11 = .ok (.iload_n 2, 1) := by decide +kernel
theorem dX1_shame_12 : decode cX1_shame 12 = .ok (.iconst 1, 1) := by decide +kernel
theorem dX1_shame_13 : decode cX1_shame 13 = .ok (.bipush 9, 2) := by decide +kernel
theorem dX1_shame_15 : decode cX1_shame 15 = .ok (.invokestatic 128, 3) := by decide +kernel
theorem dX1_shame_18 : decode cX1_shame 18 = .ok (.ifCond .ne 5, 3) := by decide +kernel
theorem dX1_shame_21 : decode cX1_shame 21 = .ok (.iconst (-1), 1) := by decide +kernel
theorem dX1_shame_22 : decode cX1_shame 22 = .ok (.ireturn, 1) := by decide +kernel
theorem dX1_shame_23 : decode cX1_shame 23 = .ok (.aload_n 0, 1) := by decide +kernel
theorem dX1_shame_24 : decode cX1_shame 24 = .ok (.getfield 33, 3) := by decide +kernel
theorem dX1_shame_27 : decode cX1_shame 27 = .ok (.getfield 156, 3) := by decide +kernel
theorem dX1_shame_30 : decode cX1_shame 30 = .ok (.iload_n 1, 1) := by decide +kernel
theorem dX1_shame_31 : decode cX1_shame 31 = .ok (.iaload, 1) := by decide +kernel
theorem dX1_shame_32 : decode cX1_shame 32 = .ok (.iload_n 2, 1) := by decide +kernel
theorem dX1_shame_33 : decode cX1_shame 33 = .ok (.isub, 1) := by decide +kernel
theorem dX1_shame_34 : decode cX1_shame 34 = .ok (.ifCond .ge 6, 3) := by decide +kernel
theorem dX1_shame_37 : decode cX1_shame 37 = .ok (.bipush (-4), 2) := by decide +kernel
theorem dX1_shame_39 : decode cX1_shame 39 = .ok (.ireturn, 1) := by decide +kernel
theorem dX1_shame_40 : decode cX1_shame 40 = .ok (.aload_n 0, 1) := by decide +kernel
theorem dX1_shame_41 : decode cX1_shame 41 = .ok (.getfield 42, 3) := by decide +kernel
theorem dX1_shame_44 : decode cX1_shame 44 = .ok (.bipush 40, 2) := by decide +kernel
theorem dX1_shame_46 : decode cX1_shame 46 = .ok (.if_icmp .lt 6, 3) := by decide +kernel
theorem dX1_shame_49 : decode cX1_shame 49 = .ok (.bipush (-2), 2) := by decide +kernel
theorem dX1_shame_51 : decode cX1_shame 51 = .ok (.ireturn, 1) := by decide +kernel
theorem dX1_shame_52 : decode cX1_shame 52 = .ok (.aload_n 0, 1) := by decide +kernel
theorem dX1_shame_53 : decode cX1_shame 53 = .ok (.iconst 2, 1) := by decide +kernel
theorem dX1_shame_54 : decode cX1_shame 54 = .ok (.iload_n 1, 1) := by decide +kernel
theorem dX1_shame_55 : decode cX1_shame 55 = .ok (.iload_n 2, 1) := by decide +kernel
theorem dX1_shame_56 : decode cX1_shame 56 = .ok (.invokestatic 148, 3) := by decide +kernel
theorem dX1_shame_59 : decode cX1_shame 59 = .ok (.invokevirtual 152, 3) := by decide +kernel
theorem dX1_shame_62 : decode cX1_shame 62 = .ok (.aload_n 0, 1) := by decide +kernel
theorem dX1_shame_63 : decode cX1_shame 63 = .ok (.getfield 33, 3) := by decide +kernel
theorem dX1_shame_66 : decode cX1_shame 66 = .ok (.getfield 156, 3) := by decide +kernel
theorem dX1_shame_69 : decode cX1_shame 69 = .ok (.iload_n 1, 1) := by decide +kernel
theorem dX1_shame_70 : decode cX1_shame 70 = .ok (.iaload, 1) := by decide +kernel
theorem dX1_shame_71 : decode cX1_shame 71 = .ok (.ireturn, 1) := by decide +kernel
theorem dX1_isPlace_0 : decode cX1_isPlace 0 = .ok (.iload_n 0, 1) := by decide +kernel
theorem dX1_isPlace_1 : decode cX1_isPlace 1 = .ok (.ifCond .lt 13, 3) := by decide +kernel
theorem dX1_isPlace_4 : decode cX1_isPlace 4 = .ok (.iload_n 0, 1) := by decide +kernel
theorem dX1_isPlace_5 : decode cX1_isPlace 5 = .ok (.bipush 9, 2) := by decide +kernel
theorem dX1_isPlace_7 : decode cX1_isPlace 7 = .ok (.if_icmp .gt 7, 3) := by decide +kernel
theorem dX1_isPlace_10 : decode cX1_isPlace 10 = .ok (.iconst 1, 1) := by decide +kernel
theorem dX1_isPlace_11 : decode cX1_isPlace 11 = .ok (.goto 4, 3) := by decide +kernel
theorem dX1_isPlace_14 : decode cX1_isPlace 14 = .ok (.iconst 0, 1) := by decide +kernel
theorem dX1_isPlace_15 : decode cX1_isPlace 15 = .ok (.ireturn, 1) := by decide +kernel
theorem dX1_door_0 : decode cX1_door 0 = .ok (.aload_n 0, 1) := by decide +kernel
theorem dX1_door_1 : decode cX1_door 1 = .ok (.getfield 33, 3) := by decide +kernel
theorem dX1_door_4 : decode cX1_door 4 = .ok (.iload_n 1, 1) := by decide +kernel
theorem dX1_door_5 : decode cX1_door 5 = .ok (.invokevirtual 125, 3) := by decide +kernel
theorem dX1_door_8 : decode cX1_door 8 = .ok (.ifCond .eq 10, 3) := by decide +kernel
theorem dX1_door_11 : decode cX1_door 11 = .ok (.iload_n 2, 1) := by decide +kernel
theorem dX1_door_12 : decode cX1_door 12 = .ok (.invokestatic 159, 3) := by decide +kernel
theorem dX1_door_15 : decode cX1_door 15 = .ok (.ifCond .ne 5, 3) := by decide +kernel
theorem dX1_door_18 : decode cX1_door 18 = .ok (.iconst (-1), 1) := by decide +kernel
theorem dX1_door_19 : decode cX1_door 19 = .ok (.ireturn, 1) := by decide +kernel
theorem dX1_door_20 : decode cX1_door 20 = .ok (.aload_n 0, 1) := by decide +kernel
theorem dX1_door_21 : decode cX1_door 21 = .ok (.getfield 33, 3) := by decide +kernel
theorem dX1_door_24 : decode cX1_door 24 = .ok (.getfield 162, 3) := by decide +kernel
theorem dX1_door_27 : decode cX1_door 27 = .ok (.iload_n 1, 1) := by decide +kernel
theorem dX1_door_28 : decode cX1_door 28 = .ok (.iaload, 1) := by decide +kernel
theorem dX1_door_29 : decode cX1_door 29 = .ok (.istore_n 3, 1) := by decide +kernel
theorem dX1_door_30 : decode cX1_door 30 = .ok (.iload_n 3, 1) := by decide +kernel
theorem dX1_door_31 : decode cX1_door 31 = .ok (.iload_n 2, 1) := by decide +kernel
theorem dX1_door_32 : decode cX1_door 32 = .ok (.if_icmp .ne 6, 3) := by decide +kernel
theorem dX1_door_35 : decode cX1_door 35 = .ok (.bipush (-4), 2) := by decide +kernel
theorem dX1_door_37 : decode cX1_door 37 = .ok (.ireturn, 1) := by decide +kernel
theorem dX1_door_38 : decode cX1_door 38 = .ok (.aload_n 0, 1) := by decide +kernel
theorem dX1_door_39 : decode cX1_door 39 = .ok (.getfield 42, 3) := by decide +kernel
theorem dX1_door_42 : decode cX1_door 42 = .ok (.bipush 40, 2) := by decide +kernel
theorem dX1_door_44 : decode cX1_door 44 = .ok (.if_icmp .lt 6, 3) := by decide +kernel
theorem dX1_door_47 : decode cX1_door 47 = .ok (.bipush (-2), 2) := by decide +kernel
theorem dX1_door_49 : decode cX1_door 49 = .ok (.ireturn, 1) := by decide +kernel
theorem dX1_door_50 : decode cX1_door 50 = .ok (.aload_n 0, 1) := by decide +kernel
theorem dX1_door_51 : decode cX1_door 51 = .ok (.iconst 3, 1) := by decide +kernel
theorem dX1_door_52 : decode cX1_door 52 = .ok (.iload_n 1, 1) := by decide +kernel
theorem dX1_door_53 : decode cX1_door 53 = .ok (.iload_n 2, 1) := by decide +kernel
theorem dX1_door_54 : decode cX1_door 54 = .ok (.invokestatic 148, 3) := by decide +kernel
theorem dX1_door_57 : decode cX1_door 57 = .ok (.invokevirtual 152, 3) := by decide +kernel
theorem dX1_door_60 : decode cX1_door 60 = .ok (.iload_n 3, 1) := by decide +kernel
theorem dX1_door_61 : decode cX1_door 61 = .ok (.ireturn, 1) := by decide +kernel
theorem dX1_performAgain_0 : decode cX1_performAgain 0 = .ok (.aload_n 0, 1) := by decide +kernel
theorem dX1_performAgain_1 : decode cX1_performAgain 1 = .ok (.getfield 33, 3) := by decide +kernel
theorem dX1_performAgain_4 : decode cX1_performAgain 4 = .ok (.aload_n 0, 1) := by decide +kernel
theorem dX1_performAgain_5 : decode cX1_performAgain 5 = .ok (.getfield 29, 3) := by decide +kernel
theorem dX1_performAgain_8 : decode cX1_performAgain 8 = .ok (.invokevirtual 118, 3) := by decide +kernel
theorem dX1_performAgain_11 : decode cX1_performAgain 11 = .ok (.iconst 0, 1) := by decide +kernel
theorem dX1_performAgain_12 : decode cX1_performAgain 12 = .ok (.istore_n 1, 1) := by decide +kernel
theorem dX1_performAgain_13 : decode cX1_performAgain 13 = .ok (.iload_n 1, 1) := by decide +kernel
theorem dX1_performAgain_14 : decode cX1_performAgain 14 = .ok (.aload_n 0, 1) := by decide +kernel
theorem dX1_performAgain_15 : decode cX1_performAgain 15 = .ok (.getfield 42, 3) := by decide +kernel
theorem dX1_performAgain_18 : decode cX1_performAgain 18 = .ok (.if_icmp .ge 22, 3) := by decide +kernel
theorem dX1_performAgain_21 : decode cX1_performAgain 21 = .ok (.aload_n 0, 1) := by decide +kernel
theorem dX1_performAgain_22 : decode cX1_performAgain 22 = .ok (.getfield 33, 3) := by decide +kernel
theorem dX1_performAgain_25 : decode cX1_performAgain 25 = .ok (.aload_n 0, 1) := by decide +kernel
theorem dX1_performAgain_26 : decode cX1_performAgain 26 = .ok (.getfield 39, 3) := by decide +kernel
theorem dX1_performAgain_29 : decode cX1_performAgain 29 = .ok (.iload_n 1, 1) := by decide +kernel
theorem dX1_performAgain_30 : decode cX1_performAgain 30 = .ok (.iaload, 1) := by decide +kernel
theorem dX1_performAgain_31 : decode cX1_performAgain 31 = .ok (.invokevirtual 293, 3) := by decide +kernel
theorem dX1_performAgain_34 : decode cX1_performAgain 34 = .ok (.iinc 1 1, 3) := by decide +kernel
theorem dX1_performAgain_37 : decode cX1_performAgain 37 = .ok (.goto (-24), 3) := by decide +kernel
theorem dX1_performAgain_40 : decode cX1_performAgain 40 = .ok (.return_, 1) := by decide +kernel
theorem dX1_undo_0 : decode cX1_undo 0 = .ok (.iload_n 1, 1) := by decide +kernel
theorem dX1_undo_1 : decode cX1_undo 1 = .ok (.iconst 0, 1) := by decide +kernel
theorem dX1_undo_2 : decode cX1_undo 2 = .ok (.aload_n 0, 1) := by decide +kernel
theorem dX1_undo_3 : decode cX1_undo 3 = .ok (.getfield 42, 3) := by decide +kernel
theorem dX1_undo_6 : decode cX1_undo 6 = .ok (.invokestatic 128, 3) := by decide +kernel
theorem dX1_undo_9 : decode cX1_undo 9 = .ok (.ifCond .ne 5, 3) := by decide +kernel
theorem dX1_undo_12 : decode cX1_undo 12 = .ok (.iconst (-1), 1) := by decide +kernel
theorem dX1_undo_13 : decode cX1_undo 13 = .ok (.ireturn, 1) := by decide +kernel
theorem dX1_undo_14 : decode cX1_undo 14 = .ok (.aload_n 0, 1) := by decide +kernel
theorem dX1_undo_15 : decode cX1_undo 15 = .ok (.getfield 42, 3) := by decide +kernel
theorem dX1_undo_18 : decode cX1_undo 18 = .ok (.iload_n 1, 1) := by decide +kernel
theorem dX1_undo_19 : decode cX1_undo 19 = .ok (.isub, 1) := by decide +kernel
theorem dX1_undo_20 : decode cX1_undo 20 = .ok (.istore_n 2, 1) := by decide +kernel
theorem dX1_undo_21 : decode cX1_undo 21 = .ok (.aload_n 0, 1) := by decide +kernel
theorem dX1_undo_22 : decode cX1_undo 22 = .ok (.iload_n 1, 1) := by decide +kernel
theorem dX1_undo_23 : decode cX1_undo 23 = .ok (.putfield 42, 3) := by decide +kernel
theorem dX1_undo_26 : decode cX1_undo 26 = .ok (.aload_n 0, 1) := by decide +kernel
theorem dX1_undo_27 : decode cX1_undo 27 = .ok (.invokevirtual 165, 3) := by decide +kernel
theorem dX1_undo_30 : decode cX1_undo 30 = .ok (.iload_n 2, 1) := by decide +kernel
theorem dX1_undo_31 : decode cX1_undo 31 = .ok (.ireturn, 1) := by decide +kernel
theorem dX1_isKept_0 : decode cX1_isKept 0 = .ok (.iload_n 0, 1) := by decide +kernel
theorem dX1_isKept_1 : decode cX1_isKept 1 = .ok (.ifCond .lt 12, 3) := by decide +kernel
theorem dX1_isKept_4 : decode cX1_isKept 4 = .ok (.iload_n 0, 1) := by decide +kernel
theorem dX1_isKept_5 : decode cX1_isKept 5 = .ok (.iconst 3, 1) := by decide +kernel
theorem dX1_isKept_6 : decode cX1_isKept 6 = .ok (.if_icmp .ge 7, 3) := by decide +kernel
theorem dX1_isKept_9 : decode cX1_isKept 9 = .ok (.iconst 1, 1) := by decide +kernel
theorem dX1_isKept_10 : decode cX1_isKept 10 = .ok (.goto 4, 3) := by decide +kernel
theorem dX1_isKept_13 : decode cX1_isKept 13 = .ok (.iconst 0, 1) := by decide +kernel
theorem dX1_isKept_14 : decode cX1_isKept 14 = .ok (.ireturn, 1) := by decide +kernel
theorem dX1_keep_0 : decode cX1_keep 0 = .ok (.iload_n 1, 1) := by decide +kernel
theorem dX1_keep_1 : decode cX1_keep 1 = .ok (.invokestatic 168, 3) := by decide +kernel
theorem dX1_keep_4 : decode cX1_keep 4 = .ok (.ifCond .ne 5, 3) := by decide +kernel
theorem dX1_keep_7 : decode cX1_keep 7 = .ok (.iconst (-1), 1) := by decide +kernel
theorem dX1_keep_8 : decode cX1_keep 8 = .ok (.ireturn, 1) := by decide +kernel
theorem dX1_keep_9 : decode cX1_keep 9 = .ok (.aload_n 0, 1) := by decide +kernel
theorem dX1_keep_10 : decode cX1_keep 10 = .ok (.getfield 33, 3) := by decide +kernel
theorem dX1_keep_13 : decode cX1_keep 13 = .ok (.getfield 122, 3) := by decide +kernel
theorem dX1_keep_16 : decode cX1_keep 16 = .ok (.ifCond .ne 6, 3) := by decide +kernel
theorem dX1_keep_19 : decode cX1_keep 19 = .ok (.bipush (-4), 2) := by decide +kernel
theorem dX1_keep_21 : decode cX1_keep 21 = .ok (.ireturn, 1) := by decide +kernel
theorem dX1_keep_22 : decode cX1_keep 22 = .ok (.aload_n 0, 1) := by decide +kernel
theorem dX1_keep_23 : decode cX1_keep 23 = .ok (.getfield 39, 3) := by decide +kernel
theorem dX1_keep_26 : decode cX1_keep 26 = .ok (.iconst 0, 1) := by decide +kernel
theorem dX1_keep_27 : decode cX1_keep 27 = .ok (.aload_n 0, 1) := by decide +kernel
theorem dX1_keep_28 : decode cX1_keep 28 = .ok (.getfield 46, 3) := by decide +kernel
theorem dX1_keep_31 : decode cX1_keep 31 = .ok (.iload_n 1, 1) := by decide +kernel
theorem dX1_keep_32 : decode cX1_keep 32 = .ok (.aaload, 1) := by decide +kernel
theorem dX1_keep_33 : decode cX1_keep 33 = .ok (.iconst 0, 1) := by decide +kernel
theorem dX1_keep_34 : decode cX1_keep 34 = .ok (.aload_n 0, 1) := by decide +kernel
theorem dX1_keep_35 : decode cX1_keep 35 = .ok (.getfield 42, 3) := by decide +kernel
theorem dX1_keep_38 : decode cX1_keep 38 = .ok (.invokestatic 102, 3) := by decide +kernel
theorem dX1_keep_41 : decode cX1_keep 41 = .ok (.aload_n 0, 1) := by decide +kernel
theorem dX1_keep_42 : decode cX1_keep 42 = .ok (.getfield 49, 3) := by decide +kernel
theorem dX1_keep_45 : decode cX1_keep 45 = .ok (.iload_n 1, 1) := by decide +kernel
theorem dX1_keep_46 : decode cX1_keep 46 = .ok (.aload_n 0, 1) := by decide +kernel
theorem dX1_keep_47 : decode cX1_keep 47 = .ok (.getfield 42, 3) := by decide +kernel
theorem dX1_keep_50 : decode cX1_keep 50 = .ok (.iastore, 1) := by decide +kernel
theorem dX1_keep_51 : decode cX1_keep 51 = .ok (.aload_n 0, 1) := by decide +kernel
theorem dX1_keep_52 : decode cX1_keep 52 = .ok (.getfield 42, 3) := by decide +kernel
theorem dX1_keep_55 : decode cX1_keep 55 = .ok (.ireturn, 1) := by decide +kernel
theorem mt_X1_pastBlanks : Cond.static yX1_pastBlanks ∈ gd_tbl ∧ Cond.initialized yX1_pastBlanks.cls ∈ gd_tbl ∧ Cond.code yX1_pastBlanks cX1_pastBlanks 4 (some .int) ∈ gd_tbl := ⟨in_gd (i := 201) (by decide +kernel) rfl, in_gd (i := 36) (by decide +kernel) rfl, in_gd (i := 202) (by decide +kernel) rfl⟩
theorem yo_X1_pastBlanks : yOk yX1_pastBlanks 3 := ⟨by decide, by decide, by decide +kernel⟩
theorem l_X1_261 : mlS RX1 261 yX1_pastBlanks cX1_pastBlanks 4 (some .int) := ⟨in_gd (i := 200) (by decide +kernel) rfl, mt_X1_pastBlanks⟩
theorem mt_X0_settle : (Cond.instanceMethod yX0_settle ∈ gd_tbl ∧ Cond.selects yX0_settle.cls yX0_settle yX0_settle ∈ gd_tbl) ∧ Cond.initialized yX0_settle.cls ∈ gd_tbl ∧ Cond.code yX0_settle cX0_settle 2 (none) ∈ gd_tbl := ⟨⟨in_gd (i := 208) (by decide +kernel) rfl, in_gd (i := 5) (by decide +kernel) rfl⟩, in_gd (i := 37) (by decide +kernel) rfl, in_gd (i := 209) (by decide +kernel) rfl⟩
theorem yo_X0_settle : yOk yX0_settle 1 := ⟨by decide, by decide, by decide +kernel⟩
theorem l_X1_269 : mlW RX1 269 yX0_settle cX0_settle 2 (none) "DareFord" := ⟨in_ns (i := 206) (by decide +kernel) rfl, mt_X0_settle⟩
theorem mt_X1_readPersonAside : (Cond.instanceMethod yX1_readPersonAside ∈ gd_tbl ∧ Cond.selects yX1_readPersonAside.cls yX1_readPersonAside yX1_readPersonAside ∈ gd_tbl) ∧ Cond.initialized yX1_readPersonAside.cls ∈ gd_tbl ∧ Cond.code yX1_readPersonAside cX1_readPersonAside 7 (some .int) ∈ gd_tbl := ⟨⟨in_gd (i := 212) (by decide +kernel) rfl, in_gd (i := 6) (by decide +kernel) rfl⟩, in_gd (i := 36) (by decide +kernel) rfl, in_gd (i := 213) (by decide +kernel) rfl⟩
theorem yo_X1_readPersonAside : yOk yX1_readPersonAside 3 := ⟨by decide, by decide, by decide +kernel⟩
theorem l_X1_272 : mlV RX1 272 yX1_readPersonAside cX1_readPersonAside 7 (some .int) := ⟨in_gd (i := 210) (by decide +kernel) rfl, mt_X1_readPersonAside⟩
theorem mt_X1_readAside : (Cond.instanceMethod yX1_readAside ∈ gd_tbl ∧ Cond.selects yX1_readAside.cls yX1_readAside yX1_readAside ∈ gd_tbl) ∧ Cond.initialized yX1_readAside.cls ∈ gd_tbl ∧ Cond.code yX1_readAside cX1_readAside 7 (some .int) ∈ gd_tbl := ⟨⟨in_gd (i := 198) (by decide +kernel) rfl, in_gd (i := 4) (by decide +kernel) rfl⟩, in_gd (i := 36) (by decide +kernel) rfl, in_gd (i := 199) (by decide +kernel) rfl⟩
theorem yo_X1_readAside : yOk yX1_readAside 2 := ⟨by decide, by decide, by decide +kernel⟩
theorem l_X1_114 : mlV RX1 114 yX1_readAside cX1_readAside 7 (some .int) := ⟨in_gd (i := 196) (by decide +kernel) rfl, mt_X1_readAside⟩
theorem fl_X1_29 : FLk RX1 29 1 4 := Or.inl (in_gd (i := 97) (by decide +kernel) rfl)
theorem fl_X1_33 : FLk RX1 33 1 5 := Or.inl (in_gd (i := 98) (by decide +kernel) rfl)
theorem fl_X1_49 : FLk RX1 49 1 10 := Or.inl (in_gd (i := 103) (by decide +kernel) rfl)
theorem mt_X0_become : (Cond.instanceMethod yX0_become ∈ gd_tbl ∧ Cond.selects yX0_become.cls yX0_become yX0_become ∈ gd_tbl) ∧ Cond.initialized yX0_become.cls ∈ gd_tbl ∧ Cond.code yX0_become cX0_become 2 (none) ∈ gd_tbl := ⟨⟨in_gd (i := 223) (by decide +kernel) rfl, in_gd (i := 8) (by decide +kernel) rfl⟩, in_gd (i := 37) (by decide +kernel) rfl, in_gd (i := 224) (by decide +kernel) rfl⟩
theorem yo_X0_become : yOk yX0_become 1 := ⟨by decide, by decide, by decide +kernel⟩
theorem l_X1_118 : mlW RX1 118 yX0_become cX0_become 2 (none) "DareFord" := ⟨in_ns (i := 221) (by decide +kernel) rfl, mt_X0_become⟩
theorem fl_X1_42 : FLk RX1 42 1 8 := Or.inl (in_gd (i := 101) (by decide +kernel) rfl)
theorem l_X1_125 : mlW RX1 125 yX0_has cX0_has 2 (some .boolean) "DareFord" := ⟨in_ns (i := 297) (by decide +kernel) rfl, mt_X0_has⟩
theorem mt_X0_told : (Cond.instanceMethod yX0_told ∈ gd_tbl ∧ Cond.selects yX0_told.cls yX0_told yX0_told ∈ gd_tbl) ∧ Cond.initialized yX0_told.cls ∈ gd_tbl ∧ Cond.code yX0_told cX0_told 3 (some .int) ∈ gd_tbl := ⟨⟨in_gd (i := 507) (by decide +kernel) rfl, in_gd (i := 34) (by decide +kernel) rfl⟩, in_gd (i := 37) (by decide +kernel) rfl, in_gd (i := 508) (by decide +kernel) rfl⟩
theorem yo_X0_told : yOk yX0_told 2 := ⟨by decide, by decide, by decide +kernel⟩
theorem l_X1_132 : mlW RX1 132 yX0_told cX0_told 3 (some .int) "DareFord" := ⟨in_ns (i := 505) (by decide +kernel) rfl, mt_X0_told⟩
theorem fl_X1_39 : FLk RX1 39 1 7 := Or.inl (in_gd (i := 100) (by decide +kernel) rfl)
theorem mt_X0_undergo : (Cond.instanceMethod yX0_undergo ∈ gd_tbl ∧ Cond.selects yX0_undergo.cls yX0_undergo yX0_undergo ∈ gd_tbl) ∧ Cond.initialized yX0_undergo.cls ∈ gd_tbl ∧ Cond.code yX0_undergo cX0_undergo 5 (none) ∈ gd_tbl := ⟨⟨in_gd (i := 272) (by decide +kernel) rfl, in_gd (i := 14) (by decide +kernel) rfl⟩, in_gd (i := 37) (by decide +kernel) rfl, in_gd (i := 273) (by decide +kernel) rfl⟩
theorem yo_X0_undergo : yOk yX0_undergo 1 := ⟨by decide, by decide, by decide +kernel⟩
theorem l_X1_293 : mlW RX1 293 yX0_undergo cX0_undergo 5 (none) "DareFord" := ⟨in_ns (i := 270) (by decide +kernel) rfl, mt_X0_undergo⟩
theorem l_X1_145 : mlW RX1 145 yX0_holder cX0_holder 6 (some .int) "DareFord" := ⟨in_ns (i := 232) (by decide +kernel) rfl, mt_X0_holder⟩
theorem mt_X1_deedOf : Cond.static yX1_deedOf ∈ gd_tbl ∧ Cond.initialized yX1_deedOf.cls ∈ gd_tbl ∧ Cond.code yX1_deedOf cX1_deedOf 3 (some .int) ∈ gd_tbl := ⟨in_gd (i := 264) (by decide +kernel) rfl, in_gd (i := 36) (by decide +kernel) rfl, in_gd (i := 265) (by decide +kernel) rfl⟩
theorem yo_X1_deedOf : yOk yX1_deedOf 3 := ⟨by decide, by decide, by decide +kernel⟩
theorem l_X1_148 : mlS RX1 148 yX1_deedOf cX1_deedOf 3 (some .int) := ⟨in_gd (i := 263) (by decide +kernel) rfl, mt_X1_deedOf⟩
theorem mt_X1_perform : (Cond.instanceMethod yX1_perform ∈ gd_tbl ∧ Cond.selects yX1_perform.cls yX1_perform yX1_perform ∈ gd_tbl) ∧ Cond.initialized yX1_perform.cls ∈ gd_tbl ∧ Cond.code yX1_perform cX1_perform 2 (none) ∈ gd_tbl := ⟨⟨in_gd (i := 268) (by decide +kernel) rfl, in_gd (i := 13) (by decide +kernel) rfl⟩, in_gd (i := 36) (by decide +kernel) rfl, in_gd (i := 269) (by decide +kernel) rfl⟩
theorem yo_X1_perform : yOk yX1_perform 1 := ⟨by decide, by decide, by decide +kernel⟩
theorem l_X1_152 : mlV RX1 152 yX1_perform cX1_perform 2 (none) := ⟨in_gd (i := 266) (by decide +kernel) rfl, mt_X1_perform⟩
theorem fl_X1_156 : FLk RX1 156 0 2 := Or.inr ⟨"DareFord", in_ns (i := 64) (by decide +kernel) rfl⟩
theorem fl_X1_162 : FLk RX1 162 0 1 := Or.inr ⟨"DareFord", in_ns (i := 62) (by decide +kernel) rfl⟩
theorem mt_X1_isPlace : Cond.static yX1_isPlace ∈ gd_tbl ∧ Cond.initialized yX1_isPlace.cls ∈ gd_tbl ∧ Cond.code yX1_isPlace cX1_isPlace 1 (some .boolean) ∈ gd_tbl := ⟨in_gd (i := 441) (by decide +kernel) rfl, in_gd (i := 36) (by decide +kernel) rfl, in_gd (i := 442) (by decide +kernel) rfl⟩
theorem yo_X1_isPlace : yOk yX1_isPlace 1 := ⟨by decide, by decide, by decide +kernel⟩
theorem l_X1_159 : mlS RX1 159 yX1_isPlace cX1_isPlace 1 (some .boolean) := ⟨in_gd (i := 440) (by decide +kernel) rfl, mt_X1_isPlace⟩
theorem mt_X1_performAgain : (Cond.instanceMethod yX1_performAgain ∈ gd_tbl ∧ Cond.selects yX1_performAgain.cls yX1_performAgain yX1_performAgain ∈ gd_tbl) ∧ Cond.initialized yX1_performAgain.cls ∈ gd_tbl ∧ Cond.code yX1_performAgain cX1_performAgain 2 (none) ∈ gd_tbl := ⟨⟨in_gd (i := 308) (by decide +kernel) rfl, in_gd (i := 17) (by decide +kernel) rfl⟩, in_gd (i := 36) (by decide +kernel) rfl, in_gd (i := 309) (by decide +kernel) rfl⟩
theorem yo_X1_performAgain : yOk yX1_performAgain 0 := ⟨by decide, by decide, by decide +kernel⟩
theorem l_X1_165 : mlV RX1 165 yX1_performAgain cX1_performAgain 2 (none) := ⟨in_gd (i := 306) (by decide +kernel) rfl, mt_X1_performAgain⟩
theorem fl_X1_46 : FLk RX1 46 1 9 := Or.inl (in_gd (i := 102) (by decide +kernel) rfl)
theorem mt_X1_isKept : Cond.static yX1_isKept ∈ gd_tbl ∧ Cond.initialized yX1_isKept.cls ∈ gd_tbl ∧ Cond.code yX1_isKept cX1_isKept 1 (some .boolean) ∈ gd_tbl := ⟨in_gd (i := 315) (by decide +kernel) rfl, in_gd (i := 36) (by decide +kernel) rfl, in_gd (i := 316) (by decide +kernel) rfl⟩
theorem yo_X1_isKept : yOk yX1_isKept 1 := ⟨by decide, by decide, by decide +kernel⟩
theorem l_X1_168 : mlS RX1 168 yX1_isKept cX1_isKept 1 (some .boolean) := ⟨in_gd (i := 314) (by decide +kernel) rfl, mt_X1_isKept⟩
theorem jl_X1_102 : Cond.methodLink RX1 102 arraycopyName ∈ gd_tbl := in_gd (i := 317) (by decide +kernel) rfl
def fX1_readAside_L71 (K6 : Mem → Option (Int × Mem)) (p2 : Int) (p1 : Nat) : Nat → Int → Int → Mem → Option (Int × Mem)
  | 0, _, _, _ => none
  | n11 + 1, x8, x9, μ10 =>
    if 6 < x9 then
      K6 μ10
    else
      if p2 ≤ x8 then
        K6 μ10
      else
        bnd2 (fX1_readPersonAside p1 p2 x8 μ10) fun x12 μ13 =>
        if x12 = (-9) then
          (fX1_pastBlanks p1 p2 (w32 (x8 + 4)) μ13).bind fun x14 =>
          mlet (w32 (x9 + 1)) fun x15 =>
          fX1_readAside_L71 K6 p2 p1 n11 x14 x15 μ13
        else
          some (x12, μ13)
def fX1_readAside (p1 : Nat) (p2 : Int) (μ : Mem) : Option (Int × Mem) :=
  (fX1_pastBlanks p1 p2 0 μ).bind fun x1 =>
  if p2 ≤ x1 then
    some (x1, μ)
  else
    grd (0 ≤ x1 ∧ x1 < 60) <|
    if (μ p1 (x1).toNat) = 102 then
      (fX1_firstNoFigure p1 p2 (w32 (x1 + 1)) 1 μ).bind fun x2 =>
      if x2 = (-9) then
        grd (0 ≤ (w32 (x1 + 1)) ∧ (w32 (x1 + 1)) < 60) <|
        (fX0_settle 25 (w32 ((μ p1 ((w32 (x1 + 1))).toNat) - 48)) μ).bind fun μ3 =>
        (fX1_pastBlanks p1 p2 (w32 (x1 + 2)) μ3).bind fun x4 =>
        mlet (fun (μ5 : Mem) =>
          if ¬ (μ5 25 4) = 0 then
            some ((-9), μ5)
          else
            some (p2, μ5)
          ) fun (K6 : Mem → Option (Int × Mem)) =>
        fX1_readAside_L71 K6 p2 p1 fuel x4 0 μ3
      else
        some (x2, μ)
    else
      some (x1, μ)
theorem K_X1_readAside {σ : Scr} {p1 : Nat} (hp1 : isTx p1) (p2 : Int)  (μ : Mem) : Con σ yX1_readAside cX1_readAside 7 (some .int) 4 [.inr (.inr 0), .inr (.inr p1), .inl p2] μ (fX1_readAside p1 p2 μ) wI := by
  refine con_of (own := RX1) (by decide) rfl (Nat.le_of_ble_eq_true rfl) ?_
  show Sim σ cX1_readAside 7 RX1 (4) (some .int) wI 0 [(0, .inr (.inr 0)), (1, .inr (.inr p1)), (2, .inl p2)] [] μ (fX1_readAside p1 p2 μ)
  unfold fX1_readAside
  refine S_aload_n dX1_readAside_0 rfl ?_
  refine S_iload_n dX1_readAside_1 rfl ?_
  refine S_iconst dX1_readAside_2 rfl ?_
  refine S_callS_I dX1_readAside_3 [.inr (.inr p1), .inl p2, .inl 0] (K_X1_pastBlanks hp1 p2 0 μ) l_X1_261 yo_X1_pastBlanks rfl rfl rfl (fun x1 => ?_)
  refine S_istore_n (lv' := [(3, .inl x1), (0, .inr (.inr 0)), (1, .inr (.inr p1)), (2, .inl p2)]) dX1_readAside_6 rfl rfl ?_
  refine S_iload_n dX1_readAside_7 rfl ?_
  refine S_iload_n dX1_readAside_8 rfl ?_
  refine S_ic_ge (tgt := 20) dX1_readAside_9 (by decide) (fun h21 => ?_) (fun h21 => ?_)
  · refine S_iload_n dX1_readAside_20 rfl ?_
    exact S_iret dX1_readAside_21 rfl rfl
  · refine S_aload_n dX1_readAside_12 rfl ?_
    refine S_iload_n dX1_readAside_13 rfl ?_
    refine S_bald (N := 60) dX1_readAside_14 (kd_text hp1) (tx_lt hp1) rfl ?_
    refine S_bipush dX1_readAside_15 rfl (by decide) ?_
    refine S_ic_eq (tgt := 22) dX1_readAside_17 (by decide) (fun h20 => ?_) (fun h20 => ?_)
    · refine S_aload_n dX1_readAside_22 rfl ?_
      refine S_iload_n dX1_readAside_23 rfl ?_
      refine S_iload_n dX1_readAside_24 rfl ?_
      refine S_iconst dX1_readAside_25 rfl ?_
      refine S_iadd dX1_readAside_26 ?_
      refine S_iconst dX1_readAside_27 rfl ?_
      refine S_callS_I dX1_readAside_28 [.inr (.inr p1), .inl p2, .inl (w32 (x1 + 1)), .inl 1] (K_X1_firstNoFigure hp1 p2 (w32 (x1 + 1)) 1 μ) l_X1_265 yo_X1_firstNoFigure rfl rfl rfl (fun x2 => ?_)
      refine S_istore (lv' := [(4, .inl x2), (3, .inl x1), (0, .inr (.inr 0)), (1, .inr (.inr p1)), (2, .inl p2)]) dX1_readAside_31 rfl rfl ?_
      refine S_iload dX1_readAside_33 rfl ?_
      refine S_bipush dX1_readAside_35 rfl (by decide) ?_
      refine S_ic_eq (tgt := 43) dX1_readAside_37 (by decide) (fun h19 => ?_) (fun h19 => ?_)
      · refine S_aload_n dX1_readAside_43 rfl ?_
        refine S_getR (c1 := 25) dX1_readAside_44 rfl fl_X1_36 rfl rfl rfl ?_
        refine S_aload_n dX1_readAside_47 rfl ?_
        refine S_iload_n dX1_readAside_48 rfl ?_
        refine S_iconst dX1_readAside_49 rfl ?_
        refine S_iadd dX1_readAside_50 ?_
        refine S_bald (N := 60) dX1_readAside_51 (kd_text hp1) (tx_lt hp1) rfl ?_
        refine S_bipush dX1_readAside_52 rfl (by decide) ?_
        refine S_isub dX1_readAside_54 ?_
        refine S_callW_V dX1_readAside_55 [.inl (w32 ((μ p1 ((w32 (x1 + 1))).toNat) - 48))] (K_X0_settle (by unfold isBk; decide) (w32 ((μ p1 ((w32 (x1 + 1))).toNat) - 48)) μ) l_X1_269 yo_X0_settle rfl rfl rfl rfl rfl (fun μ3 => ?_)
        refine S_aload_n dX1_readAside_58 rfl ?_
        refine S_iload_n dX1_readAside_59 rfl ?_
        refine S_iload_n dX1_readAside_60 rfl ?_
        refine S_iconst dX1_readAside_61 rfl ?_
        refine S_iadd dX1_readAside_62 ?_
        refine S_callS_I dX1_readAside_63 [.inr (.inr p1), .inl p2, .inl (w32 (x1 + 2))] (K_X1_pastBlanks hp1 p2 (w32 (x1 + 2)) μ3) l_X1_261 yo_X1_pastBlanks rfl rfl rfl (fun x4 => ?_)
        refine S_istore (lv' := [(5, .inl x4), (4, .inl x2), (3, .inl x1), (0, .inr (.inr 0)), (1, .inr (.inr p1)), (2, .inl p2)]) dX1_readAside_66 rfl rfl ?_
        refine S_iconst dX1_readAside_68 rfl ?_
        refine S_istore (lv' := [(6, .inl 0), (5, .inl x4), (4, .inl x2), (3, .inl x1), (0, .inr (.inr 0)), (1, .inr (.inr p1)), (2, .inl p2)]) dX1_readAside_69 rfl rfl ?_
        refine S_jn (fun (K6 : Mem → Option (Int × Mem)) => ∀ (μ5 : Mem), Sim σ cX1_readAside 7 RX1 (4) (some .int) wI 121 [(0, .inr (.inr 0)), (2, .inl p2)] [] μ5 (K6 μ5)) ?_ (fun K6 hK6 => ?_)
        · intro μ5
          refine S_aload_n dX1_readAside_121 rfl ?_
          refine S_getR (c1 := 25) dX1_readAside_122 rfl fl_X1_36 rfl rfl rfl ?_
          refine S_getI dX1_readAside_125 rfl fl_X1_122 rfl rfl ?_
          refine S_if_ne (tgt := 135) dX1_readAside_128 (by decide) (fun h7 => ?_) (fun h7 => ?_)
          · refine S_bipush dX1_readAside_135 rfl (by decide) ?_
            exact S_iret dX1_readAside_137 rfl rfl
          · refine S_iload_n dX1_readAside_131 rfl ?_
            refine S_goto (tgt := 137) dX1_readAside_132 (by decide) ?_
            exact S_iret dX1_readAside_137 rfl rfl
        have hL71 : ∀ (n11 : Nat) (x8 : Int) (x9 : Int) (μ10 : Mem), Sim σ cX1_readAside 7 RX1 (4) (some .int) wI 71 [(0, .inr (.inr 0)), (1, .inr (.inr p1)), (2, .inl p2), (5, .inl x8), (6, .inl x9)] [] μ10 (fX1_readAside_L71 K6 p2 p1 n11 x8 x9 μ10) := by
          intro n11
          induction n11 with
          | zero =>
            intro x8 x9 μ10
            exact S_none rfl
          | succ n11 ih =>
            intro x8 x9 μ10
            rw [fX1_readAside_L71]
            refine S_iload dX1_readAside_71 rfl ?_
            refine S_bipush dX1_readAside_73 rfl (by decide) ?_
            refine S_ic_gt (tgt := 121) dX1_readAside_75 (by decide) (fun h18 => ?_) (fun h18 => ?_)
            · exact S_sub [0, 2] rfl (hK6 μ10)
            · refine S_iload dX1_readAside_78 rfl ?_
              refine S_iload_n dX1_readAside_80 rfl ?_
              refine S_ic_ge (tgt := 121) dX1_readAside_81 (by decide) (fun h17 => ?_) (fun h17 => ?_)
              · exact S_sub [0, 2] rfl (hK6 μ10)
              · refine S_aload_n dX1_readAside_84 rfl ?_
                refine S_aload_n dX1_readAside_85 rfl ?_
                refine S_iload_n dX1_readAside_86 rfl ?_
                refine S_iload dX1_readAside_87 rfl ?_
                refine S_callV_M2 dX1_readAside_89 [.inr (.inr p1), .inl p2, .inl x8] (K_X1_readPersonAside hp1 p2 x8 μ10) l_X1_272 yo_X1_readPersonAside rfl rfl rfl rfl rfl (fun x12 μ13 => ?_)
                refine S_istore (lv' := [(4, .inl x12), (0, .inr (.inr 0)), (1, .inr (.inr p1)), (2, .inl p2), (5, .inl x8), (6, .inl x9)]) dX1_readAside_92 rfl rfl ?_
                refine S_iload dX1_readAside_94 rfl ?_
                refine S_bipush dX1_readAside_96 rfl (by decide) ?_
                refine S_ic_eq (tgt := 104) dX1_readAside_98 (by decide) (fun h16 => ?_) (fun h16 => ?_)
                · refine S_aload_n dX1_readAside_104 rfl ?_
                  refine S_iload_n dX1_readAside_105 rfl ?_
                  refine S_iload dX1_readAside_106 rfl ?_
                  refine S_iconst dX1_readAside_108 rfl ?_
                  refine S_iadd dX1_readAside_109 ?_
                  refine S_callS_I dX1_readAside_110 [.inr (.inr p1), .inl p2, .inl (w32 (x8 + 4))] (K_X1_pastBlanks hp1 p2 (w32 (x8 + 4)) μ13) l_X1_261 yo_X1_pastBlanks rfl rfl rfl (fun x14 => ?_)
                  refine S_istore (lv' := [(5, .inl x14), (4, .inl x12), (0, .inr (.inr 0)), (1, .inr (.inr p1)), (2, .inl p2), (6, .inl x9)]) dX1_readAside_113 rfl rfl ?_
                  refine S_iinc (lv' := fun x15 => [(6, .inl x15), (5, .inl x14), (4, .inl x12), (0, .inr (.inr 0)), (1, .inr (.inr p1)), (2, .inl p2)]) dX1_readAside_115 rfl rfl rfl (fun _ => rfl) (fun x15 => ?_)
                  refine S_goto (tgt := 71) dX1_readAside_118 (by decide) ?_
                  exact S_sub [3, 4, 5, 1, 0] rfl (ih x14 x15 μ13)
                · refine S_iload dX1_readAside_101 rfl ?_
                  exact S_iret dX1_readAside_103 rfl rfl
        exact S_sub [4, 5, 6, 1, 0] rfl (hL71 fuel x4 0 μ3)
      · refine S_iload dX1_readAside_40 rfl ?_
        exact S_iret dX1_readAside_42 rfl rfl
    · refine S_iload_n dX1_readAside_20 rfl ?_
      exact S_iret dX1_readAside_21 rfl rfl
def fX1_fault (p1 : Int) (μ : Mem) : Option (Int × Mem) :=
  (fX1_isText p1 μ).bind fun x1 =>
  if ¬ x1 = 0 then
    grd (0 ≤ p1 ∧ p1 < 4) <|
    if 0 ≤ (μ 14 (p1).toNat) then
      grd (0 ≤ p1 ∧ p1 < 4) <|
      mlet (10 + (p1).toNat) fun c2 =>
      grd (0 ≤ p1 ∧ p1 < 4) <|
      bnd2 (fX1_readAside c2 (μ 14 (p1).toNat) μ) fun x3 μ4 =>
      some (x3, μ4)
    else
      bnd2 (fX1_found 1 μ) fun x5 μ6 =>
      some (x5, μ6)
  else
    some ((-1), μ)
theorem K_X1_fault {σ : Scr}  (p1 : Int)  (μ : Mem) : Con σ yX1_fault cX1_fault 2 (some .int) 5 [.inr (.inr 0), .inl p1] μ (fX1_fault p1 μ) wI := by
  refine con_of (own := RX1) (by decide) rfl (Nat.le_of_ble_eq_true rfl) ?_
  show Sim σ cX1_fault 2 RX1 (5) (some .int) wI 0 [(0, .inr (.inr 0)), (1, .inl p1)] [] μ (fX1_fault p1 μ)
  unfold fX1_fault
  refine S_iload_n dX1_fault_0 rfl ?_
  refine S_callS_I dX1_fault_1 [.inl p1] (K_X1_isText p1 μ) l_X1_108 yo_X1_isText rfl rfl rfl (fun x1 => ?_)
  refine S_if_ne (tgt := 9) dX1_fault_4 (by decide) (fun h8 => ?_) (fun h8 => ?_)
  · refine S_aload_n dX1_fault_9 rfl ?_
    refine S_getR (c1 := 14) dX1_fault_10 rfl fl_X1_23 rfl rfl rfl ?_
    refine S_iload_n dX1_fault_13 rfl ?_
    refine S_iald (N := 4) dX1_fault_14 rfl (by decide) rfl ?_
    refine S_if_ge (tgt := 24) dX1_fault_15 (by decide) (fun h7 => ?_) (fun h7 => ?_)
    · refine S_aload_n dX1_fault_24 rfl ?_
      refine S_aload_n dX1_fault_25 rfl ?_
      refine S_getR (c1 := 9) dX1_fault_26 rfl fl_X1_20 rfl rfl rfl ?_
      refine S_iload_n dX1_fault_29 rfl ?_
      refine S_aald (N := 4) (c1 := 10) (c2 := 14) dX1_fault_30 rfl (by decide) (by decide) rfl rfl rfl (fun c2 hc2 => ?_)
      refine S_aload_n dX1_fault_31 rfl ?_
      refine S_getR (c1 := 14) dX1_fault_32 rfl fl_X1_23 rfl rfl rfl ?_
      refine S_iload_n dX1_fault_35 rfl ?_
      refine S_iald (N := 4) dX1_fault_36 rfl (by decide) rfl ?_
      refine S_callV_M2 dX1_fault_37 [.inr (.inr c2), .inl (μ 14 (p1).toNat)] (K_X1_readAside hc2 (μ 14 (p1).toNat) μ) l_X1_114 yo_X1_readAside rfl rfl rfl rfl rfl (fun x3 μ4 => ?_)
      exact S_iret dX1_fault_40 rfl rfl
    · refine S_aload_n dX1_fault_18 rfl ?_
      refine S_iconst dX1_fault_19 rfl ?_
      refine S_callV_M2 dX1_fault_20 [.inl 1] (K_X1_found 1 μ) l_X1_87 yo_X1_found rfl rfl rfl rfl rfl (fun x5 μ6 => ?_)
      exact S_iret dX1_fault_23 rfl rfl
  · refine S_iconst dX1_fault_7 rfl ?_
    exact S_iret dX1_fault_8 rfl rfl
def fX1_river (p1 : Int) (μ : Mem) : Option (Int × Mem) :=
  (fX1_isText p1 μ).bind fun x1 =>
  if ¬ x1 = 0 then
    grd (0 ≤ p1 ∧ p1 < 4) <|
    if 0 ≤ (μ 14 (p1).toNat) then
      grd (0 ≤ p1 ∧ p1 < 4) <|
      mlet (10 + (p1).toNat) fun c2 =>
      grd (0 ≤ p1 ∧ p1 < 4) <|
      bnd2 (fX1_readAside c2 (μ 14 (p1).toNat) μ) fun x3 μ4 =>
      if x3 = (-9) then
        (fX0_become 15 25 μ4).bind fun μ5 =>
        (fX0_become 20 25 μ5).bind fun μ6 =>
        mlet (wr μ6 0 8 0) fun μ7 =>
        (some (filM μ7 35 3 (-1))).bind fun μ8 =>
        some ((μ8 20 4), μ8)
      else
        some ((-4), μ4)
    else
      bnd2 (fX1_found 1 μ) fun x10 μ11 =>
      some (x10, μ11)
  else
    some ((-1), μ)
theorem K_X1_river {σ : Scr}  (p1 : Int)  (μ : Mem) : Con σ yX1_river cX1_river 2 (some .int) 5 [.inr (.inr 0), .inl p1] μ (fX1_river p1 μ) wI := by
  refine con_of (own := RX1) (by decide) rfl (Nat.le_of_ble_eq_true rfl) ?_
  show Sim σ cX1_river 2 RX1 (5) (some .int) wI 0 [(0, .inr (.inr 0)), (1, .inl p1)] [] μ (fX1_river p1 μ)
  unfold fX1_river
  refine S_iload_n dX1_river_0 rfl ?_
  refine S_callS_I dX1_river_1 [.inl p1] (K_X1_isText p1 μ) l_X1_108 yo_X1_isText rfl rfl rfl (fun x1 => ?_)
  refine S_if_ne (tgt := 9) dX1_river_4 (by decide) (fun h13 => ?_) (fun h13 => ?_)
  · refine S_aload_n dX1_river_9 rfl ?_
    refine S_getR (c1 := 14) dX1_river_10 rfl fl_X1_23 rfl rfl rfl ?_
    refine S_iload_n dX1_river_13 rfl ?_
    refine S_iald (N := 4) dX1_river_14 rfl (by decide) rfl ?_
    refine S_if_ge (tgt := 24) dX1_river_15 (by decide) (fun h12 => ?_) (fun h12 => ?_)
    · refine S_aload_n dX1_river_24 rfl ?_
      refine S_aload_n dX1_river_25 rfl ?_
      refine S_getR (c1 := 9) dX1_river_26 rfl fl_X1_20 rfl rfl rfl ?_
      refine S_iload_n dX1_river_29 rfl ?_
      refine S_aald (N := 4) (c1 := 10) (c2 := 14) dX1_river_30 rfl (by decide) (by decide) rfl rfl rfl (fun c2 hc2 => ?_)
      refine S_aload_n dX1_river_31 rfl ?_
      refine S_getR (c1 := 14) dX1_river_32 rfl fl_X1_23 rfl rfl rfl ?_
      refine S_iload_n dX1_river_35 rfl ?_
      refine S_iald (N := 4) dX1_river_36 rfl (by decide) rfl ?_
      refine S_callV_M2 dX1_river_37 [.inr (.inr c2), .inl (μ 14 (p1).toNat)] (K_X1_readAside hc2 (μ 14 (p1).toNat) μ) l_X1_114 yo_X1_readAside rfl rfl rfl rfl rfl (fun x3 μ4 => ?_)
      refine S_bipush dX1_river_40 rfl (by decide) ?_
      refine S_ic_eq (tgt := 48) dX1_river_42 (by decide) (fun h9 => ?_) (fun h9 => ?_)
      · refine S_aload_n dX1_river_48 rfl ?_
        refine S_getR (c1 := 15) dX1_river_49 rfl fl_X1_29 rfl rfl rfl ?_
        refine S_aload_n dX1_river_52 rfl ?_
        refine S_getR (c1 := 25) dX1_river_53 rfl fl_X1_36 rfl rfl rfl ?_
        refine S_callW_V dX1_river_56 [.inr (.inr 25)] (K_X0_become (by unfold isBk; decide) (by unfold isBk; decide) μ4) l_X1_118 yo_X0_become rfl rfl rfl rfl rfl (fun μ5 => ?_)
        refine S_aload_n dX1_river_59 rfl ?_
        refine S_getR (c1 := 20) dX1_river_60 rfl fl_X1_33 rfl rfl rfl ?_
        refine S_aload_n dX1_river_63 rfl ?_
        refine S_getR (c1 := 25) dX1_river_64 rfl fl_X1_36 rfl rfl rfl ?_
        refine S_callW_V dX1_river_67 [.inr (.inr 25)] (K_X0_become (by unfold isBk; decide) (by unfold isBk; decide) μ5) l_X1_118 yo_X0_become rfl rfl rfl rfl rfl (fun μ6 => ?_)
        refine S_aload_n dX1_river_70 rfl ?_
        refine S_iconst dX1_river_71 rfl ?_
        refine S_putI dX1_river_72 rfl fl_X1_42 rfl rfl rfl rfl (fun μ7 => ?_)
        refine S_aload_n dX1_river_75 rfl ?_
        refine S_getR (c1 := 35) dX1_river_76 rfl fl_X1_49 rfl rfl rfl ?_
        refine S_iconst dX1_river_79 rfl ?_
        refine S_callS_V dX1_river_80 [.inr (.inr 35), .inl (-1)] (K_fillI rfl (by decide) (by decide) (-1) μ7) jl_X1_77 jy_fillI rfl rfl rfl (fun μ8 => ?_)
        refine S_aload_n dX1_river_83 rfl ?_
        refine S_getR (c1 := 20) dX1_river_84 rfl fl_X1_33 rfl rfl rfl ?_
        refine S_getI dX1_river_87 rfl fl_X1_122 rfl rfl ?_
        exact S_iret dX1_river_90 rfl rfl
      · refine S_bipush dX1_river_45 rfl (by decide) ?_
        exact S_iret dX1_river_47 rfl rfl
    · refine S_aload_n dX1_river_18 rfl ?_
      refine S_iconst dX1_river_19 rfl ?_
      refine S_callV_M2 dX1_river_20 [.inl 1] (K_X1_found 1 μ) l_X1_87 yo_X1_found rfl rfl rfl rfl rfl (fun x10 μ11 => ?_)
      exact S_iret dX1_river_23 rfl rfl
  · refine S_iconst dX1_river_7 rfl ?_
    exact S_iret dX1_river_8 rfl rfl
def fX1_one (p1 : Int) (p2 : Int) (μ : Mem) : Option (Int × Mem) :=
  (fX0_has 20 p1 μ).bind fun x1 =>
  if x1 = 0 then
    some ((-1), μ)
  else
    (fX1_isWithin p2 0 5 μ).bind fun x2 =>
    if ¬ x2 = 0 then
      (fX0_told 20 p1 p2 μ).bind fun x3 =>
      bnd2 (fX1_tell x3 μ) fun x4 μ5 =>
      some (x4, μ5)
    else
      some ((-1), μ)
theorem K_X1_one {σ : Scr}  (p1 : Int) (p2 : Int)  (μ : Mem) : Con σ yX1_one cX1_one 3 (some .int) 6 [.inr (.inr 0), .inl p1, .inl p2] μ (fX1_one p1 p2 μ) wI := by
  refine con_of (own := RX1) (by decide) rfl (Nat.le_of_ble_eq_true rfl) ?_
  show Sim σ cX1_one 3 RX1 (6) (some .int) wI 0 [(0, .inr (.inr 0)), (1, .inl p1), (2, .inl p2)] [] μ (fX1_one p1 p2 μ)
  unfold fX1_one
  refine S_aload_n dX1_one_0 rfl ?_
  refine S_getR (c1 := 20) dX1_one_1 rfl fl_X1_33 rfl rfl rfl ?_
  refine S_iload_n dX1_one_4 rfl ?_
  refine S_callW_I dX1_one_5 [.inl p1] (K_X0_has (by unfold isBk; decide) p1 μ) l_X1_125 yo_X0_has rfl rfl rfl rfl rfl (fun x1 => ?_)
  refine S_if_eq (tgt := 20) dX1_one_8 (by decide) (fun h7 => ?_) (fun h7 => ?_)
  · refine S_iconst dX1_one_20 rfl ?_
    exact S_iret dX1_one_21 rfl rfl
  · refine S_iload_n dX1_one_11 rfl ?_
    refine S_iconst dX1_one_12 rfl ?_
    refine S_iconst dX1_one_13 rfl ?_
    refine S_callS_I dX1_one_14 [.inl p2, .inl 0, .inl 5] (K_X1_isWithin p2 0 5 μ) l_X1_128 yo_X1_isWithin rfl rfl rfl (fun x2 => ?_)
    refine S_if_ne (tgt := 22) dX1_one_17 (by decide) (fun h6 => ?_) (fun h6 => ?_)
    · refine S_aload_n dX1_one_22 rfl ?_
      refine S_aload_n dX1_one_23 rfl ?_
      refine S_getR (c1 := 20) dX1_one_24 rfl fl_X1_33 rfl rfl rfl ?_
      refine S_iload_n dX1_one_27 rfl ?_
      refine S_iload_n dX1_one_28 rfl ?_
      refine S_callW_I dX1_one_29 [.inl p1, .inl p2] (K_X0_told (by unfold isBk; decide) p1 p2 μ) l_X1_132 yo_X0_told rfl rfl rfl rfl rfl (fun x3 => ?_)
      refine S_callV_M2 dX1_one_32 [.inl x3] (K_X1_tell x3 μ) l_X1_99 yo_X1_tell rfl rfl rfl rfl rfl (fun x4 μ5 => ?_)
      exact S_iret dX1_one_35 rfl rfl
    · refine S_iconst dX1_one_20 rfl ?_
      exact S_iret dX1_one_21 rfl rfl
def fX1_deedOf (p1 : Int) (p2 : Int) (p3 : Int) (μ : Mem) : Option Int :=
  some (bor (bor p1 (bshl p2 2)) (bshl p3 5))
theorem K_X1_deedOf {σ : Scr}  (p1 : Int) (p2 : Int) (p3 : Int)  (μ : Mem) : Con σ yX1_deedOf cX1_deedOf 3 (some .int) 2 [.inl p1, .inl p2, .inl p3] μ (fX1_deedOf p1 p2 p3 μ) (rI μ) := by
  refine con_of (own := RX1) (by decide) rfl (Nat.le_of_ble_eq_true rfl) ?_
  show Sim σ cX1_deedOf 3 RX1 (2) (some .int) (rI μ) 0 [(0, .inl p1), (1, .inl p2), (2, .inl p3)] [] μ (fX1_deedOf p1 p2 p3 μ)
  unfold fX1_deedOf
  refine S_iload_n dX1_deedOf_0 rfl ?_
  refine S_iload_n dX1_deedOf_1 rfl ?_
  refine S_iconst dX1_deedOf_2 rfl ?_
  refine S_ishl dX1_deedOf_3 ?_
  refine S_ior dX1_deedOf_4 ?_
  refine S_iload_n dX1_deedOf_5 rfl ?_
  refine S_iconst dX1_deedOf_6 rfl ?_
  refine S_ishl dX1_deedOf_7 ?_
  refine S_ior dX1_deedOf_8 ?_
  exact S_iret dX1_deedOf_9 rfl rfl
def fX1_perform (p1 : Int) (μ : Mem) : Option Mem :=
  if 40 ≤ (μ 0 8) then
    some μ
  else
    grd (0 ≤ (μ 0 8) ∧ (μ 0 8) < 40) <|
    mlet (wr μ 30 ((μ 0 8)).toNat p1) fun μ1 =>
    mlet (wr μ1 0 8 (w32 ((μ1 0 8) + 1))) fun μ2 =>
    (fX0_undergo 20 p1 μ2).bind fun μ3 =>
    some μ3
theorem K_X1_perform {σ : Scr}  (p1 : Int)  (μ : Mem) : Con σ yX1_perform cX1_perform 2 (none) 8 [.inr (.inr 0), .inl p1] μ (fX1_perform p1 μ) wV := by
  refine con_of (own := RX1) (by decide) rfl (Nat.le_of_ble_eq_true rfl) ?_
  show Sim σ cX1_perform 2 RX1 (8) (none) wV 0 [(0, .inr (.inr 0)), (1, .inl p1)] [] μ (fX1_perform p1 μ)
  unfold fX1_perform
  refine S_aload_n dX1_perform_0 rfl ?_
  refine S_getI dX1_perform_1 rfl fl_X1_42 rfl rfl ?_
  refine S_bipush dX1_perform_4 rfl (by decide) ?_
  refine S_ic_ge (tgt := 37) dX1_perform_6 (by decide) (fun h4 => ?_) (fun h4 => ?_)
  · exact S_vret dX1_perform_37 rfl rfl
  · refine S_aload_n dX1_perform_9 rfl ?_
    refine S_getR (c1 := 30) dX1_perform_10 rfl fl_X1_39 rfl rfl rfl ?_
    refine S_aload_n dX1_perform_13 rfl ?_
    refine S_getI dX1_perform_14 rfl fl_X1_42 rfl rfl ?_
    refine S_iload_n dX1_perform_17 rfl ?_
    refine S_iast (N := 40) dX1_perform_18 rfl (by decide) rfl (fun μ1 => ?_)
    refine S_aload_n dX1_perform_19 rfl ?_
    refine S_dup dX1_perform_20 rfl ?_
    refine S_getI dX1_perform_21 rfl fl_X1_42 rfl rfl ?_
    refine S_iconst dX1_perform_24 rfl ?_
    refine S_iadd dX1_perform_25 ?_
    refine S_putI dX1_perform_26 rfl fl_X1_42 rfl rfl rfl rfl (fun μ2 => ?_)
    refine S_aload_n dX1_perform_29 rfl ?_
    refine S_getR (c1 := 20) dX1_perform_30 rfl fl_X1_33 rfl rfl rfl ?_
    refine S_iload_n dX1_perform_33 rfl ?_
    refine S_callW_V dX1_perform_34 [.inl p1] (K_X0_undergo (by unfold isBk; decide) p1 μ2) l_X1_293 yo_X0_undergo rfl rfl rfl rfl rfl (fun μ3 => ?_)
    exact S_vret dX1_perform_37 rfl rfl
def fX1_night (μ : Mem) : Option (Int × Mem) :=
  if ¬ (μ 20 4) = 0 then
    if (μ 0 8) < 40 then
      (fX0_holder 20 0 μ).bind fun x1 =>
      (fX1_deedOf 0 0 0 μ).bind fun x2 =>
      (fX1_perform x2 μ).bind fun μ3 =>
      some (x1, μ3)
    else
      some ((-2), μ)
  else
    some ((-4), μ)
theorem K_X1_night {σ : Scr}    (μ : Mem) : Con σ yX1_night cX1_night 2 (some .int) 9 [.inr (.inr 0)] μ (fX1_night  μ) wI := by
  refine con_of (own := RX1) (by decide) rfl (Nat.le_of_ble_eq_true rfl) ?_
  show Sim σ cX1_night 2 RX1 (9) (some .int) wI 0 [(0, .inr (.inr 0))] [] μ (fX1_night  μ)
  unfold fX1_night
  refine S_aload_n dX1_night_0 rfl ?_
  refine S_getR (c1 := 20) dX1_night_1 rfl fl_X1_33 rfl rfl rfl ?_
  refine S_getI dX1_night_4 rfl fl_X1_122 rfl rfl ?_
  refine S_if_ne (tgt := 13) dX1_night_7 (by decide) (fun h5 => ?_) (fun h5 => ?_)
  · refine S_aload_n dX1_night_13 rfl ?_
    refine S_getI dX1_night_14 rfl fl_X1_42 rfl rfl ?_
    refine S_bipush dX1_night_17 rfl (by decide) ?_
    refine S_ic_lt (tgt := 25) dX1_night_19 (by decide) (fun h4 => ?_) (fun h4 => ?_)
    · refine S_aload_n dX1_night_25 rfl ?_
      refine S_getR (c1 := 20) dX1_night_26 rfl fl_X1_33 rfl rfl rfl ?_
      refine S_iconst dX1_night_29 rfl ?_
      refine S_callW_I dX1_night_30 [.inl 0] (K_X0_holder (by unfold isBk; decide) 0 μ) l_X1_145 yo_X0_holder rfl rfl rfl rfl rfl (fun x1 => ?_)
      refine S_istore_n (lv' := [(1, .inl x1), (0, .inr (.inr 0))]) dX1_night_33 rfl rfl ?_
      refine S_aload_n dX1_night_34 rfl ?_
      refine S_iconst dX1_night_35 rfl ?_
      refine S_iconst dX1_night_36 rfl ?_
      refine S_iconst dX1_night_37 rfl ?_
      refine S_callS_I dX1_night_38 [.inl 0, .inl 0, .inl 0] (K_X1_deedOf 0 0 0 μ) l_X1_148 yo_X1_deedOf rfl rfl rfl (fun x2 => ?_)
      refine S_callV_V dX1_night_41 [.inl x2] (K_X1_perform x2 μ) l_X1_152 yo_X1_perform rfl rfl rfl rfl rfl (fun μ3 => ?_)
      refine S_iload_n dX1_night_44 rfl ?_
      exact S_iret dX1_night_45 rfl rfl
    · refine S_bipush dX1_night_22 rfl (by decide) ?_
      exact S_iret dX1_night_24 rfl rfl
  · refine S_bipush dX1_night_10 rfl (by decide) ?_
    exact S_iret dX1_night_12 rfl rfl
def fX1_raise (p1 : Int) (p2 : Int) (μ : Mem) : Option (Int × Mem) :=
  (fX0_has 20 p1 μ).bind fun x1 =>
  if x1 = 0 then
    some ((-1), μ)
  else
    (fX1_isWithin p2 1 9 μ).bind fun x2 =>
    if ¬ x2 = 0 then
      grd (0 ≤ p1 ∧ p1 < 6) <|
      if (w32 ((μ 23 (p1).toNat) + p2)) ≤ 20 then
        if (μ 0 8) < 40 then
          (fX1_deedOf 1 p1 p2 μ).bind fun x3 =>
          (fX1_perform x3 μ).bind fun μ4 =>
          grd (0 ≤ p1 ∧ p1 < 6) <|
          some ((μ4 23 (p1).toNat), μ4)
        else
          some ((-2), μ)
      else
        some ((-4), μ)
    else
      some ((-1), μ)
theorem K_X1_raise {σ : Scr}  (p1 : Int) (p2 : Int)  (μ : Mem) : Con σ yX1_raise cX1_raise 3 (some .int) 9 [.inr (.inr 0), .inl p1, .inl p2] μ (fX1_raise p1 p2 μ) wI := by
  refine con_of (own := RX1) (by decide) rfl (Nat.le_of_ble_eq_true rfl) ?_
  show Sim σ cX1_raise 3 RX1 (9) (some .int) wI 0 [(0, .inr (.inr 0)), (1, .inl p1), (2, .inl p2)] [] μ (fX1_raise p1 p2 μ)
  unfold fX1_raise
  refine S_aload_n dX1_raise_0 rfl ?_
  refine S_getR (c1 := 20) dX1_raise_1 rfl fl_X1_33 rfl rfl rfl ?_
  refine S_iload_n dX1_raise_4 rfl ?_
  refine S_callW_I dX1_raise_5 [.inl p1] (K_X0_has (by unfold isBk; decide) p1 μ) l_X1_125 yo_X0_has rfl rfl rfl rfl rfl (fun x1 => ?_)
  refine S_if_eq (tgt := 21) dX1_raise_8 (by decide) (fun h8 => ?_) (fun h8 => ?_)
  · refine S_iconst dX1_raise_21 rfl ?_
    exact S_iret dX1_raise_22 rfl rfl
  · refine S_iload_n dX1_raise_11 rfl ?_
    refine S_iconst dX1_raise_12 rfl ?_
    refine S_bipush dX1_raise_13 rfl (by decide) ?_
    refine S_callS_I dX1_raise_15 [.inl p2, .inl 1, .inl 9] (K_X1_isWithin p2 1 9 μ) l_X1_128 yo_X1_isWithin rfl rfl rfl (fun x2 => ?_)
    refine S_if_ne (tgt := 23) dX1_raise_18 (by decide) (fun h7 => ?_) (fun h7 => ?_)
    · refine S_aload_n dX1_raise_23 rfl ?_
      refine S_getR (c1 := 20) dX1_raise_24 rfl fl_X1_33 rfl rfl rfl ?_
      refine S_getR (c1 := 23) dX1_raise_27 rfl fl_X1_156 rfl rfl rfl ?_
      refine S_iload_n dX1_raise_30 rfl ?_
      refine S_iald (N := 6) dX1_raise_31 rfl (by decide) rfl ?_
      refine S_iload_n dX1_raise_32 rfl ?_
      refine S_iadd dX1_raise_33 ?_
      refine S_bipush dX1_raise_34 rfl (by decide) ?_
      refine S_ic_le (tgt := 42) dX1_raise_36 (by decide) (fun h6 => ?_) (fun h6 => ?_)
      · refine S_aload_n dX1_raise_42 rfl ?_
        refine S_getI dX1_raise_43 rfl fl_X1_42 rfl rfl ?_
        refine S_bipush dX1_raise_46 rfl (by decide) ?_
        refine S_ic_lt (tgt := 54) dX1_raise_48 (by decide) (fun h5 => ?_) (fun h5 => ?_)
        · refine S_aload_n dX1_raise_54 rfl ?_
          refine S_iconst dX1_raise_55 rfl ?_
          refine S_iload_n dX1_raise_56 rfl ?_
          refine S_iload_n dX1_raise_57 rfl ?_
          refine S_callS_I dX1_raise_58 [.inl 1, .inl p1, .inl p2] (K_X1_deedOf 1 p1 p2 μ) l_X1_148 yo_X1_deedOf rfl rfl rfl (fun x3 => ?_)
          refine S_callV_V dX1_raise_61 [.inl x3] (K_X1_perform x3 μ) l_X1_152 yo_X1_perform rfl rfl rfl rfl rfl (fun μ4 => ?_)
          refine S_aload_n dX1_raise_64 rfl ?_
          refine S_getR (c1 := 20) dX1_raise_65 rfl fl_X1_33 rfl rfl rfl ?_
          refine S_getR (c1 := 23) dX1_raise_68 rfl fl_X1_156 rfl rfl rfl ?_
          refine S_iload_n dX1_raise_71 rfl ?_
          refine S_iald (N := 6) dX1_raise_72 rfl (by decide) rfl ?_
          exact S_iret dX1_raise_73 rfl rfl
        · refine S_bipush dX1_raise_51 rfl (by decide) ?_
          exact S_iret dX1_raise_53 rfl rfl
      · refine S_bipush dX1_raise_39 rfl (by decide) ?_
        exact S_iret dX1_raise_41 rfl rfl
    · refine S_iconst dX1_raise_21 rfl ?_
      exact S_iret dX1_raise_22 rfl rfl
def fX1_shame (p1 : Int) (p2 : Int) (μ : Mem) : Option (Int × Mem) :=
  (fX0_has 20 p1 μ).bind fun x1 =>
  if x1 = 0 then
    some ((-1), μ)
  else
    (fX1_isWithin p2 1 9 μ).bind fun x2 =>
    if ¬ x2 = 0 then
      grd (0 ≤ p1 ∧ p1 < 6) <|
      if 0 ≤ (w32 ((μ 23 (p1).toNat) - p2)) then
        if (μ 0 8) < 40 then
          (fX1_deedOf 2 p1 p2 μ).bind fun x3 =>
          (fX1_perform x3 μ).bind fun μ4 =>
          grd (0 ≤ p1 ∧ p1 < 6) <|
          some ((μ4 23 (p1).toNat), μ4)
        else
          some ((-2), μ)
      else
        some ((-4), μ)
    else
      some ((-1), μ)
theorem K_X1_shame {σ : Scr}  (p1 : Int) (p2 : Int)  (μ : Mem) : Con σ yX1_shame cX1_shame 3 (some .int) 9 [.inr (.inr 0), .inl p1, .inl p2] μ (fX1_shame p1 p2 μ) wI := by
  refine con_of (own := RX1) (by decide) rfl (Nat.le_of_ble_eq_true rfl) ?_
  show Sim σ cX1_shame 3 RX1 (9) (some .int) wI 0 [(0, .inr (.inr 0)), (1, .inl p1), (2, .inl p2)] [] μ (fX1_shame p1 p2 μ)
  unfold fX1_shame
  refine S_aload_n dX1_shame_0 rfl ?_
  refine S_getR (c1 := 20) dX1_shame_1 rfl fl_X1_33 rfl rfl rfl ?_
  refine S_iload_n dX1_shame_4 rfl ?_
  refine S_callW_I dX1_shame_5 [.inl p1] (K_X0_has (by unfold isBk; decide) p1 μ) l_X1_125 yo_X0_has rfl rfl rfl rfl rfl (fun x1 => ?_)
  refine S_if_eq (tgt := 21) dX1_shame_8 (by decide) (fun h8 => ?_) (fun h8 => ?_)
  · refine S_iconst dX1_shame_21 rfl ?_
    exact S_iret dX1_shame_22 rfl rfl
  · refine S_iload_n dX1_shame_11 rfl ?_
    refine S_iconst dX1_shame_12 rfl ?_
    refine S_bipush dX1_shame_13 rfl (by decide) ?_
    refine S_callS_I dX1_shame_15 [.inl p2, .inl 1, .inl 9] (K_X1_isWithin p2 1 9 μ) l_X1_128 yo_X1_isWithin rfl rfl rfl (fun x2 => ?_)
    refine S_if_ne (tgt := 23) dX1_shame_18 (by decide) (fun h7 => ?_) (fun h7 => ?_)
    · refine S_aload_n dX1_shame_23 rfl ?_
      refine S_getR (c1 := 20) dX1_shame_24 rfl fl_X1_33 rfl rfl rfl ?_
      refine S_getR (c1 := 23) dX1_shame_27 rfl fl_X1_156 rfl rfl rfl ?_
      refine S_iload_n dX1_shame_30 rfl ?_
      refine S_iald (N := 6) dX1_shame_31 rfl (by decide) rfl ?_
      refine S_iload_n dX1_shame_32 rfl ?_
      refine S_isub dX1_shame_33 ?_
      refine S_if_ge (tgt := 40) dX1_shame_34 (by decide) (fun h6 => ?_) (fun h6 => ?_)
      · refine S_aload_n dX1_shame_40 rfl ?_
        refine S_getI dX1_shame_41 rfl fl_X1_42 rfl rfl ?_
        refine S_bipush dX1_shame_44 rfl (by decide) ?_
        refine S_ic_lt (tgt := 52) dX1_shame_46 (by decide) (fun h5 => ?_) (fun h5 => ?_)
        · refine S_aload_n dX1_shame_52 rfl ?_
          refine S_iconst dX1_shame_53 rfl ?_
          refine S_iload_n dX1_shame_54 rfl ?_
          refine S_iload_n dX1_shame_55 rfl ?_
          refine S_callS_I dX1_shame_56 [.inl 2, .inl p1, .inl p2] (K_X1_deedOf 2 p1 p2 μ) l_X1_148 yo_X1_deedOf rfl rfl rfl (fun x3 => ?_)
          refine S_callV_V dX1_shame_59 [.inl x3] (K_X1_perform x3 μ) l_X1_152 yo_X1_perform rfl rfl rfl rfl rfl (fun μ4 => ?_)
          refine S_aload_n dX1_shame_62 rfl ?_
          refine S_getR (c1 := 20) dX1_shame_63 rfl fl_X1_33 rfl rfl rfl ?_
          refine S_getR (c1 := 23) dX1_shame_66 rfl fl_X1_156 rfl rfl rfl ?_
          refine S_iload_n dX1_shame_69 rfl ?_
          refine S_iald (N := 6) dX1_shame_70 rfl (by decide) rfl ?_
          exact S_iret dX1_shame_71 rfl rfl
        · refine S_bipush dX1_shame_49 rfl (by decide) ?_
          exact S_iret dX1_shame_51 rfl rfl
      · refine S_bipush dX1_shame_37 rfl (by decide) ?_
        exact S_iret dX1_shame_39 rfl rfl
    · refine S_iconst dX1_shame_21 rfl ?_
      exact S_iret dX1_shame_22 rfl rfl
def fX1_isPlace (p1 : Int) (μ : Mem) : Option Int :=
  mlet (
    some 0
    : Option Int) fun (K1 : Option Int) =>
  if p1 < 0 then
    K1
  else
    if 9 < p1 then
      K1
    else
      some 1
theorem K_X1_isPlace {σ : Scr}  (p1 : Int)  (μ : Mem) : Con σ yX1_isPlace cX1_isPlace 1 (some .boolean) 2 [.inl p1] μ (fX1_isPlace p1 μ) (rI μ) := by
  refine con_of (own := RX1) (by decide) rfl (Nat.le_of_ble_eq_true rfl) ?_
  show Sim σ cX1_isPlace 1 RX1 (2) (some .boolean) (rI μ) 0 [(0, .inl p1)] [] μ (fX1_isPlace p1 μ)
  unfold fX1_isPlace
  refine S_iload_n dX1_isPlace_0 rfl ?_
  refine S_jn (fun (K1 : Option Int) => Sim σ cX1_isPlace 1 RX1 (2) (some .boolean) (rI μ) 14 [] [] μ K1) ?_ (fun K1 hK1 => ?_)
  · skip
    refine S_iconst dX1_isPlace_14 rfl ?_
    exact S_zret dX1_isPlace_15 rfl (by decide) rfl
  refine S_if_lt (tgt := 14) dX1_isPlace_1 (by decide) (fun h3 => ?_) (fun h3 => ?_)
  · exact S_sub [] rfl (hK1)
  · refine S_iload_n dX1_isPlace_4 rfl ?_
    refine S_bipush dX1_isPlace_5 rfl (by decide) ?_
    refine S_ic_gt (tgt := 14) dX1_isPlace_7 (by decide) (fun h2 => ?_) (fun h2 => ?_)
    · exact S_sub [] rfl (hK1)
    · refine S_iconst dX1_isPlace_10 rfl ?_
      refine S_goto (tgt := 15) dX1_isPlace_11 (by decide) ?_
      exact S_zret dX1_isPlace_15 rfl (by decide) rfl
def fX1_door (p1 : Int) (p2 : Int) (μ : Mem) : Option (Int × Mem) :=
  (fX0_has 20 p1 μ).bind fun x1 =>
  if x1 = 0 then
    some ((-1), μ)
  else
    (fX1_isPlace p2 μ).bind fun x2 =>
    if ¬ x2 = 0 then
      grd (0 ≤ p1 ∧ p1 < 6) <|
      mlet ((μ 22 (p1).toNat)) fun x3 =>
      if ¬ x3 = p2 then
        if (μ 0 8) < 40 then
          (fX1_deedOf 3 p1 p2 μ).bind fun x4 =>
          (fX1_perform x4 μ).bind fun μ5 =>
          some (x3, μ5)
        else
          some ((-2), μ)
      else
        some ((-4), μ)
    else
      some ((-1), μ)
theorem K_X1_door {σ : Scr}  (p1 : Int) (p2 : Int)  (μ : Mem) : Con σ yX1_door cX1_door 4 (some .int) 9 [.inr (.inr 0), .inl p1, .inl p2] μ (fX1_door p1 p2 μ) wI := by
  refine con_of (own := RX1) (by decide) rfl (Nat.le_of_ble_eq_true rfl) ?_
  show Sim σ cX1_door 4 RX1 (9) (some .int) wI 0 [(0, .inr (.inr 0)), (1, .inl p1), (2, .inl p2)] [] μ (fX1_door p1 p2 μ)
  unfold fX1_door
  refine S_aload_n dX1_door_0 rfl ?_
  refine S_getR (c1 := 20) dX1_door_1 rfl fl_X1_33 rfl rfl rfl ?_
  refine S_iload_n dX1_door_4 rfl ?_
  refine S_callW_I dX1_door_5 [.inl p1] (K_X0_has (by unfold isBk; decide) p1 μ) l_X1_125 yo_X0_has rfl rfl rfl rfl rfl (fun x1 => ?_)
  refine S_if_eq (tgt := 18) dX1_door_8 (by decide) (fun h9 => ?_) (fun h9 => ?_)
  · refine S_iconst dX1_door_18 rfl ?_
    exact S_iret dX1_door_19 rfl rfl
  · refine S_iload_n dX1_door_11 rfl ?_
    refine S_callS_I dX1_door_12 [.inl p2] (K_X1_isPlace p2 μ) l_X1_159 yo_X1_isPlace rfl rfl rfl (fun x2 => ?_)
    refine S_if_ne (tgt := 20) dX1_door_15 (by decide) (fun h8 => ?_) (fun h8 => ?_)
    · refine S_aload_n dX1_door_20 rfl ?_
      refine S_getR (c1 := 20) dX1_door_21 rfl fl_X1_33 rfl rfl rfl ?_
      refine S_getR (c1 := 22) dX1_door_24 rfl fl_X1_162 rfl rfl rfl ?_
      refine S_iload_n dX1_door_27 rfl ?_
      refine S_iald (N := 6) dX1_door_28 rfl (by decide) rfl ?_
      refine S_let (fun x3 => ?_)
      refine S_istore_n (lv' := [(3, .inl x3), (0, .inr (.inr 0)), (1, .inl p1), (2, .inl p2)]) dX1_door_29 rfl rfl ?_
      refine S_iload_n dX1_door_30 rfl ?_
      refine S_iload_n dX1_door_31 rfl ?_
      refine S_ic_ne (tgt := 38) dX1_door_32 (by decide) (fun h7 => ?_) (fun h7 => ?_)
      · refine S_aload_n dX1_door_38 rfl ?_
        refine S_getI dX1_door_39 rfl fl_X1_42 rfl rfl ?_
        refine S_bipush dX1_door_42 rfl (by decide) ?_
        refine S_ic_lt (tgt := 50) dX1_door_44 (by decide) (fun h6 => ?_) (fun h6 => ?_)
        · refine S_aload_n dX1_door_50 rfl ?_
          refine S_iconst dX1_door_51 rfl ?_
          refine S_iload_n dX1_door_52 rfl ?_
          refine S_iload_n dX1_door_53 rfl ?_
          refine S_callS_I dX1_door_54 [.inl 3, .inl p1, .inl p2] (K_X1_deedOf 3 p1 p2 μ) l_X1_148 yo_X1_deedOf rfl rfl rfl (fun x4 => ?_)
          refine S_callV_V dX1_door_57 [.inl x4] (K_X1_perform x4 μ) l_X1_152 yo_X1_perform rfl rfl rfl rfl rfl (fun μ5 => ?_)
          refine S_iload_n dX1_door_60 rfl ?_
          exact S_iret dX1_door_61 rfl rfl
        · refine S_bipush dX1_door_47 rfl (by decide) ?_
          exact S_iret dX1_door_49 rfl rfl
      · refine S_bipush dX1_door_35 rfl (by decide) ?_
        exact S_iret dX1_door_37 rfl rfl
    · refine S_iconst dX1_door_18 rfl ?_
      exact S_iret dX1_door_19 rfl rfl
def fX1_performAgain_L13 : Nat → Int → Mem → Option Mem
  | 0, _, _ => none
  | n4 + 1, x2, μ3 =>
    if (μ3 0 8) ≤ x2 then
      some μ3
    else
      grd (0 ≤ x2 ∧ x2 < 40) <|
      (fX0_undergo 20 (μ3 30 (x2).toNat) μ3).bind fun μ5 =>
      mlet (w32 (x2 + 1)) fun x6 =>
      fX1_performAgain_L13 n4 x6 μ5
def fX1_performAgain (μ : Mem) : Option Mem :=
  (fX0_become 20 15 μ).bind fun μ1 =>
  fX1_performAgain_L13 fuel 0 μ1
theorem K_X1_performAgain {σ : Scr}    (μ : Mem) : Con σ yX1_performAgain cX1_performAgain 2 (none) 8 [.inr (.inr 0)] μ (fX1_performAgain  μ) wV := by
  refine con_of (own := RX1) (by decide) rfl (Nat.le_of_ble_eq_true rfl) ?_
  show Sim σ cX1_performAgain 2 RX1 (8) (none) wV 0 [(0, .inr (.inr 0))] [] μ (fX1_performAgain  μ)
  unfold fX1_performAgain
  refine S_aload_n dX1_performAgain_0 rfl ?_
  refine S_getR (c1 := 20) dX1_performAgain_1 rfl fl_X1_33 rfl rfl rfl ?_
  refine S_aload_n dX1_performAgain_4 rfl ?_
  refine S_getR (c1 := 15) dX1_performAgain_5 rfl fl_X1_29 rfl rfl rfl ?_
  refine S_callW_V dX1_performAgain_8 [.inr (.inr 15)] (K_X0_become (by unfold isBk; decide) (by unfold isBk; decide) μ) l_X1_118 yo_X0_become rfl rfl rfl rfl rfl (fun μ1 => ?_)
  refine S_iconst dX1_performAgain_11 rfl ?_
  refine S_istore_n (lv' := [(1, .inl 0), (0, .inr (.inr 0))]) dX1_performAgain_12 rfl rfl ?_
  have hL13 : ∀ (n4 : Nat) (x2 : Int) (μ3 : Mem), Sim σ cX1_performAgain 2 RX1 (8) (none) wV 13 [(0, .inr (.inr 0)), (1, .inl x2)] [] μ3 (fX1_performAgain_L13 n4 x2 μ3) := by
    intro n4
    induction n4 with
    | zero =>
      intro x2 μ3
      exact S_none rfl
    | succ n4 ih =>
      intro x2 μ3
      rw [fX1_performAgain_L13]
      refine S_iload_n dX1_performAgain_13 rfl ?_
      refine S_aload_n dX1_performAgain_14 rfl ?_
      refine S_getI dX1_performAgain_15 rfl fl_X1_42 rfl rfl ?_
      refine S_ic_ge (tgt := 40) dX1_performAgain_18 (by decide) (fun h7 => ?_) (fun h7 => ?_)
      · exact S_vret dX1_performAgain_40 rfl rfl
      · refine S_aload_n dX1_performAgain_21 rfl ?_
        refine S_getR (c1 := 20) dX1_performAgain_22 rfl fl_X1_33 rfl rfl rfl ?_
        refine S_aload_n dX1_performAgain_25 rfl ?_
        refine S_getR (c1 := 30) dX1_performAgain_26 rfl fl_X1_39 rfl rfl rfl ?_
        refine S_iload_n dX1_performAgain_29 rfl ?_
        refine S_iald (N := 40) dX1_performAgain_30 rfl (by decide) rfl ?_
        refine S_callW_V dX1_performAgain_31 [.inl (μ3 30 (x2).toNat)] (K_X0_undergo (by unfold isBk; decide) (μ3 30 (x2).toNat) μ3) l_X1_293 yo_X0_undergo rfl rfl rfl rfl rfl (fun μ5 => ?_)
        refine S_iinc (lv' := fun x6 => [(1, .inl x6), (0, .inr (.inr 0))]) dX1_performAgain_34 rfl rfl rfl (fun _ => rfl) (fun x6 => ?_)
        refine S_goto (tgt := 13) dX1_performAgain_37 (by decide) ?_
        exact S_sub [1, 0] rfl (ih x6 μ5)
  exact S_sub [1, 0] rfl (hL13 fuel 0 μ1)
def fX1_undo (p1 : Int) (μ : Mem) : Option (Int × Mem) :=
  (fX1_isWithin p1 0 (μ 0 8) μ).bind fun x1 =>
  if ¬ x1 = 0 then
    mlet ((w32 ((μ 0 8) - p1))) fun x2 =>
    mlet (wr μ 0 8 p1) fun μ3 =>
    (fX1_performAgain μ3).bind fun μ4 =>
    some (x2, μ4)
  else
    some ((-1), μ)
theorem K_X1_undo {σ : Scr}  (p1 : Int)  (μ : Mem) : Con σ yX1_undo cX1_undo 3 (some .int) 9 [.inr (.inr 0), .inl p1] μ (fX1_undo p1 μ) wI := by
  refine con_of (own := RX1) (by decide) rfl (Nat.le_of_ble_eq_true rfl) ?_
  show Sim σ cX1_undo 3 RX1 (9) (some .int) wI 0 [(0, .inr (.inr 0)), (1, .inl p1)] [] μ (fX1_undo p1 μ)
  unfold fX1_undo
  refine S_iload_n dX1_undo_0 rfl ?_
  refine S_iconst dX1_undo_1 rfl ?_
  refine S_aload_n dX1_undo_2 rfl ?_
  refine S_getI dX1_undo_3 rfl fl_X1_42 rfl rfl ?_
  refine S_callS_I dX1_undo_6 [.inl p1, .inl 0, .inl (μ 0 8)] (K_X1_isWithin p1 0 (μ 0 8) μ) l_X1_128 yo_X1_isWithin rfl rfl rfl (fun x1 => ?_)
  refine S_if_ne (tgt := 14) dX1_undo_9 (by decide) (fun h5 => ?_) (fun h5 => ?_)
  · refine S_aload_n dX1_undo_14 rfl ?_
    refine S_getI dX1_undo_15 rfl fl_X1_42 rfl rfl ?_
    refine S_iload_n dX1_undo_18 rfl ?_
    refine S_isub dX1_undo_19 ?_
    refine S_let (fun x2 => ?_)
    refine S_istore_n (lv' := [(2, .inl x2), (0, .inr (.inr 0)), (1, .inl p1)]) dX1_undo_20 rfl rfl ?_
    refine S_aload_n dX1_undo_21 rfl ?_
    refine S_iload_n dX1_undo_22 rfl ?_
    refine S_putI dX1_undo_23 rfl fl_X1_42 rfl rfl rfl rfl (fun μ3 => ?_)
    refine S_aload_n dX1_undo_26 rfl ?_
    refine S_callV_V dX1_undo_27 [] (K_X1_performAgain μ3) l_X1_165 yo_X1_performAgain rfl rfl rfl rfl rfl (fun μ4 => ?_)
    refine S_iload_n dX1_undo_30 rfl ?_
    exact S_iret dX1_undo_31 rfl rfl
  · refine S_iconst dX1_undo_12 rfl ?_
    exact S_iret dX1_undo_13 rfl rfl
def fX1_isKept (p1 : Int) (μ : Mem) : Option Int :=
  mlet (
    some 0
    : Option Int) fun (K1 : Option Int) =>
  if p1 < 0 then
    K1
  else
    if 3 ≤ p1 then
      K1
    else
      some 1
theorem K_X1_isKept {σ : Scr}  (p1 : Int)  (μ : Mem) : Con σ yX1_isKept cX1_isKept 1 (some .boolean) 2 [.inl p1] μ (fX1_isKept p1 μ) (rI μ) := by
  refine con_of (own := RX1) (by decide) rfl (Nat.le_of_ble_eq_true rfl) ?_
  show Sim σ cX1_isKept 1 RX1 (2) (some .boolean) (rI μ) 0 [(0, .inl p1)] [] μ (fX1_isKept p1 μ)
  unfold fX1_isKept
  refine S_iload_n dX1_isKept_0 rfl ?_
  refine S_jn (fun (K1 : Option Int) => Sim σ cX1_isKept 1 RX1 (2) (some .boolean) (rI μ) 13 [] [] μ K1) ?_ (fun K1 hK1 => ?_)
  · skip
    refine S_iconst dX1_isKept_13 rfl ?_
    exact S_zret dX1_isKept_14 rfl (by decide) rfl
  refine S_if_lt (tgt := 13) dX1_isKept_1 (by decide) (fun h3 => ?_) (fun h3 => ?_)
  · exact S_sub [] rfl (hK1)
  · refine S_iload_n dX1_isKept_4 rfl ?_
    refine S_iconst dX1_isKept_5 rfl ?_
    refine S_ic_ge (tgt := 13) dX1_isKept_6 (by decide) (fun h2 => ?_) (fun h2 => ?_)
    · exact S_sub [] rfl (hK1)
    · refine S_iconst dX1_isKept_9 rfl ?_
      refine S_goto (tgt := 14) dX1_isKept_10 (by decide) ?_
      exact S_zret dX1_isKept_14 rfl (by decide) rfl
def fX1_keep (p1 : Int) (μ : Mem) : Option (Int × Mem) :=
  (fX1_isKept p1 μ).bind fun x1 =>
  if ¬ x1 = 0 then
    if ¬ (μ 20 4) = 0 then
      grd (0 ≤ p1 ∧ p1 < 3) <|
      mlet (32 + (p1).toNat) fun c2 =>
      grd (0 ≤ (0 : Int) ∧ 0 ≤ (0 : Int) ∧ 0 ≤ (μ 0 8) ∧ (0 : Int) + (μ 0 8) ≤ 40 ∧ (0 : Int) + (μ 0 8) ≤ 40) <|
      mlet (cpy μ 30 ((0 : Int)).toNat c2 ((0 : Int)).toNat ((μ 0 8)).toNat) fun μ3 =>
      grd (0 ≤ p1 ∧ p1 < 3) <|
      mlet (wr μ3 35 (p1).toNat (μ3 0 8)) fun μ4 =>
      some ((μ4 0 8), μ4)
    else
      some ((-4), μ)
  else
    some ((-1), μ)
theorem K_X1_keep {σ : Scr}  (p1 : Int)  (μ : Mem) : Con σ yX1_keep cX1_keep 2 (some .int) 3 [.inr (.inr 0), .inl p1] μ (fX1_keep p1 μ) wI := by
  refine con_of (own := RX1) (by decide) rfl (Nat.le_of_ble_eq_true rfl) ?_
  show Sim σ cX1_keep 2 RX1 (3) (some .int) wI 0 [(0, .inr (.inr 0)), (1, .inl p1)] [] μ (fX1_keep p1 μ)
  unfold fX1_keep
  refine S_iload_n dX1_keep_0 rfl ?_
  refine S_callS_I dX1_keep_1 [.inl p1] (K_X1_isKept p1 μ) l_X1_168 yo_X1_isKept rfl rfl rfl (fun x1 => ?_)
  refine S_if_ne (tgt := 9) dX1_keep_4 (by decide) (fun h6 => ?_) (fun h6 => ?_)
  · refine S_aload_n dX1_keep_9 rfl ?_
    refine S_getR (c1 := 20) dX1_keep_10 rfl fl_X1_33 rfl rfl rfl ?_
    refine S_getI dX1_keep_13 rfl fl_X1_122 rfl rfl ?_
    refine S_if_ne (tgt := 22) dX1_keep_16 (by decide) (fun h5 => ?_) (fun h5 => ?_)
    · refine S_aload_n dX1_keep_22 rfl ?_
      refine S_getR (c1 := 30) dX1_keep_23 rfl fl_X1_39 rfl rfl rfl ?_
      refine S_iconst dX1_keep_26 rfl ?_
      refine S_aload_n dX1_keep_27 rfl ?_
      refine S_getR (c1 := 31) dX1_keep_28 rfl fl_X1_46 rfl rfl rfl ?_
      refine S_iload_n dX1_keep_31 rfl ?_
      refine S_aald (N := 3) (c1 := 32) (c2 := 35) dX1_keep_32 rfl (by decide) (by decide) rfl rfl rfl (fun c2 hc2 => ?_)
      refine S_iconst dX1_keep_33 rfl ?_
      refine S_aload_n dX1_keep_34 rfl ?_
      refine S_getI dX1_keep_35 rfl fl_X1_42 rfl rfl ?_
      refine S_acopy (N0 := 40) (N1 := 40) dX1_keep_38 jl_X1_102 jm_an jm_as jm_S rfl (by decide) (kd_kept hc2) (fam_lt hc2 (by decide)) rfl rfl rfl rfl jm_w (fun μ3 => ?_)
      refine S_aload_n dX1_keep_41 rfl ?_
      refine S_getR (c1 := 35) dX1_keep_42 rfl fl_X1_49 rfl rfl rfl ?_
      refine S_iload_n dX1_keep_45 rfl ?_
      refine S_aload_n dX1_keep_46 rfl ?_
      refine S_getI dX1_keep_47 rfl fl_X1_42 rfl rfl ?_
      refine S_iast (N := 3) dX1_keep_50 rfl (by decide) rfl (fun μ4 => ?_)
      refine S_aload_n dX1_keep_51 rfl ?_
      refine S_getI dX1_keep_52 rfl fl_X1_42 rfl rfl ?_
      exact S_iret dX1_keep_55 rfl rfl
    · refine S_bipush dX1_keep_19 rfl (by decide) ?_
      exact S_iret dX1_keep_21 rfl rfl
  · refine S_iconst dX1_keep_7 rfl ?_
    exact S_iret dX1_keep_8 rfl rfl
