theorem dX1_put_0 : decode cX1_put 0 = .ok (.iload_n 1, 1) := by decide +kernel
theorem dX1_put_1 : decode cX1_put 1 = .ok (.invokestatic 108, 3) := by decide +kernel
theorem dX1_put_4 : decode cX1_put 4 = .ok (.ifCond .ne 5, 3) := by decide +kernel
theorem dX1_put_7 : decode cX1_put 7 = .ok (.iconst (-1), 1) := by decide +kernel
theorem dX1_put_8 : decode cX1_put 8 = .ok (.ireturn, 1) := by decide +kernel
theorem dX1_put_9 : decode cX1_put 9 = .ok (.aload_n 0, 1) := by decide +kernel
theorem dX1_put_10 : decode cX1_put 10 = .ok (.getfield 23, 3) := by decide +kernel
theorem dX1_put_13 : decode cX1_put 13 = .ok (.iload_n 1, 1) := by decide +kernel
theorem dX1_put_14 : decode cX1_put 14 = .ok (.iaload, 1) := by decide +kernel
theorem dX1_put_15 : decode cX1_put 15 = .ok (.ifCond .ge 9, 3) := by decide +kernel
theorem dX1_put_18 : decode cX1_put 18 = .ok (.aload_n 0, 1) := by decide +kernel
theorem dX1_put_19 : decode cX1_put 19 = .ok (.iconst 1, 1) := by decide +kernel
theorem dX1_put_20 : decode cX1_put 20 = .ok (.invokevirtual 87, 3) := by decide +kernel
theorem dX1_put_23 : decode cX1_put 23 = .ok (.ireturn, 1) := by decide +kernel
theorem dX1_put_24 : decode cX1_put 24 = .ok (.iload_n 2, 1) := by decide +kernel
theorem dX1_put_25 : decode cX1_put 25 = .ok (.ifCond .lt 13, 3) := by decide +kernel
theorem dX1_put_28 : decode cX1_put 28 = .ok (.iload_n 2, 1) := by decide +kernel
theorem dX1_put_29 : decode cX1_put 29 = .ok (.aload_n 0, 1) := by decide +kernel
theorem dX1_put_30 : decode cX1_put 30 = .ok (.getfield 23, 3) := by decide +kernel
theorem dX1_put_33 : decode cX1_put 33 = .ok (.iload_n 1, 1) := by decide +kernel
theorem dX1_put_34 : decode cX1_put 34 = .ok (.iaload, 1) := by decide +kernel
theorem dX1_put_35 : decode cX1_put 35 = .ok (.if_icmp .lt 9, 3) := by decide +kernel
theorem dX1_put_38 : decode cX1_put 38 = .ok (.aload_n 0, 1) := by decide +kernel
theorem dX1_put_39 : decode cX1_put 39 = .ok (.iconst 2, 1) := by decide +kernel
theorem dX1_put_40 : decode cX1_put 40 = .ok (.invokevirtual 87, 3) := by decide +kernel
theorem dX1_put_43 : decode cX1_put 43 = .ok (.ireturn, 1) := by decide +kernel
theorem dX1_put_44 : decode cX1_put 44 = .ok (.aload_n 0, 1) := by decide +kernel
theorem dX1_put_45 : decode cX1_put 45 = .ok (.getfield 20, 3) := by decide +kernel
theorem dX1_put_48 : decode cX1_put 48 = .ok (.iload_n 1, 1) := by decide +kernel
theorem dX1_put_49 : decode cX1_put 49 = .ok (.aaload, 1) := by decide +kernel
theorem dX1_put_50 : decode cX1_put 50 = .ok (.iload_n 2, 1) := by decide +kernel
theorem dX1_put_51 : decode cX1_put 51 = .ok (.baload, 1) := by decide +kernel
theorem dX1_put_52 : decode cX1_put 52 = .ok (.istore 4, 2) := by decide +kernel
theorem dX1_put_54 : decode cX1_put 54 = .ok (.aload_n 0, 1) := by decide +kernel
theorem dX1_put_55 : decode cX1_put 55 = .ok (.getfield 20, 3) := by decide +kernel
theorem dX1_put_58 : decode cX1_put 58 = .ok (.iload_n 1, 1) := by decide +kernel
theorem dX1_put_59 : decode cX1_put 59 = .ok (.aaload, 1) := by decide +kernel
theorem dX1_put_60 : decode cX1_put 60 = .ok (.iload_n 2, 1) := by decide +kernel
theorem dX1_put_61 : decode cX1_put 61 = .ok (.iload_n 3, 1) := by decide +kernel
theorem dX1_put_62 : decode cX1_put 62 = .ok (.i2b, 1) := by decide +kernel
theorem dX1_put_63 : decode cX1_put 63 = .ok (.bastore, 1) := by decide +kernel
theorem dX1_put_64 : decode cX1_put 64 = .ok (.iload 4, 2) := by decide +kernel
theorem dX1_put_66 : decode cX1_put 66 = .ok (.sipush 1000, 3) := by decide +kernel
theorem dX1_put_69 : decode cX1_put 69 = .ok (.iadd, 1) := by decide +kernel
theorem dX1_put_70 : decode cX1_put 70 = .ok (.ireturn, 1) := by decide +kernel
theorem dX1_firstNoFigure_0 : decode cX1_firstNoFigure 0 = .ok (.iload_n 2, 1) := by decide +kernel
theorem dX1_firstNoFigure_1 : decode cX1_firstNoFigure 1 = .ok (.istore 4, 2) := by decide +kernel
theorem dX1_firstNoFigure_3 : decode cX1_firstNoFigure 3 = .ok (.iload 4, 2) := by decide +kernel
theorem dX1_firstNoFigure_5 : decode cX1_firstNoFigure 5 = .ok (.iload_n 2, 1) := by decide +kernel
theorem dX1_firstNoFigure_6 : decode cX1_firstNoFigure 6 = .ok (.iload_n 3, 1) := by decide +kernel
theorem dX1_firstNoFigure_7 : decode cX1_firstNoFigure 7 = .ok (.iadd, 1) := by decide +kernel
theorem dX1_firstNoFigure_8 : decode cX1_firstNoFigure 8 = .ok (.if_icmp .ge 36, 3) := by decide +kernel
theorem dX1_firstNoFigure_11 : decode cX1_firstNoFigure 11 = .ok (.iload 4, 2) := by decide +kernel
theorem dX1_firstNoFigure_13 : decode cX1_firstNoFigure 13 = .ok (.iload_n 1, 1) := by decide +kernel
theorem dX1_firstNoFigure_14 : decode cX1_firstNoFigure 14 = .ok (.if_icmp .ge 21, 3) := by decide +kernel
theorem dX1_firstNoFigure_17 : decode cX1_firstNoFigure 17 = .ok (.aload_n 0, 1) := by decide +kernel
theorem dX1_firstNoFigure_18 : decode cX1_firstNoFigure 18 = .ok (.iload 4, 2) := by decide +kernel
theorem dX1_firstNoFigure_20 : decode cX1_firstNoFigure 20 = .ok (.baload, 1) := by decide +kernel
theorem dX1_firstNoFigure_21 : decode cX1_firstNoFigure 21 = .ok (.bipush 48, 2) := by decide +kernel
theorem dX1_firstNoFigure_23 : decode cX1_firstNoFigure 23 = .ok (.if_icmp .lt 12, 3) := by decide +kernel
theorem dX1_firstNoFigure_26 : decode cX1_firstNoFigure 26 = .ok (.aload_n 0, 1) := by decide +kernel
theorem dX1_firstNoFigure_27 : decode cX1_firstNoFigure 27 = .ok (.iload 4, 2) := by decide +kernel
theorem dX1_firstNoFigure_29 : decode cX1_firstNoFigure 29 = .ok (.baload, 1) := by decide +kernel
theorem dX1_firstNoFigure_30 : decode cX1_firstNoFigure 30 = .ok (.bipush 57, 2) := by decide +kernel
theorem dX1_firstNoFigure_32 : decode cX1_firstNoFigure 32 = .ok (.if_icmp .le 6, 3) := by decide +kernel
theorem dX1_firstNoFigure_35 : decode cX1_firstNoFigure 35 = .ok (.iload 4, 2) := by decide +kernel
theorem dX1_firstNoFigure_37 : decode cX1_firstNoFigure 37 = .ok (.ireturn, 1) := by decide +kernel
theorem dX1_firstNoFigure_38 : decode cX1_firstNoFigure 38 = .ok (.iinc 4 1, 3) := by decide +kernel
theorem dX1_firstNoFigure_41 : decode cX1_firstNoFigure 41 = .ok (.goto (-38), 3) := by decide +kernel
theorem dX1_firstNoFigure_44 : decode cX1_firstNoFigure 44 = .ok (.bipush (-9), 2) := by decide +kernel
theorem dX1_firstNoFigure_46 : decode cX1_firstNoFigure 46 = .ok (.ireturn, 1) := by decide +kernel
theorem dX1_pastBlanks_0 : decode cX1_pastBlanks 0 = .ok (.iload_n 2, 1) := by decide +kernel
theorem dX1_pastBlanks_1 : decode cX1_pastBlanks 1 = .ok (.istore_n 3, 1) := by decide +kernel
theorem dX1_pastBlanks_2 : decode cX1_pastBlanks 2 = .ok (.iload_n 3, 1) := by decide +kernel
theorem dX1_pastBlanks_3 : decode cX1_pastBlanks 3 = .ok (.iload_n 1, 1) := by decide +kernel
theorem dX1_pastBlanks_4 : decode cX1_pastBlanks 4 = .ok (.if_icmp .ge 17, 3) := by decide +kernel
theorem dX1_pastBlanks_7 : decode cX1_pastBlanks 7 = .ok (.aload_n 0, 1) := by decide +kernel
theorem dX1_pastBlanks_8 : decode cX1_pastBlanks 8 = .ok (.iload_n 3, 1) := by decide +kernel
theorem dX1_pastBlanks_9 : decode cX1_pastBlanks 9 = .ok (.baload, 1) := by decide +kernel
theorem dX1_pastBlanks_10 : decode cX1_pastBlanks 10 = .ok (.bipush 32, 2) := by decide +kernel
theorem dX1_pastBlanks_12 : decode cX1_pastBlanks 12 = .ok (.if_icmp .ne 9, 3) := by decide +kernel
theorem dX1_pastBlanks_15 : decode cX1_pastBlanks 15 = .ok (.iinc 3 1, 3) := by decide +kernel
theorem dX1_pastBlanks_18 : decode cX1_pastBlanks 18 = .ok (.goto (-16), 3) := by decide +kernel
theorem dX1_pastBlanks_21 : decode cX1_pastBlanks 21 = .ok (.iload_n 3, 1) := by decide +kernel
theorem dX1_pastBlanks_22 : decode cX1_pastBlanks 22 = .ok (.ireturn, 1) := by decide +kernel
theorem dX1_kindOf_0 : decode cX1_kindOf 0 = .ok (.iload_n 0, 1) := by decide +kernel
theorem dX1_kindOf_1 : decode cX1_kindOf 1 = .ok (.tableswitch 103 98 116 #[97, 103, 93, 95, 103, 103, 103, 103, 103, 103, 103, 103, 103, 103, 91, 101, 103, 103, 99], 91) := by decide +kernel
theorem dX1_kindOf_92 : decode cX1_kindOf 92 = .ok (.iconst 0, 1) := by decide +kernel
theorem dX1_kindOf_93 : decode cX1_kindOf 93 = .ok (.ireturn, 1) := by decide +kernel
theorem dX1_kindOf_94 : decode cX1_kindOf 94 = .ok (.iconst 1, 1) := by decide +kernel
theorem dX1_kindOf_95 : decode cX1_kindOf 95 = .ok (.ireturn, 1) := by decide +kernel
theorem dX1_kindOf_96 : decode cX1_kindOf 96 = .ok (.iconst 2, 1) := by decide +kernel
theorem dX1_kindOf_97 : decode cX1_kindOf 97 = .ok (.ireturn, 1) := by decide +kernel
theorem dX1_kindOf_98 : decode cX1_kindOf 98 = .ok (.iconst 3, 1) := by decide +kernel
theorem dX1_kindOf_99 : decode cX1_kindOf 99 = .ok (.ireturn, 1) := by decide +kernel
theorem dX1_kindOf_100 : decode cX1_kindOf 100 = .ok (.iconst 4, 1) := by decide +kernel
theorem dX1_kindOf_101 : decode cX1_kindOf 101 = .ok (.ireturn, 1) := by decide +kernel
theorem dX1_kindOf_102 : decode cX1_kindOf 102 = .ok (.iconst 5, 1) := by decide +kernel
theorem dX1_kindOf_103 : decode cX1_kindOf 103 = .ok (.ireturn, 1) := by decide +kernel
theorem dX1_kindOf_104 : decode cX1_kindOf 104 = .ok (.bipush (-9), 2) := by decide +kernel
theorem dX1_kindOf_106 : decode cX1_kindOf 106 = .ok (.ireturn, 1) := by decide +kernel
theorem dX1_readPersonAside_0 : decode cX1_readPersonAside 0 = .ok (.aload_n 1, 1) := by decide +kernel
theorem dX1_readPersonAside_1 : decode cX1_readPersonAside 1 = .ok (.iload_n 3, 1) := by decide +kernel
theorem dX1_readPersonAside_2 : decode cX1_readPersonAside 2 = .ok (.baload, 1) := by decide +kernel
theorem dX1_readPersonAside_3 : decode cX1_readPersonAside 3 = .ok (.invokestatic 275, 3) := by decide +kernel
theorem dX1_readPersonAside_6 : decode cX1_readPersonAside 6 = .ok (.istore 4, 2) := by decide +kernel
theorem dX1_readPersonAside_8 : decode cX1_readPersonAside 8 = .ok (.iload 4, 2) := by decide +kernel
theorem dX1_readPersonAside_10 : decode cX1_readPersonAside 10 = .ok (.bipush (-9), 2) := by decide +kernel
theorem dX1_readPersonAside_12 : decode cX1_readPersonAside 12 = .ok (.if_icmp .eq 15, 3) := by decide +kernel
theorem dX1_readPersonAside_15 : decode cX1_readPersonAside 15 = .ok (.aload_n 0, 1) := by decide +kernel
theorem dX1_readPersonAside_16 : decode cX1_readPersonAside 16 = .ok (.getfield 36, 3) := by decide +kernel
theorem dX1_readPersonAside_19 : decode cX1_readPersonAside 19 = .ok (.getfield 122, 3) := by decide +kernel
theorem dX1_readPersonAside_22 : decode cX1_readPersonAside 22 = .ok (.bipush 6, 2) := by decide +kernel
theorem dX1_readPersonAside_24 : decode cX1_readPersonAside 24 = .ok (.if_icmp .lt 5, 3) := by decide +kernel
theorem dX1_readPersonAside_27 : decode cX1_readPersonAside 27 = .ok (.iload_n 3, 1) := by decide +kernel
theorem dX1_readPersonAside_28 : decode cX1_readPersonAside 28 = .ok (.ireturn, 1) := by decide +kernel
theorem dX1_readPersonAside_29 : decode cX1_readPersonAside 29 = .ok (.aload_n 1, 1) := by decide +kernel
theorem dX1_readPersonAside_30 : decode cX1_readPersonAside 30 = .ok (.iload_n 2, 1) := by decide +kernel
theorem dX1_readPersonAside_31 : decode cX1_readPersonAside 31 = .ok (.iload_n 3, 1) := by decide +kernel
theorem dX1_readPersonAside_32 : decode cX1_readPersonAside 32 = .ok (.iconst 1, 1) := by decide +kernel
theorem dX1_readPersonAside_33 : decode cX1_readPersonAside 33 = .ok (.iadd, 1) := by decide +kernel
theorem dX1_readPersonAside_34 : decode cX1_readPersonAside 34 = .ok (.iconst 3, 1) := by decide +kernel
theorem dX1_readPersonAside_35 : decode cX1_readPersonAside 35 = .ok (.invokestatic 265, 3) := by decide +kernel
theorem dX1_readPersonAside_38 : decode cX1_readPersonAside 38 = .ok (.istore 5, 2) := by decide +kernel
theorem dX1_readPersonAside_40 : decode cX1_readPersonAside 40 = .ok (.iload 5, 2) := by decide +kernel
theorem dX1_readPersonAside_42 : decode cX1_readPersonAside 42 = .ok (.bipush (-9), 2) := by decide +kernel
theorem dX1_readPersonAside_44 : decode cX1_readPersonAside 44 = .ok (.if_icmp .eq 6, 3) := by decide +kernel
theorem dX1_readPersonAside_47 : decode cX1_readPersonAside 47 = .ok (.iload 5, 2) := by decide +kernel
theorem dX1_readPersonAside_49 : decode cX1_readPersonAside 49 = .ok (.ireturn, 1) := by decide +kernel
theorem dX1_readPersonAside_50 : decode cX1_readPersonAside 50 = .ok (.bipush 10, 2) := by decide +kernel
theorem dX1_readPersonAside_52 : decode cX1_readPersonAside 52 = .ok (.aload_n 1, 1) := by decide +kernel
theorem dX1_readPersonAside_53 : decode cX1_readPersonAside 53 = .ok (.iload_n 3, 1) := by decide +kernel
theorem dX1_readPersonAside_54 : decode cX1_readPersonAside 54 = .ok (.iconst 2, 1) := by decide +kernel
theorem dX1_readPersonAside_55 : decode cX1_readPersonAside 55 = .ok (.iadd, 1) := by decide +kernel
theorem dX1_readPersonAside_56 : decode cX1_readPersonAside 56 = .ok (.baload, 1) := by decide +kernel
theorem dX1_readPersonAside_57 : decode cX1_readPersonAside 57 = .ok (.bipush 48, 2) := by decide +kernel
theorem dX1_readPersonAside_59 : decode cX1_readPersonAside 59 = .ok (.isub, 1) := by decide +kernel
theorem dX1_readPersonAside_60 : decode cX1_readPersonAside 60 = .ok (.imul, 1) := by decide +kernel
theorem dX1_readPersonAside_61 : decode cX1_readPersonAside 61 = .ok (.aload_n 1, 1) := by decide +kernel
theorem dX1_readPersonAside_62 : decode cX1_readPersonAside 62 = .ok (.iload_n 3, 1) := by decide +kernel
theorem dX1_readPersonAside_63 : decode cX1_readPersonAside 63 = .ok (.iconst 3, 1) := by decide +kernel
theorem dX1_readPersonAside_64 : decode cX1_readPersonAside 64 = .ok (.iadd, 1) := by decide +kernel
theorem dX1_readPersonAside_65 : decode cX1_readPersonAside 65 = .ok (.baload, 1) := by decide +kernel
theorem dX1_readPersonAside_66 : decode cX1_readPersonAside 66 = .ok (.iadd, 1) := by decide +kernel
theorem dX1_readPersonAside_67 : decode cX1_readPersonAside 67 = .ok (.bipush 48, 2) := by decide +kernel
theorem dX1_readPersonAside_69 : decode cX1_readPersonAside 69 = .ok (.isub, 1) := by decide +kernel
theorem dX1_readPersonAside_70 : decode cX1_readPersonAside 70 = .ok (.istore 6, 2) := by decide +kernel
theorem dX1_readPersonAside_72 : decode cX1_readPersonAside 72 = .ok (.iload 6, 2) := by decide +kernel
theorem dX1_readPersonAside_74 : decode cX1_readPersonAside 74 = .ok (.bipush 20, 2) := by decide +kernel
theorem dX1_readPersonAside_76 : decode cX1_readPersonAside 76 = .ok (.if_icmp .le 7, 3) := by decide +kernel
theorem dX1_readPersonAside_79 : decode cX1_readPersonAside 79 = .ok (.iload_n 3, 1) := by decide +kernel
theorem dX1_readPersonAside_80 : decode cX1_readPersonAside 80 = .ok (.iconst 2, 1) := by decide +kernel
theorem dX1_readPersonAside_81 : decode cX1_readPersonAside 81 = .ok (.iadd, 1) := by decide +kernel
theorem dX1_readPersonAside_82 : decode cX1_readPersonAside 82 = .ok (.ireturn, 1) := by decide +kernel
theorem dX1_readPersonAside_83 : decode cX1_readPersonAside 83 = .ok (.aload_n 0, 1) := by decide +kernel
theorem dX1_readPersonAside_84 : decode cX1_readPersonAside 84 = .ok (.getfield 36, 3) := by decide +kernel
theorem dX1_readPersonAside_87 : decode cX1_readPersonAside 87 = .ok (.iload 4, 2) := by decide +kernel
theorem dX1_readPersonAside_89 : decode cX1_readPersonAside 89 = .ok (.aload_n 1, 1) := by decide +kernel
theorem dX1_readPersonAside_90 : decode cX1_readPersonAside 90 = .ok (.iload_n 3, 1) := by decide +kernel
theorem dX1_readPersonAside_91 : decode cX1_readPersonAside 91 = .ok (.iconst 1, 1) := by decide +kernel
theorem dX1_readPersonAside_92 : decode cX1_readPersonAside 92 = .ok (.iadd, 1) := by decide +kernel
theorem dX1_readPersonAside_93 : decode cX1_readPersonAside 93 = .ok (.baload, 1) := by decide +kernel
theorem dX1_readPersonAside_94 : decode cX1_readPersonAside 94 = .ok (.bipush 48, 2) := by decide +kernel
theorem dX1_readPersonAside_96 : decode cX1_readPersonAside 96 = .ok (.isub, 1) := by decide +kernel
theorem dX1_readPersonAside_97 : decode cX1_readPersonAside 97 = .ok (.iload 6, 2) := by decide +kernel
theorem dX1_readPersonAside_99 : decode cX1_readPersonAside 99 = .ok (.invokevirtual 278, 3) := by decide +kernel
theorem dX1_readPersonAside_102 : decode cX1_readPersonAside 102 = .ok (.bipush (-9), 2) := by decide +kernel
theorem dX1_readPersonAside_104 : decode cX1_readPersonAside 104 = .ok (.ireturn, 1) := by decide +kernel
theorem dX1_readAside_0 : decode cX1_readAside 0 = .ok (.aload_n 1, 1) := by decide +kernel
theorem dX1_readAside_1 : decode cX1_readAside 1 = .ok (.iload_n 2, 1) := by decide +kernel
theorem dX1_readAside_2 : decode cX1_readAside 2 = .ok (.iconst 0, 1) := by decide +kernel
theorem dX1_readAside_3 : decode cX1_readAside 3 = .ok (.invokestatic 261, 3) := by decide +kernel
theorem dX1_readAside_6 : decode cX1_readAside 6 = .ok (.istore_n 3, 1) := by decide +kernel
theorem dX1_readAside_7 : decode cX1_readAside 7 = .ok (.iload_n 3, 1) := by decide +kernel
theorem dX1_readAside_8 : decode cX1_readAside 8 = .ok (.iload_n 2, 1) := by decide +kernel
theorem dX1_readAside_9 : decode cX1_readAside 9 = .ok (.if_icmp .ge 11, 3) := by decide +kernel
theorem dX1_readAside_12 : decode cX1_readAside 12 = .ok (.aload_n 1, 1) := by decide +kernel
theorem dX1_readAside_13 : decode cX1_readAside 13 = .ok (.iload_n 3, 1) := by decide +kernel
theorem dX1_readAside_14 : decode cX1_readAside 14 = .ok (.baload, 1) := by decide +kernel
theorem dX1_readAside_15 : decode cX1_readAside 15 = .ok (.bipush 102, 2) := by decide +kernel
theorem dX1_readAside_17 : decode cX1_readAside 17 = .ok (.if_icmp .eq 5, 3) := by decide +kernel
theorem dX1_readAside_20 : decode cX1_readAside 20 = .ok (.iload_n 3, 1) := by decide +kernel
theorem dX1_readAside_21 : decode cX1_readAside 21 = .ok (.ireturn, 1) := by decide +kernel
theorem dX1_readAside_22 : decode cX1_readAside 22 = .ok (.aload_n 1, 1) := by decide +kernel
theorem dX1_readAside_23 : decode cX1_readAside 23 = .ok (.iload_n 2, 1) := by decide +kernel
theorem dX1_readAside_24 : decode cX1_readAside 24 = .ok (.iload_n 3, 1) := by decide +kernel
theorem dX1_readAside_25 : decode cX1_readAside 25 = .ok (.iconst 1, 1) := by decide +kernel
theorem dX1_readAside_26 : decode cX1_readAside 26 = .ok (.iadd, 1) := by decide +kernel
theorem dX1_readAside_27 : decode cX1_readAside 27 = .ok (.iconst 1, 1) := by decide +kernel
theorem dX1_readAside_28 : decode cX1_readAside 28 = .ok (.invokestatic 265, 3) := by decide +kernel
theorem dX1_readAside_31 : decode cX1_readAside 31 = .ok (.istore 4, 2) := by decide +kernel
theorem dX1_readAside_33 : decode cX1_readAside 33 = .ok (.iload 4, 2) := by decide +kernel
theorem dX1_readAside_35 : decode cX1_readAside 35 = .ok (.bipush (-9), 2) := by decide +kernel
theorem dX1_readAside_37 : decode cX1_readAside 37 = .ok (.if_icmp .eq 6, 3) := by decide +kernel
theorem dX1_readAside_40 : decode cX1_readAside 40 = .ok (.iload 4, 2) := by decide +kernel
theorem dX1_readAside_42 : decode cX1_readAside 42 = .ok (.ireturn, 1) := by decide +kernel
theorem dX1_readAside_43 : decode cX1_readAside 43 = .ok (.aload_n 0, 1) := by decide +kernel
theorem dX1_readAside_44 : decode cX1_readAside 44 = .ok (.getfield 36, 3) := by decide +kernel
theorem dX1_readAside_47 : decode cX1_readAside 47 = .ok (.aload_n 1, 1) := by decide +kernel
theorem dX1_readAside_48 : decode cX1_readAside 48 = .ok (.iload_n 3, 1) := by decide +kernel
theorem dX1_readAside_49 : decode cX1_readAside 49 = .ok (.iconst 1, 1) := by decide +kernel
theorem dX1_readAside_50 : decode cX1_readAside 50 = .ok (.iadd, 1) := by decide +kernel
theorem dX1_readAside_51 : decode cX1_readAside 51 = .ok (.baload, 1) := by decide +kernel
theorem dX1_readAside_52 : decode cX1_readAside 52 = .ok (.bipush 48, 2) := by decide +kernel
theorem dX1_readAside_54 : decode cX1_readAside 54 = .ok (.isub, 1) := by decide +kernel
theorem dX1_readAside_55 : decode cX1_readAside 55 = .ok (.invokevirtual 269, 3) := by decide +kernel
theorem dX1_readAside_58 : decode cX1_readAside 58 = .ok (.aload_n 1, 1) := by decide +kernel
theorem dX1_readAside_59 : decode cX1_readAside 59 = .ok (.iload_n 2, 1) := by decide +kernel
theorem dX1_readAside_60 : decode cX1_readAside 60 = .ok (.iload_n 3, 1) := by decide +kernel
theorem dX1_readAside_61 : decode cX1_readAside 61 = .ok (.iconst 2, 1) := by decide +kernel
theorem dX1_readAside_62 : decode cX1_readAside 62 = .ok (.iadd, 1) := by decide +kernel
theorem dX1_readAside_63 : decode cX1_readAside 63 = .ok (.invokestatic 261, 3) := by decide +kernel
theorem dX1_readAside_66 : decode cX1_readAside 66 = .ok (.istore 5, 2) := by decide +kernel
theorem dX1_readAside_68 : decode cX1_readAside 68 = .ok (.iconst 0, 1) := by decide +kernel
theorem dX1_readAside_69 : decode cX1_readAside 69 = .ok (.istore 6, 2) := by decide +kernel
theorem dX1_readAside_71 : decode cX1_readAside 71 = .ok (.iload 6, 2) := by decide +kernel
theorem dX1_readAside_73 : decode cX1_readAside 73 = .ok (.bipush 6, 2) := by decide +kernel
theorem dX1_readAside_75 : decode cX1_readAside 75 = .ok (.if_icmp .gt 46, 3) := by decide +kernel
theorem dX1_readAside_78 : decode cX1_readAside 78 = .ok (.iload 5, 2) := by decide +kernel
theorem dX1_readAside_80 : decode cX1_readAside 80 = .ok (.iload_n 2, 1) := by decide +kernel
theorem dX1_readAside_81 : decode cX1_readAside 81 = .ok (.if_icmp .ge 40, 3) := by decide +kernel
theorem dX1_readAside_84 : decode cX1_readAside 84 = .ok (.aload_n 0, 1) := by decide +kernel
theorem dX1_readAside_85 : decode cX1_readAside 85 = .ok (.aload_n 1, 1) := by decide +kernel
theorem dX1_readAside_86 : decode cX1_readAside 86 = .ok (.iload_n 2, 1) := by decide +kernel
theorem dX1_readAside_87 : decode cX1_readAside 87 = .ok (.iload 5, 2) := by decide +kernel
theorem dX1_readAside_89 : decode cX1_readAside 89 = .ok (.invokevirtual 272, 3) := by decide +kernel
theorem dX1_readAside_92 : decode cX1_readAside 92 = .ok (.istore 4, 2) := by decide +kernel
theorem dX1_readAside_94 : decode cX1_readAside 94 = .ok (.iload 4, 2) := by decide +kernel
theorem dX1_readAside_96 : decode cX1_readAside 96 = .ok (.bipush (-9), 2) := by decide +kernel
theorem dX1_readAside_98 : decode cX1_readAside 98 = .ok (.if_icmp .eq 6, 3) := by decide +kernel
theorem dX1_readAside_101 : decode cX1_readAside 101 = .ok (.iload 4, 2) := by decide +kernel
theorem dX1_readAside_103 : decode cX1_readAside 103 = .ok (.ireturn, 1) := by decide +kernel
theorem dX1_readAside_104 : decode cX1_readAside 104 = .ok (.aload_n 1, 1) := by decide +kernel
theorem dX1_readAside_105 : decode cX1_readAside 105 = .ok (.iload_n 2, 1) := by decide +kernel
theorem dX1_readAside_106 : decode cX1_readAside 106 = .ok (.iload 5, 2) := by decide +kernel
theorem dX1_readAside_108 : decode cX1_readAside 108 = .ok (.iconst 4, 1) := by decide +kernel
theorem dX1_readAside_109 : decode cX1_readAside 109 = .ok (.iadd, 1) := by decide +kernel
theorem dX1_readAside_110 : decode cX1_readAside 110 = .ok (.invokestatic 261, 3) := by decide +kernel
theorem dX1_readAside_113 : decode cX1_readAside 113 = .ok (.istore 5, 2) := by decide +kernel
theorem dX1_readAside_115 : decode cX1_readAside 115 = .ok (.iinc 6 1, 3) := by decide +kernel
theorem dX1_readAside_118 : decode cX1_readAside 118 = .ok (.goto (-47), 3) := by decide +kernel
theorem dX1_readAside_121 : decode cX1_readAside 121 = .ok (.aload_n 0, 1) := by decide +kernel
theorem dX1_readAside_122 : decode cX1_readAside 122 = .ok (.getfield 36, 3) := by decide +kernel
theorem dX1_readAside_125 : decode cX1_readAside 125 = .ok (.getfield 122, 3) := by decide +kernel
theorem dX1_readAside_128 : decode cX1_readAside 128 = .ok (.ifCond .ne 7, 3) := by decide +kernel
theorem dX1_readAside_131 : decode cX1_readAside 131 = .ok (.iload_n 2, 1) := by decide +kernel
theorem dX1_readAside_132 : decode cX1_readAside 132 = .ok (.goto 5, 3) := by decide +kernel
theorem dX1_readAside_135 : decode cX1_readAside 135 = .ok (.bipush (-9), 2) := by decide +kernel
theorem dX1_readAside_137 : decode cX1_readAside 137 = .ok (.ireturn, 1) := by decide +kernel
theorem dX1_fault_0 : decode cX1_fault 0 = .ok (.iload_n 1, 1) := by decide +kernel
theorem dX1_fault_1 : decode cX1_fault 1 = .ok (.invokestatic 108, 3) := by decide +kernel
theorem dX1_fault_4 : decode cX1_fault 4 = .ok (.ifCond .ne 5, 3) := by decide +kernel
theorem dX1_fault_7 : decode cX1_fault 7 = .ok (.iconst (-1), 1) := by decide +kernel
theorem dX1_fault_8 : decode cX1_fault 8 = .ok (.ireturn, 1) := by decide +kernel
theorem dX1_fault_9 : decode cX1_fault 9 = .ok (.aload_n 0, 1) := by decide +kernel
theorem dX1_fault_10 : decode cX1_fault 10 = .ok (.getfield 23, 3) := by decide +kernel
theorem dX1_fault_13 : decode cX1_fault 13 = .ok (.iload_n 1, 1) := by decide +kernel
theorem dX1_fault_14 : decode cX1_fault 14 = .ok (.iaload, 1) := by decide +kernel
theorem dX1_fault_15 : decode cX1_fault 15 = .ok (.ifCond .ge 9, 3) := by decide +kernel
theorem dX1_fault_18 : decode cX1_fault 18 = .ok (.aload_n 0, 1) := by decide +kernel
theorem dX1_fault_19 : decode cX1_fault 19 = .ok (.iconst 1, 1) := by decide +kernel
theorem dX1_fault_20 : decode cX1_fault 20 = .ok (.invokevirtual 87, 3) := by decide +kernel
theorem dX1_fault_23 : decode cX1_fault 23 = .ok (.ireturn, 1) := by decide +kernel
theorem dX1_fault_24 : decode cX1_fault 24 = .ok (.aload_n 0, 1) := by decide +kernel
theorem dX1_fault_25 : decode cX1_fault 25 = .ok (.aload_n 0, 1) := by decide +kernel
theorem dX1_fault_26 : decode cX1_fault 26 = .ok (.getfield 20, 3) := by decide +kernel
theorem dX1_fault_29 : decode cX1_fault 29 = .ok (.iload_n 1, 1) := by decide +kernel
theorem dX1_fault_30 : decode cX1_fault 30 = .ok (.aaload, 1) := by decide +kernel
theorem dX1_fault_31 : decode cX1_fault 31 = .ok (.aload_n 0, 1) := by decide +kernel
theorem dX1_fault_32 : decode cX1_fault 32 = .ok (.getfield 23, 3) := by decide +kernel
theorem dX1_fault_35 : decode cX1_fault 35 = .ok (.iload_n 1, 1) := by decide +kernel
theorem dX1_fault_36 : decode cX1_fault 36 = .ok (.iaload, 1) := by decide +kernel
theorem dX1_fault_37 : decode cX1_fault 37 = .ok (.invokevirtual 114, 3) := by decide +kernel
theorem dX1_fault_40 : decode cX1_fault 40 = .ok (.ireturn, 1) := by decide +kernel
theorem dX1_river_0 : decode cX1_river 0 = .ok (.iload_n 1, 1) := by decide +kernel
theorem dX1_river_1 : decode cX1_river 1 = .ok (.invokestatic 108, 3) := by decide +kernel
theorem dX1_river_4 : decode cX1_river 4 = .ok (.ifCond .ne 5, 3) := by decide +kernel
theorem dX1_river_7 : decode cX1_river 7 = .ok (.iconst (-1), 1) := by decide +kernel
theorem dX1_river_8 : decode cX1_river 8 = .ok (.ireturn, 1) := by decide +kernel
theorem dX1_river_9 : decode cX1_river 9 = .ok (.aload_n 0, 1) := by decide +kernel
theorem dX1_river_10 : decode cX1_river 10 = .ok (.getfield 23, 3) := by decide +kernel
theorem dX1_river_13 : decode cX1_river 13 = .ok (.iload_n 1, 1) := by decide +kernel
theorem dX1_river_14 : decode cX1_river 14 = .ok (.iaload, 1) := by decide +kernel
theorem dX1_river_15 : decode cX1_river 15 = .ok (.ifCond .ge 9, 3) := by decide +kernel
theorem dX1_river_18 : decode cX1_river 18 = .ok (.aload_n 0, 1) := by decide +kernel
theorem dX1_river_19 : decode cX1_river 19 = .ok (.iconst 1, 1) := by decide +kernel
theorem dX1_river_20 : decode cX1_river 20 = .ok (.invokevirtual 87, 3) := by decide +kernel
theorem dX1_river_23 : decode cX1_river 23 = .ok (.ireturn, 1) := by decide +kernel
theorem dX1_river_24 : decode cX1_river 24 = .ok (.aload_n 0, 1) := by decide +kernel
theorem dX1_river_25 : decode cX1_river 25 = .ok (.aload_n 0, 1) := by decide +kernel
theorem dX1_river_26 : decode cX1_river 26 = .ok (.getfield 20, 3) := by decide +kernel
theorem dX1_river_29 : decode cX1_river 29 = .ok (.iload_n 1, 1) := by decide +kernel
theorem dX1_river_30 : decode cX1_river 30 = .ok (.aaload, 1) := by decide +kernel
theorem dX1_river_31 : decode cX1_river 31 = .ok (.aload_n 0, 1) := by decide +kernel
theorem dX1_river_32 : decode cX1_river 32 = .ok (.getfield 23, 3) := by decide +kernel
theorem dX1_river_35 : decode cX1_river 35 = .ok (.iload_n 1, 1) := by decide +kernel
theorem dX1_river_36 : decode cX1_river 36 = .ok (.iaload, 1) := by decide +kernel
theorem dX1_river_37 : decode cX1_river 37 = .ok (.invokevirtual 114, 3) := by decide +kernel
theorem dX1_river_40 : decode cX1_river 40 = .ok (.bipush (-9), 2) := by decide +kernel
theorem dX1_river_42 : decode cX1_river 42 = .ok (.if_icmp .eq 6, 3) := by decide +kernel
theorem dX1_river_45 : decode cX1_river 45 = .ok (.bipush (-4), 2) := by decide +kernel
theorem dX1_river_47 : decode cX1_river 47 = .ok (.ireturn, 1) := by decide +kernel
theorem dX1_river_48 : decode cX1_river 48 = .ok (.aload_n 0, 1) := by decide +kernel
theorem dX1_river_49 : decode cX1_river 49 = .ok (.getfield 29, 3) := by decide +kernel
theorem dX1_river_52 : decode cX1_river 52 = .ok (.aload_n 0, 1) := by decide +kernel
theorem dX1_river_53 : decode cX1_river 53 = .ok (.getfield 36, 3) := by decide +kernel
theorem dX1_river_56 : decode cX1_river 56 = .ok (.invokevirtual 118, 3) := by decide +kernel
theorem dX1_river_59 : decode cX1_river 59 = .ok (.aload_n 0, 1) := by decide +kernel
theorem dX1_river_60 : decode cX1_river 60 = .ok (.getfield 33, 3) := by decide +kernel
theorem dX1_river_63 : decode cX1_river 63 = .ok (.aload_n 0, 1) := by decide +kernel
theorem dX1_river_64 : decode cX1_river 64 = .ok (.getfield 36, 3) := by decide +kernel
theorem dX1_river_67 : decode cX1_river 67 = .ok (.invokevirtual 118, 3) := by decide +kernel
theorem dX1_river_70 : decode cX1_river 70 = .ok (.aload_n 0, 1) := by decide +kernel
theorem dX1_river_71 : decode cX1_river 71 = .ok (.iconst 0, 1) := by decide +kernel
theorem dX1_river_72 : decode cX1_river 72 = .ok (.putfield 42, 3) := by decide +kernel
theorem dX1_river_75 : decode cX1_river 75 = .ok (.aload_n 0, 1) := by decide +kernel
theorem dX1_river_76 : decode cX1_river 76 = .ok (.getfield 49, 3) := by decide +kernel
theorem dX1_river_79 : decode cX1_river 79 = .ok (.iconst (-1), 1) := by decide +kernel
theorem dX1_river_80 : decode cX1_river 80 = .ok (.invokestatic 77, 3) := by decide +kernel
theorem dX1_river_83 : decode cX1_river 83 = .ok (.aload_n 0, 1) := by decide +kernel
theorem dX1_river_84 : decode cX1_river 84 = .ok (.getfield 33, 3) := by decide +kernel
theorem dX1_river_87 : decode cX1_river 87 = .ok (.getfield 122, 3) := by decide +kernel
theorem dX1_river_90 : decode cX1_river 90 = .ok (.ireturn, 1) := by decide +kernel
theorem dX1_one_0 : decode cX1_one 0 = .ok (.aload_n 0, 1) := by decide +kernel
theorem dX1_one_1 : decode cX1_one 1 = .ok (.getfield 33, 3) := by decide +kernel
theorem dX1_one_4 : decode cX1_one 4 = .ok (.iload_n 1, 1) := by decide +kernel
theorem dX1_one_5 : decode cX1_one 5 = .ok (.invokevirtual 125, 3) := by decide +kernel
theorem dX1_one_8 : decode cX1_one 8 = .ok (.ifCond .eq 12, 3) := by decide +kernel
theorem dX1_one_11 : decode cX1_one 11 = .ok (.iload_n 2, 1) := by decide +kernel
theorem dX1_one_12 : decode cX1_one 12 = .ok (.iconst 0, 1) := by decide +kernel
theorem dX1_one_13 : decode cX1_one 13 = .ok (.iconst 5, 1) := by decide +kernel
theorem dX1_one_14 : decode cX1_one 14 = .ok (.invokestatic 128, 3) := by decide +kernel
theorem dX1_one_17 : decode cX1_one 17 = .ok (.ifCond .ne 5, 3) := by decide +kernel
theorem dX1_one_20 : decode cX1_one 20 = .ok (.iconst (-1), 1) := by decide +kernel
theorem dX1_one_21 : decode cX1_one 21 = .ok (.ireturn, 1) := by decide +kernel
theorem dX1_one_22 : decode cX1_one 22 = .ok (.aload_n 0, 1) := by decide +kernel
theorem dX1_one_23 : decode cX1_one 23 = .ok (.aload_n 0, 1) := by decide +kernel
theorem dX1_one_24 : decode cX1_one 24 = .ok (.getfield 33, 3) := by decide +kernel
theorem dX1_one_27 : decode cX1_one 27 = .ok (.iload_n 1, 1) := by decide +kernel
theorem dX1_one_28 : decode cX1_one 28 = .ok (.iload_n 2, 1) := by decide +kernel
theorem dX1_one_29 : decode cX1_one 29 = .ok (.invokevirtual 132, 3) := by decide +kernel
theorem dX1_one_32 : decode cX1_one 32 = .ok (.invokevirtual 99, 3) := by decide +kernel
theorem dX1_one_35 : decode cX1_one 35 = .ok (.ireturn, 1) := by decide +kernel
theorem dX1_mark_0 : decode cX1_mark 0 = .ok (.aload_n 0, 1) := by decide +kernel
theorem dX1_mark_1 : decode cX1_mark 1 = .ok (.getfield 33, 3) := by decide +kernel
theorem dX1_mark_4 : decode cX1_mark 4 = .ok (.iload_n 1, 1) := by decide +kernel
theorem dX1_mark_5 : decode cX1_mark 5 = .ok (.invokevirtual 125, 3) := by decide +kernel
theorem dX1_mark_8 : decode cX1_mark 8 = .ok (.ifCond .eq 12, 3) := by decide +kernel
theorem dX1_mark_11 : decode cX1_mark 11 = .ok (.iload_n 2, 1) := by decide +kernel
theorem dX1_mark_12 : decode cX1_mark 12 = .ok (.iconst 1, 1) := by decide +kernel
theorem dX1_mark_13 : decode cX1_mark 13 = .ok (.iconst 5, 1) := by decide +kernel
theorem dX1_mark_14 : decode cX1_mark 14 = .ok (.invokestatic 128, 3) := by decide +kernel
theorem dX1_mark_17 : decode cX1_mark 17 = .ok (.ifCond .ne 5, 3) := by decide +kernel
theorem dX1_mark_20 : decode cX1_mark 20 = .ok (.iconst (-1), 1) := by decide +kernel
theorem dX1_mark_21 : decode cX1_mark 21 = .ok (.ireturn, 1) := by decide +kernel
theorem dX1_mark_22 : decode cX1_mark 22 = .ok (.aload_n 0, 1) := by decide +kernel
theorem dX1_mark_23 : decode cX1_mark 23 = .ok (.getfield 33, 3) := by decide +kernel
theorem dX1_mark_26 : decode cX1_mark 26 = .ok (.getfield 135, 3) := by decide +kernel
theorem dX1_mark_29 : decode cX1_mark 29 = .ok (.iload_n 1, 1) := by decide +kernel
theorem dX1_mark_30 : decode cX1_mark 30 = .ok (.iaload, 1) := by decide +kernel
theorem dX1_mark_31 : decode cX1_mark 31 = .ok (.iload_n 2, 1) := by decide +kernel
theorem dX1_mark_32 : decode cX1_mark 32 = .ok (.invokestatic 138, 3) := by decide +kernel
theorem dX1_mark_35 : decode cX1_mark 35 = .ok (.ifCond .ne 9, 3) := by decide +kernel
theorem dX1_mark_38 : decode cX1_mark 38 = .ok (.aload_n 0, 1) := by decide +kernel
theorem dX1_mark_39 : decode cX1_mark 39 = .ok (.iconst 3, 1) := by decide +kernel
theorem dX1_mark_40 : decode cX1_mark 40 = .ok (.invokevirtual 87, 3) := by decide +kernel
theorem dX1_mark_43 : decode cX1_mark 43 = .ok (.ireturn, 1) := by decide +kernel
theorem dX1_mark_44 : decode cX1_mark 44 = .ok (.aload_n 0, 1) := by decide +kernel
theorem dX1_mark_45 : decode cX1_mark 45 = .ok (.getfield 33, 3) := by decide +kernel
theorem dX1_mark_48 : decode cX1_mark 48 = .ok (.iload_n 1, 1) := by decide +kernel
theorem dX1_mark_49 : decode cX1_mark 49 = .ok (.iload_n 2, 1) := by decide +kernel
theorem dX1_mark_50 : decode cX1_mark 50 = .ok (.invokevirtual 142, 3) := by decide +kernel
theorem dX1_mark_53 : decode cX1_mark 53 = .ok (.ireturn, 1) := by decide +kernel
theorem dX1_deedOf_0 : decode cX1_deedOf 0 = .ok (.iload_n 0, 1) := by decide +kernel
theorem dX1_deedOf_1 : decode cX1_deedOf 1 = .ok (.iload_n 1, 1) := by decide +kernel
theorem dX1_deedOf_2 : decode cX1_deedOf 2 = .ok (.iconst 2, 1) := by decide +kernel
theorem dX1_deedOf_3 : decode cX1_deedOf 3 = .ok (.ishl, 1) := by decide +kernel
theorem dX1_deedOf_4 : decode cX1_deedOf 4 = .ok (.ior, 1) := by decide +kernel
theorem dX1_deedOf_5 : decode cX1_deedOf 5 = .ok (.iload_n 2, 1) := by decide +kernel
theorem dX1_deedOf_6 : decode cX1_deedOf 6 = .ok (.iconst 5, 1) := by decide +kernel
theorem dX1_deedOf_7 : decode cX1_deedOf 7 = .ok (.ishl, 1) := by decide +kernel
theorem dX1_deedOf_8 : decode cX1_deedOf 8 = .ok (.ior, 1) := by decide +kernel
theorem dX1_deedOf_9 : decode cX1_deedOf 9 = .ok (.ireturn, 1) := by decide +kernel
theorem dX1_perform_0 : decode cX1_perform 0 = .ok (.aload_n 0, 1) := by decide +kernel
theorem dX1_perform_1 : decode cX1_perform 1 = .ok (.getfield 42, 3) := by decide +kernel
theorem dX1_perform_4 : decode cX1_perform 4 = .ok (.bipush 40, 2) := by decide +kernel
theorem dX1_perform_6 : decode cX1_perform 6 = .ok (.if_icmp .ge 31, 3) := by decide +kernel
theorem dX1_perform_9 : decode cX1_perform 9 = .ok (.aload_n 0, 1) := by decide +kernel
theorem dX1_perform_10 : decode cX1_perform 10 = .ok (.getfield 39, 3) := by decide +kernel
theorem dX1_perform_13 : decode cX1_perform 13 = .ok (.aload_n 0, 1) := by decide +kernel
theorem dX1_perform_14 : decode cX1_perform 14 = .ok (.getfield 42, 3) := by decide +kernel
theorem dX1_perform_17 : decode cX1_perform 17 = .ok (.iload_n 1, 1) := by decide +kernel
theorem dX1_perform_18 : decode cX1_perform 18 = .ok (.iastore, 1) := by decide +kernel
theorem dX1_perform_19 : decode cX1_perform 19 = .ok (.aload_n 0, 1) := by decide +kernel
theorem dX1_perform_20 : decode cX1_perform 20 = .ok (.dup, 1) := by decide +kernel
theorem dX1_perform_21 : decode cX1_perform 21 = .ok (.getfield 42, 3) := by decide +kernel
theorem dX1_perform_24 : decode cX1_perform 24 = .ok (.iconst 1, 1) := by decide +kernel
theorem dX1_perform_25 : decode cX1_perform 25 = .ok (.iadd, 1) := by decide +kernel
theorem dX1_perform_26 : decode cX1_perform 26 = .ok (.putfield 42, 3) := by decide +kernel
theorem dX1_perform_29 : decode cX1_perform 29 = .ok (.aload_n 0, 1) := by decide +kernel
theorem dX1_perform_30 : decode cX1_perform 30 = .ok (.getfield 33, 3) := by decide +kernel
theorem dX1_perform_33 : decode cX1_perform 33 = .ok (.iload_n 1, 1) := by decide +kernel
theorem dX1_perform_34 : decode cX1_perform 34 = .ok (.invokevirtual 293, 3) := by decide +kernel
theorem dX1_perform_37 : decode cX1_perform 37 = .ok (.return_, 1) := by decide +kernel
theorem dX1_night_0 : decode cX1_night 0 = .ok (.aload_n 0, 1) := by decide +kernel
theorem dX1_night_1 : decode cX1_night 1 = .ok (.getfield 33, 3) := by decide +kernel
theorem dX1_night_4 : decode cX1_night 4 = .ok (.getfield 122, 3) := by decide +kernel
theorem dX1_night_7 : decode cX1_night 7 = .ok (.ifCond .ne 6, 3) := by decide +kernel
theorem dX1_night_10 : decode cX1_night 10 = .ok (.bipush (-4), 2) := by decide +kernel
theorem dX1_night_12 : decode cX1_night 12 = .ok (.ireturn, 1) := by decide +kernel
theorem dX1_night_13 : decode cX1_night 13 = .ok (.aload_n 0, 1) := by decide +kernel
theorem dX1_night_14 : decode cX1_night 14 = .ok (.getfield 42, 3) := by decide +kernel
theorem dX1_night_17 : decode cX1_night 17 = .ok (.bipush 40, 2) := by decide +kernel
theorem dX1_night_19 : decode cX1_night 19 = .ok (.if_icmp .lt 6, 3) := by decide +kernel
theorem dX1_night_22 : decode cX1_night 22 = .ok (.bipush (-2), 2) := by decide +kernel
theorem dX1_night_24 : decode cX1_night 24 = .ok (.ireturn, 1) := by decide +kernel
theorem dX1_night_25 : decode cX1_night 25 = .ok (.aload_n 0, 1) := by decide +kernel
theorem dX1_night_26 : decode cX1_night 26 = .ok (.getfield 33, 3) := by decide +kernel
theorem dX1_night_29 : decode cX1_night 29 = .ok (.iconst 0, 1) := by decide +kernel
theorem dX1_night_30 : decode cX1_night 30 = .ok (.invokevirtual 145, 3) := by decide +kernel
theorem dX1_night_33 : decode cX1_night 33 = .ok (.istore_n 1, 1) := by decide +kernel
theorem dX1_night_34 : decode cX1_night 34 = .ok (.aload_n 0, 1) := by decide +kernel
theorem dX1_night_35 : decode cX1_night 35 = .ok (.iconst 0, 1) := by decide +kernel
theorem dX1_night_36 : decode cX1_night 36 = .ok (.iconst 0, 1) := by decide +kernel
theorem dX1_night_37 : decode cX1_night 37 = .ok (.iconst 0, 1) := by decide +kernel
theorem dX1_night_38 : decode cX1_night 38 = .ok (.invokestatic 148, 3) := by decide +kernel
theorem dX1_night_41 : decode cX1_night 41 = .ok (.invokevirtual 152, 3) := by decide +kernel
theorem dX1_night_44 : decode cX1_night 44 = .ok (.iload_n 1, 1) := by decide +kernel
theorem dX1_night_45 : decode cX1_night 45 = .ok (.ireturn, 1) := by decide +kernel
theorem fl_X1_36 : FLk RX1 36 1 6 := Or.inl (in_gd (i := 148) (by decide +kernel) rfl)
theorem fl_X1_122 : FLk RX1 122 0 4 := Or.inr ⟨"DareFord", in_ns (i := 117) (by decide +kernel) rfl⟩
theorem mt_X1_kindOf : Cond.static yX1_kindOf ∈ gd_tbl ∧ Cond.initialized yX1_kindOf.cls ∈ gd_tbl ∧ Cond.code yX1_kindOf cX1_kindOf 1 (some .int) ∈ gd_tbl := ⟨in_gd (i := 286) (by decide +kernel) rfl, in_gd (i := 84) (by decide +kernel) rfl, in_gd (i := 287) (by decide +kernel) rfl⟩
theorem yo_X1_kindOf : yOk yX1_kindOf 1 := ⟨by decide, by decide, by decide +kernel⟩
theorem l_X1_275 : mlS RX1 275 yX1_kindOf cX1_kindOf 1 (some .int) := ⟨in_gd (i := 285) (by decide +kernel) rfl, mt_X1_kindOf⟩
theorem mt_X1_firstNoFigure : Cond.static yX1_firstNoFigure ∈ gd_tbl ∧ Cond.initialized yX1_firstNoFigure.cls ∈ gd_tbl ∧ Cond.code yX1_firstNoFigure cX1_firstNoFigure 5 (some .int) ∈ gd_tbl := ⟨in_gd (i := 275) (by decide +kernel) rfl, in_gd (i := 84) (by decide +kernel) rfl, in_gd (i := 276) (by decide +kernel) rfl⟩
theorem yo_X1_firstNoFigure : yOk yX1_firstNoFigure 4 := ⟨by decide, by decide, by decide +kernel⟩
theorem l_X1_265 : mlS RX1 265 yX1_firstNoFigure cX1_firstNoFigure 5 (some .int) := ⟨in_gd (i := 274) (by decide +kernel) rfl, mt_X1_firstNoFigure⟩
theorem mt_X0_add : (Cond.instanceMethod yX0_add ∈ gd_tbl ∧ Cond.selects yX0_add.cls yX0_add yX0_add ∈ gd_tbl) ∧ Cond.initialized yX0_add.cls ∈ gd_tbl ∧ Cond.code yX0_add cX0_add 4 (none) ∈ gd_tbl := ⟨⟨in_gd (i := 290) (by decide +kernel) rfl, in_gd (i := 7) (by decide +kernel) rfl⟩, in_gd (i := 85) (by decide +kernel) rfl, in_gd (i := 291) (by decide +kernel) rfl⟩
theorem yo_X0_add : yOk yX0_add 3 := ⟨by decide, by decide, by decide +kernel⟩
theorem l_X1_278 : mlW RX1 278 yX0_add cX0_add 4 (none) "DareFord" := ⟨in_ns (i := 288) (by decide +kernel) rfl, mt_X0_add⟩
theorem mt_X1_pastBlanks : Cond.static yX1_pastBlanks ∈ gd_tbl ∧ Cond.initialized yX1_pastBlanks.cls ∈ gd_tbl ∧ Cond.code yX1_pastBlanks cX1_pastBlanks 4 (some .int) ∈ gd_tbl := ⟨in_gd (i := 272) (by decide +kernel) rfl, in_gd (i := 84) (by decide +kernel) rfl, in_gd (i := 273) (by decide +kernel) rfl⟩
theorem yo_X1_pastBlanks : yOk yX1_pastBlanks 3 := ⟨by decide, by decide, by decide +kernel⟩
theorem l_X1_261 : mlS RX1 261 yX1_pastBlanks cX1_pastBlanks 4 (some .int) := ⟨in_gd (i := 271) (by decide +kernel) rfl, mt_X1_pastBlanks⟩
theorem mt_X0_settle : (Cond.instanceMethod yX0_settle ∈ gd_tbl ∧ Cond.selects yX0_settle.cls yX0_settle yX0_settle ∈ gd_tbl) ∧ Cond.initialized yX0_settle.cls ∈ gd_tbl ∧ Cond.code yX0_settle cX0_settle 2 (none) ∈ gd_tbl := ⟨⟨in_gd (i := 279) (by decide +kernel) rfl, in_gd (i := 5) (by decide +kernel) rfl⟩, in_gd (i := 85) (by decide +kernel) rfl, in_gd (i := 280) (by decide +kernel) rfl⟩
theorem yo_X0_settle : yOk yX0_settle 1 := ⟨by decide, by decide, by decide +kernel⟩
theorem l_X1_269 : mlW RX1 269 yX0_settle cX0_settle 2 (none) "DareFord" := ⟨in_ns (i := 277) (by decide +kernel) rfl, mt_X0_settle⟩
theorem mt_X1_readPersonAside : (Cond.instanceMethod yX1_readPersonAside ∈ gd_tbl ∧ Cond.selects yX1_readPersonAside.cls yX1_readPersonAside yX1_readPersonAside ∈ gd_tbl) ∧ Cond.initialized yX1_readPersonAside.cls ∈ gd_tbl ∧ Cond.code yX1_readPersonAside cX1_readPersonAside 7 (some .int) ∈ gd_tbl := ⟨⟨in_gd (i := 283) (by decide +kernel) rfl, in_gd (i := 6) (by decide +kernel) rfl⟩, in_gd (i := 84) (by decide +kernel) rfl, in_gd (i := 284) (by decide +kernel) rfl⟩
theorem yo_X1_readPersonAside : yOk yX1_readPersonAside 3 := ⟨by decide, by decide, by decide +kernel⟩
theorem l_X1_272 : mlV RX1 272 yX1_readPersonAside cX1_readPersonAside 7 (some .int) := ⟨in_gd (i := 281) (by decide +kernel) rfl, mt_X1_readPersonAside⟩
theorem mt_X1_readAside : (Cond.instanceMethod yX1_readAside ∈ gd_tbl ∧ Cond.selects yX1_readAside.cls yX1_readAside yX1_readAside ∈ gd_tbl) ∧ Cond.initialized yX1_readAside.cls ∈ gd_tbl ∧ Cond.code yX1_readAside cX1_readAside 7 (some .int) ∈ gd_tbl := ⟨⟨in_gd (i := 269) (by decide +kernel) rfl, in_gd (i := 4) (by decide +kernel) rfl⟩, in_gd (i := 84) (by decide +kernel) rfl, in_gd (i := 270) (by decide +kernel) rfl⟩
theorem yo_X1_readAside : yOk yX1_readAside 2 := ⟨by decide, by decide, by decide +kernel⟩
theorem l_X1_114 : mlV RX1 114 yX1_readAside cX1_readAside 7 (some .int) := ⟨in_gd (i := 267) (by decide +kernel) rfl, mt_X1_readAside⟩
theorem fl_X1_29 : FLk RX1 29 1 4 := Or.inl (in_gd (i := 146) (by decide +kernel) rfl)
theorem fl_X1_33 : FLk RX1 33 1 5 := Or.inl (in_gd (i := 147) (by decide +kernel) rfl)
theorem fl_X1_49 : FLk RX1 49 1 10 := Or.inl (in_gd (i := 152) (by decide +kernel) rfl)
theorem mt_X0_become : (Cond.instanceMethod yX0_become ∈ gd_tbl ∧ Cond.selects yX0_become.cls yX0_become yX0_become ∈ gd_tbl) ∧ Cond.initialized yX0_become.cls ∈ gd_tbl ∧ Cond.code yX0_become cX0_become 2 (none) ∈ gd_tbl := ⟨⟨in_gd (i := 298) (by decide +kernel) rfl, in_gd (i := 8) (by decide +kernel) rfl⟩, in_gd (i := 85) (by decide +kernel) rfl, in_gd (i := 299) (by decide +kernel) rfl⟩
theorem yo_X0_become : yOk yX0_become 1 := ⟨by decide, by decide, by decide +kernel⟩
theorem l_X1_118 : mlW RX1 118 yX0_become cX0_become 2 (none) "DareFord" := ⟨in_ns (i := 296) (by decide +kernel) rfl, mt_X0_become⟩
theorem fl_X1_42 : FLk RX1 42 1 8 := Or.inl (in_gd (i := 150) (by decide +kernel) rfl)
theorem l_X1_125 : mlW RX1 125 yX0_has cX0_has 2 (some .boolean) "DareFord" := ⟨in_ns (i := 305) (by decide +kernel) rfl, mt_X0_has⟩
theorem mt_X0_told : (Cond.instanceMethod yX0_told ∈ gd_tbl ∧ Cond.selects yX0_told.cls yX0_told yX0_told ∈ gd_tbl) ∧ Cond.initialized yX0_told.cls ∈ gd_tbl ∧ Cond.code yX0_told cX0_told 3 (some .int) ∈ gd_tbl := ⟨⟨in_gd (i := 311) (by decide +kernel) rfl, in_gd (i := 10) (by decide +kernel) rfl⟩, in_gd (i := 85) (by decide +kernel) rfl, in_gd (i := 312) (by decide +kernel) rfl⟩
theorem yo_X0_told : yOk yX0_told 2 := ⟨by decide, by decide, by decide +kernel⟩
theorem l_X1_132 : mlW RX1 132 yX0_told cX0_told 3 (some .int) "DareFord" := ⟨in_ns (i := 309) (by decide +kernel) rfl, mt_X0_told⟩
theorem fl_X1_135 : FLk RX1 135 0 0 := Or.inr ⟨"DareFord", in_ns (i := 109) (by decide +kernel) rfl⟩
theorem mt_X0_markOf : (Cond.instanceMethod yX0_markOf ∈ gd_tbl ∧ Cond.selects yX0_markOf.cls yX0_markOf yX0_markOf ∈ gd_tbl) ∧ Cond.initialized yX0_markOf.cls ∈ gd_tbl ∧ Cond.code yX0_markOf cX0_markOf 3 (some .int) ∈ gd_tbl := ⟨⟨in_gd (i := 345) (by decide +kernel) rfl, in_gd (i := 13) (by decide +kernel) rfl⟩, in_gd (i := 85) (by decide +kernel) rfl, in_gd (i := 346) (by decide +kernel) rfl⟩
theorem yo_X0_markOf : yOk yX0_markOf 2 := ⟨by decide, by decide, by decide +kernel⟩
theorem l_X1_142 : mlW RX1 142 yX0_markOf cX0_markOf 3 (some .int) "DareFord" := ⟨in_ns (i := 343) (by decide +kernel) rfl, mt_X0_markOf⟩
theorem fl_X1_39 : FLk RX1 39 1 7 := Or.inl (in_gd (i := 149) (by decide +kernel) rfl)
theorem mt_X0_undergo : (Cond.instanceMethod yX0_undergo ∈ gd_tbl ∧ Cond.selects yX0_undergo.cls yX0_undergo yX0_undergo ∈ gd_tbl) ∧ Cond.initialized yX0_undergo.cls ∈ gd_tbl ∧ Cond.code yX0_undergo cX0_undergo 5 (none) ∈ gd_tbl := ⟨⟨in_gd (i := 375) (by decide +kernel) rfl, in_gd (i := 18) (by decide +kernel) rfl⟩, in_gd (i := 85) (by decide +kernel) rfl, in_gd (i := 376) (by decide +kernel) rfl⟩
theorem yo_X0_undergo : yOk yX0_undergo 1 := ⟨by decide, by decide, by decide +kernel⟩
theorem l_X1_293 : mlW RX1 293 yX0_undergo cX0_undergo 5 (none) "DareFord" := ⟨in_ns (i := 373) (by decide +kernel) rfl, mt_X0_undergo⟩
theorem l_X1_145 : mlW RX1 145 yX0_holder cX0_holder 6 (some .int) "DareFord" := ⟨in_ns (i := 358) (by decide +kernel) rfl, mt_X0_holder⟩
theorem mt_X1_deedOf : Cond.static yX1_deedOf ∈ gd_tbl ∧ Cond.initialized yX1_deedOf.cls ∈ gd_tbl ∧ Cond.code yX1_deedOf cX1_deedOf 3 (some .int) ∈ gd_tbl := ⟨in_gd (i := 367) (by decide +kernel) rfl, in_gd (i := 84) (by decide +kernel) rfl, in_gd (i := 368) (by decide +kernel) rfl⟩
theorem yo_X1_deedOf : yOk yX1_deedOf 3 := ⟨by decide, by decide, by decide +kernel⟩
theorem l_X1_148 : mlS RX1 148 yX1_deedOf cX1_deedOf 3 (some .int) := ⟨in_gd (i := 366) (by decide +kernel) rfl, mt_X1_deedOf⟩
theorem mt_X1_perform : (Cond.instanceMethod yX1_perform ∈ gd_tbl ∧ Cond.selects yX1_perform.cls yX1_perform yX1_perform ∈ gd_tbl) ∧ Cond.initialized yX1_perform.cls ∈ gd_tbl ∧ Cond.code yX1_perform cX1_perform 2 (none) ∈ gd_tbl := ⟨⟨in_gd (i := 371) (by decide +kernel) rfl, in_gd (i := 17) (by decide +kernel) rfl⟩, in_gd (i := 84) (by decide +kernel) rfl, in_gd (i := 372) (by decide +kernel) rfl⟩
theorem yo_X1_perform : yOk yX1_perform 1 := ⟨by decide, by decide, by decide +kernel⟩
theorem l_X1_152 : mlV RX1 152 yX1_perform cX1_perform 2 (none) := ⟨in_gd (i := 369) (by decide +kernel) rfl, mt_X1_perform⟩
def fX1_put (p1 : Int) (p2 : Int) (p3 : Int) (μ : Mem) : Option (Int × Mem) :=
  (fX1_isText p1 μ).bind fun x1 =>
  if ¬ x1 = 0 then
    grd (0 ≤ p1 ∧ p1 < 4) <|
    if 0 ≤ (μ 14 (p1).toNat) then
      mlet (
        bnd2 (fX1_found 2 μ) fun x3 μ4 =>
        some (x3, μ4)
        : Option (Int × Mem)) fun (K2 : Option (Int × Mem)) =>
      if p2 < 0 then
        K2
      else
        grd (0 ≤ p1 ∧ p1 < 4) <|
        if p2 < (μ 14 (p1).toNat) then
          grd (0 ≤ p1 ∧ p1 < 4) <|
          mlet (10 + (p1).toNat) fun c5 =>
          grd (0 ≤ p2 ∧ p2 < 60) <|
          mlet ((μ c5 (p2).toNat)) fun x6 =>
          grd (0 ≤ p1 ∧ p1 < 4) <|
          mlet (10 + (p1).toNat) fun c7 =>
          grd (0 ≤ p2 ∧ p2 < 60) <|
          mlet (wr μ c7 (p2).toNat (w8 (w8 p3))) fun μ8 =>
          some ((w32 (x6 + 1000)), μ8)
        else
          K2
    else
      bnd2 (fX1_found 1 μ) fun x11 μ12 =>
      some (x11, μ12)
  else
    some ((-1), μ)
theorem K_X1_put  (p1 : Int) (p2 : Int) (p3 : Int)  (μ : Mem) : Con yX1_put cX1_put 5 (some .int) 4 [.inr (.inr 0), .inl p1, .inl p2, .inl p3] μ (fX1_put p1 p2 p3 μ) wI := by
  refine con_of (own := RX1) (by decide) rfl (Nat.le_of_ble_eq_true rfl) ?_
  show Sim cX1_put 5 RX1 (4) (some .int) wI 0 [(0, .inr (.inr 0)), (1, .inl p1), (2, .inl p2), (3, .inl p3)] [] μ (fX1_put p1 p2 p3 μ)
  unfold fX1_put
  refine S_iload_n dX1_put_0 rfl ?_
  refine S_callS_I dX1_put_1 [.inl p1] (K_X1_isText p1 μ) l_X1_108 yo_X1_isText rfl rfl rfl (fun x1 => ?_)
  refine S_if_ne (tgt := 9) dX1_put_4 (by decide) (fun h14 => ?_) (fun h14 => ?_)
  · refine S_aload_n dX1_put_9 rfl ?_
    refine S_getR (c1 := 14) dX1_put_10 rfl fl_X1_23 rfl rfl rfl ?_
    refine S_iload_n dX1_put_13 rfl ?_
    refine S_iald (N := 4) dX1_put_14 rfl (by decide) rfl ?_
    refine S_if_ge (tgt := 24) dX1_put_15 (by decide) (fun h13 => ?_) (fun h13 => ?_)
    · refine S_iload_n dX1_put_24 rfl ?_
      refine S_jn (fun (K2 : Option (Int × Mem)) => Sim cX1_put 5 RX1 (4) (some .int) wI 38 [(0, .inr (.inr 0))] [] μ K2) ?_ (fun K2 hK2 => ?_)
      · skip
        refine S_aload_n dX1_put_38 rfl ?_
        refine S_iconst dX1_put_39 rfl ?_
        refine S_callV_M2 dX1_put_40 [.inl 2] (K_X1_found 2 μ) l_X1_87 yo_X1_found rfl rfl rfl rfl rfl (fun x3 μ4 => ?_)
        exact S_iret dX1_put_43 rfl rfl
      refine S_if_lt (tgt := 38) dX1_put_25 (by decide) (fun h10 => ?_) (fun h10 => ?_)
      · exact S_sub [0] rfl (hK2)
      · refine S_iload_n dX1_put_28 rfl ?_
        refine S_aload_n dX1_put_29 rfl ?_
        refine S_getR (c1 := 14) dX1_put_30 rfl fl_X1_23 rfl rfl rfl ?_
        refine S_iload_n dX1_put_33 rfl ?_
        refine S_iald (N := 4) dX1_put_34 rfl (by decide) rfl ?_
        refine S_ic_lt (tgt := 44) dX1_put_35 (by decide) (fun h9 => ?_) (fun h9 => ?_)
        · refine S_aload_n dX1_put_44 rfl ?_
          refine S_getR (c1 := 9) dX1_put_45 rfl fl_X1_20 rfl rfl rfl ?_
          refine S_iload_n dX1_put_48 rfl ?_
          refine S_aald (N := 4) (c1 := 10) (c2 := 14) dX1_put_49 rfl (by decide) (by decide) rfl rfl rfl (fun c5 hc5 => ?_)
          refine S_iload_n dX1_put_50 rfl ?_
          refine S_bald (N := 60) dX1_put_51 (kd_text hc5) (fam_lt hc5 (by decide)) rfl ?_
          refine S_let (fun x6 => ?_)
          refine S_istore (lv' := [(4, .inl x6), (0, .inr (.inr 0)), (1, .inl p1), (2, .inl p2), (3, .inl p3)]) dX1_put_52 rfl rfl ?_
          refine S_aload_n dX1_put_54 rfl ?_
          refine S_getR (c1 := 9) dX1_put_55 rfl fl_X1_20 rfl rfl rfl ?_
          refine S_iload_n dX1_put_58 rfl ?_
          refine S_aald (N := 4) (c1 := 10) (c2 := 14) dX1_put_59 rfl (by decide) (by decide) rfl rfl rfl (fun c7 hc7 => ?_)
          refine S_iload_n dX1_put_60 rfl ?_
          refine S_iload_n dX1_put_61 rfl ?_
          refine S_i2b dX1_put_62 ?_
          refine S_bast (N := 60) dX1_put_63 (kd_text hc7) (fam_lt hc7 (by decide)) rfl (fun μ8 => ?_)
          refine S_iload dX1_put_64 rfl ?_
          refine S_sipush dX1_put_66 rfl (by decide) ?_
          refine S_iadd dX1_put_69 ?_
          exact S_iret dX1_put_70 rfl rfl
        · exact S_sub [0] rfl (hK2)
    · refine S_aload_n dX1_put_18 rfl ?_
      refine S_iconst dX1_put_19 rfl ?_
      refine S_callV_M2 dX1_put_20 [.inl 1] (K_X1_found 1 μ) l_X1_87 yo_X1_found rfl rfl rfl rfl rfl (fun x11 μ12 => ?_)
      exact S_iret dX1_put_23 rfl rfl
  · refine S_iconst dX1_put_7 rfl ?_
    exact S_iret dX1_put_8 rfl rfl
def fX1_firstNoFigure_L3 (p3 : Int) (p4 : Int) (p2 : Int) (μ : Mem) (p1 : Nat) : Nat → Int → Option Int
  | 0, _ => none
  | n2 + 1, x1 =>
    if (w32 (p3 + p4)) ≤ x1 then
      some (-9)
    else
      if p2 ≤ x1 then
        some x1
      else
        grd (0 ≤ x1 ∧ x1 < 60) <|
        if (μ p1 (x1).toNat) < 48 then
          some x1
        else
          grd (0 ≤ x1 ∧ x1 < 60) <|
          if (μ p1 (x1).toNat) ≤ 57 then
            mlet (w32 (x1 + 1)) fun x3 =>
            fX1_firstNoFigure_L3 p3 p4 p2 μ p1 n2 x3
          else
            some x1
def fX1_firstNoFigure (p1 : Nat) (p2 : Int) (p3 : Int) (p4 : Int) (μ : Mem) : Option Int :=
  fX1_firstNoFigure_L3 p3 p4 p2 μ p1 fuel p3
theorem K_X1_firstNoFigure {p1 : Nat} (hp1 : isTx p1) (p2 : Int) (p3 : Int) (p4 : Int)  (μ : Mem) : Con yX1_firstNoFigure cX1_firstNoFigure 5 (some .int) 2 [.inr (.inr p1), .inl p2, .inl p3, .inl p4] μ (fX1_firstNoFigure p1 p2 p3 p4 μ) (rI μ) := by
  refine con_of (own := RX1) (by decide) rfl (Nat.le_of_ble_eq_true rfl) ?_
  show Sim cX1_firstNoFigure 5 RX1 (2) (some .int) (rI μ) 0 [(0, .inr (.inr p1)), (1, .inl p2), (2, .inl p3), (3, .inl p4)] [] μ (fX1_firstNoFigure p1 p2 p3 p4 μ)
  unfold fX1_firstNoFigure
  refine S_iload_n dX1_firstNoFigure_0 rfl ?_
  refine S_istore (lv' := [(4, .inl p3), (0, .inr (.inr p1)), (1, .inl p2), (2, .inl p3), (3, .inl p4)]) dX1_firstNoFigure_1 rfl rfl ?_
  have hL3 : ∀ (n2 : Nat) (x1 : Int), Sim cX1_firstNoFigure 5 RX1 (2) (some .int) (rI μ) 3 [(0, .inr (.inr p1)), (1, .inl p2), (2, .inl p3), (3, .inl p4), (4, .inl x1)] [] μ (fX1_firstNoFigure_L3 p3 p4 p2 μ p1 n2 x1) := by
    intro n2
    induction n2 with
    | zero =>
      intro x1
      exact S_none rfl
    | succ n2 ih =>
      intro x1
      rw [fX1_firstNoFigure_L3]
      refine S_iload dX1_firstNoFigure_3 rfl ?_
      refine S_iload_n dX1_firstNoFigure_5 rfl ?_
      refine S_iload_n dX1_firstNoFigure_6 rfl ?_
      refine S_iadd dX1_firstNoFigure_7 ?_
      refine S_ic_ge (tgt := 44) dX1_firstNoFigure_8 (by decide) (fun h7 => ?_) (fun h7 => ?_)
      · refine S_bipush dX1_firstNoFigure_44 rfl (by decide) ?_
        exact S_iret dX1_firstNoFigure_46 rfl rfl
      · refine S_iload dX1_firstNoFigure_11 rfl ?_
        refine S_iload_n dX1_firstNoFigure_13 rfl ?_
        refine S_ic_ge (tgt := 35) dX1_firstNoFigure_14 (by decide) (fun h6 => ?_) (fun h6 => ?_)
        · refine S_iload dX1_firstNoFigure_35 rfl ?_
          exact S_iret dX1_firstNoFigure_37 rfl rfl
        · refine S_aload_n dX1_firstNoFigure_17 rfl ?_
          refine S_iload dX1_firstNoFigure_18 rfl ?_
          refine S_bald (N := 60) dX1_firstNoFigure_20 (kd_text hp1) (tx_lt hp1) rfl ?_
          refine S_bipush dX1_firstNoFigure_21 rfl (by decide) ?_
          refine S_ic_lt (tgt := 35) dX1_firstNoFigure_23 (by decide) (fun h5 => ?_) (fun h5 => ?_)
          · refine S_iload dX1_firstNoFigure_35 rfl ?_
            exact S_iret dX1_firstNoFigure_37 rfl rfl
          · refine S_aload_n dX1_firstNoFigure_26 rfl ?_
            refine S_iload dX1_firstNoFigure_27 rfl ?_
            refine S_bald (N := 60) dX1_firstNoFigure_29 (kd_text hp1) (tx_lt hp1) rfl ?_
            refine S_bipush dX1_firstNoFigure_30 rfl (by decide) ?_
            refine S_ic_le (tgt := 38) dX1_firstNoFigure_32 (by decide) (fun h4 => ?_) (fun h4 => ?_)
            · refine S_iinc (lv' := fun x3 => [(4, .inl x3), (0, .inr (.inr p1)), (1, .inl p2), (2, .inl p3), (3, .inl p4)]) dX1_firstNoFigure_38 rfl rfl rfl (fun _ => rfl) (fun x3 => ?_)
              refine S_goto (tgt := 3) dX1_firstNoFigure_41 (by decide) ?_
              exact S_sub [1, 2, 3, 4, 0] rfl (ih x3)
            · refine S_iload dX1_firstNoFigure_35 rfl ?_
              exact S_iret dX1_firstNoFigure_37 rfl rfl
  exact S_sub [1, 2, 3, 4, 0] rfl (hL3 fuel p3)
def fX1_pastBlanks_L2 (p2 : Int) (μ : Mem) (p1 : Nat) : Nat → Int → Option Int
  | 0, _ => none
  | n2 + 1, x1 =>
    if p2 ≤ x1 then
      some x1
    else
      grd (0 ≤ x1 ∧ x1 < 60) <|
      if ¬ (μ p1 (x1).toNat) = 32 then
        some x1
      else
        mlet (w32 (x1 + 1)) fun x3 =>
        fX1_pastBlanks_L2 p2 μ p1 n2 x3
def fX1_pastBlanks (p1 : Nat) (p2 : Int) (p3 : Int) (μ : Mem) : Option Int :=
  fX1_pastBlanks_L2 p2 μ p1 fuel p3
theorem K_X1_pastBlanks {p1 : Nat} (hp1 : isTx p1) (p2 : Int) (p3 : Int)  (μ : Mem) : Con yX1_pastBlanks cX1_pastBlanks 4 (some .int) 2 [.inr (.inr p1), .inl p2, .inl p3] μ (fX1_pastBlanks p1 p2 p3 μ) (rI μ) := by
  refine con_of (own := RX1) (by decide) rfl (Nat.le_of_ble_eq_true rfl) ?_
  show Sim cX1_pastBlanks 4 RX1 (2) (some .int) (rI μ) 0 [(0, .inr (.inr p1)), (1, .inl p2), (2, .inl p3)] [] μ (fX1_pastBlanks p1 p2 p3 μ)
  unfold fX1_pastBlanks
  refine S_iload_n dX1_pastBlanks_0 rfl ?_
  refine S_istore_n (lv' := [(3, .inl p3), (0, .inr (.inr p1)), (1, .inl p2), (2, .inl p3)]) dX1_pastBlanks_1 rfl rfl ?_
  have hL2 : ∀ (n2 : Nat) (x1 : Int), Sim cX1_pastBlanks 4 RX1 (2) (some .int) (rI μ) 2 [(0, .inr (.inr p1)), (1, .inl p2), (3, .inl x1)] [] μ (fX1_pastBlanks_L2 p2 μ p1 n2 x1) := by
    intro n2
    induction n2 with
    | zero =>
      intro x1
      exact S_none rfl
    | succ n2 ih =>
      intro x1
      rw [fX1_pastBlanks_L2]
      refine S_iload_n dX1_pastBlanks_2 rfl ?_
      refine S_iload_n dX1_pastBlanks_3 rfl ?_
      refine S_ic_ge (tgt := 21) dX1_pastBlanks_4 (by decide) (fun h5 => ?_) (fun h5 => ?_)
      · refine S_iload_n dX1_pastBlanks_21 rfl ?_
        exact S_iret dX1_pastBlanks_22 rfl rfl
      · refine S_aload_n dX1_pastBlanks_7 rfl ?_
        refine S_iload_n dX1_pastBlanks_8 rfl ?_
        refine S_bald (N := 60) dX1_pastBlanks_9 (kd_text hp1) (tx_lt hp1) rfl ?_
        refine S_bipush dX1_pastBlanks_10 rfl (by decide) ?_
        refine S_ic_ne (tgt := 21) dX1_pastBlanks_12 (by decide) (fun h4 => ?_) (fun h4 => ?_)
        · refine S_iload_n dX1_pastBlanks_21 rfl ?_
          exact S_iret dX1_pastBlanks_22 rfl rfl
        · refine S_iinc (lv' := fun x3 => [(3, .inl x3), (0, .inr (.inr p1)), (1, .inl p2)]) dX1_pastBlanks_15 rfl rfl rfl (fun _ => rfl) (fun x3 => ?_)
          refine S_goto (tgt := 2) dX1_pastBlanks_18 (by decide) ?_
          exact S_sub [1, 2, 0] rfl (ih x3)
  exact S_sub [1, 2, 0] rfl (hL2 fuel p3)
def fX1_kindOf (p1 : Int) (μ : Mem) : Option Int :=
  if p1 = 98 then
    some 3
  else
    if p1 = 100 then
      some 1
    else
      if p1 = 101 then
        some 2
      else
        if p1 = 112 then
          some 0
        else
          if p1 = 113 then
            some 5
          else
            if p1 = 116 then
              some 4
            else
              some (-9)
theorem K_X1_kindOf  (p1 : Int)  (μ : Mem) : Con yX1_kindOf cX1_kindOf 1 (some .int) 2 [.inl p1] μ (fX1_kindOf p1 μ) (rI μ) := by
  refine con_of (own := RX1) (by decide) rfl (Nat.le_of_ble_eq_true rfl) ?_
  show Sim cX1_kindOf 1 RX1 (2) (some .int) (rI μ) 0 [(0, .inl p1)] [] μ (fX1_kindOf p1 μ)
  unfold fX1_kindOf
  refine S_iload_n dX1_kindOf_0 rfl ?_
  refine S_if (fun h1 => ?_) (fun h1 => ?_)
  · refine S_tsIn (n := 98) (tgt := 98) dX1_kindOf_1 h1 (by decide) (by decide) rfl (by decide) ?_
    refine S_iconst dX1_kindOf_98 rfl ?_
    exact S_iret dX1_kindOf_99 rfl rfl
  · refine S_if (fun h2 => ?_) (fun h2 => ?_)
    · refine S_tsIn (n := 100) (tgt := 94) dX1_kindOf_1 h2 (by decide) (by decide) rfl (by decide) ?_
      refine S_iconst dX1_kindOf_94 rfl ?_
      exact S_iret dX1_kindOf_95 rfl rfl
    · refine S_if (fun h3 => ?_) (fun h3 => ?_)
      · refine S_tsIn (n := 101) (tgt := 96) dX1_kindOf_1 h3 (by decide) (by decide) rfl (by decide) ?_
        refine S_iconst dX1_kindOf_96 rfl ?_
        exact S_iret dX1_kindOf_97 rfl rfl
      · refine S_if (fun h4 => ?_) (fun h4 => ?_)
        · refine S_tsIn (n := 112) (tgt := 92) dX1_kindOf_1 h4 (by decide) (by decide) rfl (by decide) ?_
          refine S_iconst dX1_kindOf_92 rfl ?_
          exact S_iret dX1_kindOf_93 rfl rfl
        · refine S_if (fun h5 => ?_) (fun h5 => ?_)
          · refine S_tsIn (n := 113) (tgt := 102) dX1_kindOf_1 h5 (by decide) (by decide) rfl (by decide) ?_
            refine S_iconst dX1_kindOf_102 rfl ?_
            exact S_iret dX1_kindOf_103 rfl rfl
          · refine S_if (fun h6 => ?_) (fun h6 => ?_)
            · refine S_tsIn (n := 116) (tgt := 100) dX1_kindOf_1 h6 (by decide) (by decide) rfl (by decide) ?_
              refine S_iconst dX1_kindOf_100 rfl ?_
              exact S_iret dX1_kindOf_101 rfl rfl
            · refine S_tsD (tgt := 104) [98, 100, 101, 112, 113, 116] dX1_kindOf_1 (by decide) (by decide) (by intro v9 h9 e9; simp only [List.mem_cons, List.not_mem_nil, or_false] at h9; omega) ?_
              refine S_bipush dX1_kindOf_104 rfl (by decide) ?_
              exact S_iret dX1_kindOf_106 rfl rfl
def fX1_readPersonAside (p1 : Nat) (p2 : Int) (p3 : Int) (μ : Mem) : Option (Int × Mem) :=
  grd (0 ≤ p3 ∧ p3 < 60) <|
  (fX1_kindOf (μ p1 (p3).toNat) μ).bind fun x1 =>
  if x1 = (-9) then
    some (p3, μ)
  else
    if (μ 25 4) < 6 then
      (fX1_firstNoFigure p1 p2 (w32 (p3 + 1)) 3 μ).bind fun x2 =>
      if x2 = (-9) then
        grd (0 ≤ (w32 (p3 + 2)) ∧ (w32 (p3 + 2)) < 60) <|
        grd (0 ≤ (w32 (p3 + 3)) ∧ (w32 (p3 + 3)) < 60) <|
        mlet ((w32 ((w32 ((w32 (10 * (w32 ((μ p1 ((w32 (p3 + 2))).toNat) - 48)))) + (μ p1 ((w32 (p3 + 3))).toNat))) - 48))) fun x3 =>
        if x3 ≤ 20 then
          grd (0 ≤ (w32 (p3 + 1)) ∧ (w32 (p3 + 1)) < 60) <|
          (fX0_add 25 x1 (w32 ((μ p1 ((w32 (p3 + 1))).toNat) - 48)) x3 μ).bind fun μ4 =>
          some ((-9), μ4)
        else
          some ((w32 (p3 + 2)), μ)
      else
        some (x2, μ)
    else
      some (p3, μ)
theorem K_X1_readPersonAside {p1 : Nat} (hp1 : isTx p1) (p2 : Int) (p3 : Int)  (μ : Mem) : Con yX1_readPersonAside cX1_readPersonAside 7 (some .int) 3 [.inr (.inr 0), .inr (.inr p1), .inl p2, .inl p3] μ (fX1_readPersonAside p1 p2 p3 μ) wI := by
  refine con_of (own := RX1) (by decide) rfl (Nat.le_of_ble_eq_true rfl) ?_
  show Sim cX1_readPersonAside 7 RX1 (3) (some .int) wI 0 [(0, .inr (.inr 0)), (1, .inr (.inr p1)), (2, .inl p2), (3, .inl p3)] [] μ (fX1_readPersonAside p1 p2 p3 μ)
  unfold fX1_readPersonAside
  refine S_aload_n dX1_readPersonAside_0 rfl ?_
  refine S_iload_n dX1_readPersonAside_1 rfl ?_
  refine S_bald (N := 60) dX1_readPersonAside_2 (kd_text hp1) (tx_lt hp1) rfl ?_
  refine S_callS_I dX1_readPersonAside_3 [.inl (μ p1 (p3).toNat)] (K_X1_kindOf (μ p1 (p3).toNat) μ) l_X1_275 yo_X1_kindOf rfl rfl rfl (fun x1 => ?_)
  refine S_istore (lv' := [(4, .inl x1), (0, .inr (.inr 0)), (1, .inr (.inr p1)), (2, .inl p2), (3, .inl p3)]) dX1_readPersonAside_6 rfl rfl ?_
  refine S_iload dX1_readPersonAside_8 rfl ?_
  refine S_bipush dX1_readPersonAside_10 rfl (by decide) ?_
  refine S_ic_eq (tgt := 27) dX1_readPersonAside_12 (by decide) (fun h8 => ?_) (fun h8 => ?_)
  · refine S_iload_n dX1_readPersonAside_27 rfl ?_
    exact S_iret dX1_readPersonAside_28 rfl rfl
  · refine S_aload_n dX1_readPersonAside_15 rfl ?_
    refine S_getR (c1 := 25) dX1_readPersonAside_16 rfl fl_X1_36 rfl rfl rfl ?_
    refine S_getI dX1_readPersonAside_19 rfl fl_X1_122 rfl rfl ?_
    refine S_bipush dX1_readPersonAside_22 rfl (by decide) ?_
    refine S_ic_lt (tgt := 29) dX1_readPersonAside_24 (by decide) (fun h7 => ?_) (fun h7 => ?_)
    · refine S_aload_n dX1_readPersonAside_29 rfl ?_
      refine S_iload_n dX1_readPersonAside_30 rfl ?_
      refine S_iload_n dX1_readPersonAside_31 rfl ?_
      refine S_iconst dX1_readPersonAside_32 rfl ?_
      refine S_iadd dX1_readPersonAside_33 ?_
      refine S_iconst dX1_readPersonAside_34 rfl ?_
      refine S_callS_I dX1_readPersonAside_35 [.inr (.inr p1), .inl p2, .inl (w32 (p3 + 1)), .inl 3] (K_X1_firstNoFigure hp1 p2 (w32 (p3 + 1)) 3 μ) l_X1_265 yo_X1_firstNoFigure rfl rfl rfl (fun x2 => ?_)
      refine S_istore (lv' := [(5, .inl x2), (4, .inl x1), (0, .inr (.inr 0)), (1, .inr (.inr p1)), (2, .inl p2), (3, .inl p3)]) dX1_readPersonAside_38 rfl rfl ?_
      refine S_iload dX1_readPersonAside_40 rfl ?_
      refine S_bipush dX1_readPersonAside_42 rfl (by decide) ?_
      refine S_ic_eq (tgt := 50) dX1_readPersonAside_44 (by decide) (fun h6 => ?_) (fun h6 => ?_)
      · refine S_bipush dX1_readPersonAside_50 rfl (by decide) ?_
        refine S_aload_n dX1_readPersonAside_52 rfl ?_
        refine S_iload_n dX1_readPersonAside_53 rfl ?_
        refine S_iconst dX1_readPersonAside_54 rfl ?_
        refine S_iadd dX1_readPersonAside_55 ?_
        refine S_bald (N := 60) dX1_readPersonAside_56 (kd_text hp1) (tx_lt hp1) rfl ?_
        refine S_bipush dX1_readPersonAside_57 rfl (by decide) ?_
        refine S_isub dX1_readPersonAside_59 ?_
        refine S_imul dX1_readPersonAside_60 ?_
        refine S_aload_n dX1_readPersonAside_61 rfl ?_
        refine S_iload_n dX1_readPersonAside_62 rfl ?_
        refine S_iconst dX1_readPersonAside_63 rfl ?_
        refine S_iadd dX1_readPersonAside_64 ?_
        refine S_bald (N := 60) dX1_readPersonAside_65 (kd_text hp1) (tx_lt hp1) rfl ?_
        refine S_iadd dX1_readPersonAside_66 ?_
        refine S_bipush dX1_readPersonAside_67 rfl (by decide) ?_
        refine S_isub dX1_readPersonAside_69 ?_
        refine S_let (fun x3 => ?_)
        refine S_istore (lv' := [(6, .inl x3), (5, .inl x2), (4, .inl x1), (0, .inr (.inr 0)), (1, .inr (.inr p1)), (2, .inl p2), (3, .inl p3)]) dX1_readPersonAside_70 rfl rfl ?_
        refine S_iload dX1_readPersonAside_72 rfl ?_
        refine S_bipush dX1_readPersonAside_74 rfl (by decide) ?_
        refine S_ic_le (tgt := 83) dX1_readPersonAside_76 (by decide) (fun h5 => ?_) (fun h5 => ?_)
        · refine S_aload_n dX1_readPersonAside_83 rfl ?_
          refine S_getR (c1 := 25) dX1_readPersonAside_84 rfl fl_X1_36 rfl rfl rfl ?_
          refine S_iload dX1_readPersonAside_87 rfl ?_
          refine S_aload_n dX1_readPersonAside_89 rfl ?_
          refine S_iload_n dX1_readPersonAside_90 rfl ?_
          refine S_iconst dX1_readPersonAside_91 rfl ?_
          refine S_iadd dX1_readPersonAside_92 ?_
          refine S_bald (N := 60) dX1_readPersonAside_93 (kd_text hp1) (tx_lt hp1) rfl ?_
          refine S_bipush dX1_readPersonAside_94 rfl (by decide) ?_
          refine S_isub dX1_readPersonAside_96 ?_
          refine S_iload dX1_readPersonAside_97 rfl ?_
          refine S_callW_V dX1_readPersonAside_99 [.inl x1, .inl (w32 ((μ p1 ((w32 (p3 + 1))).toNat) - 48)), .inl x3] (K_X0_add (by unfold isBk; decide) x1 (w32 ((μ p1 ((w32 (p3 + 1))).toNat) - 48)) x3 μ) l_X1_278 yo_X0_add rfl rfl rfl rfl rfl (fun μ4 => ?_)
          refine S_bipush dX1_readPersonAside_102 rfl (by decide) ?_
          exact S_iret dX1_readPersonAside_104 rfl rfl
        · refine S_iload_n dX1_readPersonAside_79 rfl ?_
          refine S_iconst dX1_readPersonAside_80 rfl ?_
          refine S_iadd dX1_readPersonAside_81 ?_
          exact S_iret dX1_readPersonAside_82 rfl rfl
      · refine S_iload dX1_readPersonAside_47 rfl ?_
        exact S_iret dX1_readPersonAside_49 rfl rfl
    · refine S_iload_n dX1_readPersonAside_27 rfl ?_
      exact S_iret dX1_readPersonAside_28 rfl rfl
def fX1_readAside_L71 (K6 : Mem → Option (Int × Mem)) (p2 : Int) (p1 : Nat) : Nat → Int → Int → Mem → Option (Int × Mem)
  | 0, _, _, _ => none
  | n11 + 1, x8, x9, μ10 =>
    if 6 < x9 then
      K6 μ10
    else
      if p2 ≤ x8 then
        K6 μ10
      else
        bnd2 (fX1_readPersonAside p1 p2 x8 μ10) fun x12 μ13 =>
        if x12 = (-9) then
          (fX1_pastBlanks p1 p2 (w32 (x8 + 4)) μ13).bind fun x14 =>
          mlet (w32 (x9 + 1)) fun x15 =>
          fX1_readAside_L71 K6 p2 p1 n11 x14 x15 μ13
        else
          some (x12, μ13)
def fX1_readAside (p1 : Nat) (p2 : Int) (μ : Mem) : Option (Int × Mem) :=
  (fX1_pastBlanks p1 p2 0 μ).bind fun x1 =>
  if p2 ≤ x1 then
    some (x1, μ)
  else
    grd (0 ≤ x1 ∧ x1 < 60) <|
    if (μ p1 (x1).toNat) = 102 then
      (fX1_firstNoFigure p1 p2 (w32 (x1 + 1)) 1 μ).bind fun x2 =>
      if x2 = (-9) then
        grd (0 ≤ (w32 (x1 + 1)) ∧ (w32 (x1 + 1)) < 60) <|
        (fX0_settle 25 (w32 ((μ p1 ((w32 (x1 + 1))).toNat) - 48)) μ).bind fun μ3 =>
        (fX1_pastBlanks p1 p2 (w32 (x1 + 2)) μ3).bind fun x4 =>
        mlet (fun (μ5 : Mem) =>
          if ¬ (μ5 25 4) = 0 then
            some ((-9), μ5)
          else
            some (p2, μ5)
          ) fun (K6 : Mem → Option (Int × Mem)) =>
        fX1_readAside_L71 K6 p2 p1 fuel x4 0 μ3
      else
        some (x2, μ)
    else
      some (x1, μ)
theorem K_X1_readAside {p1 : Nat} (hp1 : isTx p1) (p2 : Int)  (μ : Mem) : Con yX1_readAside cX1_readAside 7 (some .int) 4 [.inr (.inr 0), .inr (.inr p1), .inl p2] μ (fX1_readAside p1 p2 μ) wI := by
  refine con_of (own := RX1) (by decide) rfl (Nat.le_of_ble_eq_true rfl) ?_
  show Sim cX1_readAside 7 RX1 (4) (some .int) wI 0 [(0, .inr (.inr 0)), (1, .inr (.inr p1)), (2, .inl p2)] [] μ (fX1_readAside p1 p2 μ)
  unfold fX1_readAside
  refine S_aload_n dX1_readAside_0 rfl ?_
  refine S_iload_n dX1_readAside_1 rfl ?_
  refine S_iconst dX1_readAside_2 rfl ?_
  refine S_callS_I dX1_readAside_3 [.inr (.inr p1), .inl p2, .inl 0] (K_X1_pastBlanks hp1 p2 0 μ) l_X1_261 yo_X1_pastBlanks rfl rfl rfl (fun x1 => ?_)
  refine S_istore_n (lv' := [(3, .inl x1), (0, .inr (.inr 0)), (1, .inr (.inr p1)), (2, .inl p2)]) dX1_readAside_6 rfl rfl ?_
  refine S_iload_n dX1_readAside_7 rfl ?_
  refine S_iload_n dX1_readAside_8 rfl ?_
  refine S_ic_ge (tgt := 20) dX1_readAside_9 (by decide) (fun h21 => ?_) (fun h21 => ?_)
  · refine S_iload_n dX1_readAside_20 rfl ?_
    exact S_iret dX1_readAside_21 rfl rfl
  · refine S_aload_n dX1_readAside_12 rfl ?_
    refine S_iload_n dX1_readAside_13 rfl ?_
    refine S_bald (N := 60) dX1_readAside_14 (kd_text hp1) (tx_lt hp1) rfl ?_
    refine S_bipush dX1_readAside_15 rfl (by decide) ?_
    refine S_ic_eq (tgt := 22) dX1_readAside_17 (by decide) (fun h20 => ?_) (fun h20 => ?_)
    · refine S_aload_n dX1_readAside_22 rfl ?_
      refine S_iload_n dX1_readAside_23 rfl ?_
      refine S_iload_n dX1_readAside_24 rfl ?_
      refine S_iconst dX1_readAside_25 rfl ?_
      refine S_iadd dX1_readAside_26 ?_
      refine S_iconst dX1_readAside_27 rfl ?_
      refine S_callS_I dX1_readAside_28 [.inr (.inr p1), .inl p2, .inl (w32 (x1 + 1)), .inl 1] (K_X1_firstNoFigure hp1 p2 (w32 (x1 + 1)) 1 μ) l_X1_265 yo_X1_firstNoFigure rfl rfl rfl (fun x2 => ?_)
      refine S_istore (lv' := [(4, .inl x2), (3, .inl x1), (0, .inr (.inr 0)), (1, .inr (.inr p1)), (2, .inl p2)]) dX1_readAside_31 rfl rfl ?_
      refine S_iload dX1_readAside_33 rfl ?_
      refine S_bipush dX1_readAside_35 rfl (by decide) ?_
      refine S_ic_eq (tgt := 43) dX1_readAside_37 (by decide) (fun h19 => ?_) (fun h19 => ?_)
      · refine S_aload_n dX1_readAside_43 rfl ?_
        refine S_getR (c1 := 25) dX1_readAside_44 rfl fl_X1_36 rfl rfl rfl ?_
        refine S_aload_n dX1_readAside_47 rfl ?_
        refine S_iload_n dX1_readAside_48 rfl ?_
        refine S_iconst dX1_readAside_49 rfl ?_
        refine S_iadd dX1_readAside_50 ?_
        refine S_bald (N := 60) dX1_readAside_51 (kd_text hp1) (tx_lt hp1) rfl ?_
        refine S_bipush dX1_readAside_52 rfl (by decide) ?_
        refine S_isub dX1_readAside_54 ?_
        refine S_callW_V dX1_readAside_55 [.inl (w32 ((μ p1 ((w32 (x1 + 1))).toNat) - 48))] (K_X0_settle (by unfold isBk; decide) (w32 ((μ p1 ((w32 (x1 + 1))).toNat) - 48)) μ) l_X1_269 yo_X0_settle rfl rfl rfl rfl rfl (fun μ3 => ?_)
        refine S_aload_n dX1_readAside_58 rfl ?_
        refine S_iload_n dX1_readAside_59 rfl ?_
        refine S_iload_n dX1_readAside_60 rfl ?_
        refine S_iconst dX1_readAside_61 rfl ?_
        refine S_iadd dX1_readAside_62 ?_
        refine S_callS_I dX1_readAside_63 [.inr (.inr p1), .inl p2, .inl (w32 (x1 + 2))] (K_X1_pastBlanks hp1 p2 (w32 (x1 + 2)) μ3) l_X1_261 yo_X1_pastBlanks rfl rfl rfl (fun x4 => ?_)
        refine S_istore (lv' := [(5, .inl x4), (4, .inl x2), (3, .inl x1), (0, .inr (.inr 0)), (1, .inr (.inr p1)), (2, .inl p2)]) dX1_readAside_66 rfl rfl ?_
        refine S_iconst dX1_readAside_68 rfl ?_
        refine S_istore (lv' := [(6, .inl 0), (5, .inl x4), (4, .inl x2), (3, .inl x1), (0, .inr (.inr 0)), (1, .inr (.inr p1)), (2, .inl p2)]) dX1_readAside_69 rfl rfl ?_
        refine S_jn (fun (K6 : Mem → Option (Int × Mem)) => ∀ (μ5 : Mem), Sim cX1_readAside 7 RX1 (4) (some .int) wI 121 [(0, .inr (.inr 0)), (2, .inl p2)] [] μ5 (K6 μ5)) ?_ (fun K6 hK6 => ?_)
        · intro μ5
          refine S_aload_n dX1_readAside_121 rfl ?_
          refine S_getR (c1 := 25) dX1_readAside_122 rfl fl_X1_36 rfl rfl rfl ?_
          refine S_getI dX1_readAside_125 rfl fl_X1_122 rfl rfl ?_
          refine S_if_ne (tgt := 135) dX1_readAside_128 (by decide) (fun h7 => ?_) (fun h7 => ?_)
          · refine S_bipush dX1_readAside_135 rfl (by decide) ?_
            exact S_iret dX1_readAside_137 rfl rfl
          · refine S_iload_n dX1_readAside_131 rfl ?_
            refine S_goto (tgt := 137) dX1_readAside_132 (by decide) ?_
            exact S_iret dX1_readAside_137 rfl rfl
        have hL71 : ∀ (n11 : Nat) (x8 : Int) (x9 : Int) (μ10 : Mem), Sim cX1_readAside 7 RX1 (4) (some .int) wI 71 [(0, .inr (.inr 0)), (1, .inr (.inr p1)), (2, .inl p2), (5, .inl x8), (6, .inl x9)] [] μ10 (fX1_readAside_L71 K6 p2 p1 n11 x8 x9 μ10) := by
          intro n11
          induction n11 with
          | zero =>
            intro x8 x9 μ10
            exact S_none rfl
          | succ n11 ih =>
            intro x8 x9 μ10
            rw [fX1_readAside_L71]
            refine S_iload dX1_readAside_71 rfl ?_
            refine S_bipush dX1_readAside_73 rfl (by decide) ?_
            refine S_ic_gt (tgt := 121) dX1_readAside_75 (by decide) (fun h18 => ?_) (fun h18 => ?_)
            · exact S_sub [0, 2] rfl (hK6 μ10)
            · refine S_iload dX1_readAside_78 rfl ?_
              refine S_iload_n dX1_readAside_80 rfl ?_
              refine S_ic_ge (tgt := 121) dX1_readAside_81 (by decide) (fun h17 => ?_) (fun h17 => ?_)
              · exact S_sub [0, 2] rfl (hK6 μ10)
              · refine S_aload_n dX1_readAside_84 rfl ?_
                refine S_aload_n dX1_readAside_85 rfl ?_
                refine S_iload_n dX1_readAside_86 rfl ?_
                refine S_iload dX1_readAside_87 rfl ?_
                refine S_callV_M2 dX1_readAside_89 [.inr (.inr p1), .inl p2, .inl x8] (K_X1_readPersonAside hp1 p2 x8 μ10) l_X1_272 yo_X1_readPersonAside rfl rfl rfl rfl rfl (fun x12 μ13 => ?_)
                refine S_istore (lv' := [(4, .inl x12), (0, .inr (.inr 0)), (1, .inr (.inr p1)), (2, .inl p2), (5, .inl x8), (6, .inl x9)]) dX1_readAside_92 rfl rfl ?_
                refine S_iload dX1_readAside_94 rfl ?_
                refine S_bipush dX1_readAside_96 rfl (by decide) ?_
                refine S_ic_eq (tgt := 104) dX1_readAside_98 (by decide) (fun h16 => ?_) (fun h16 => ?_)
                · refine S_aload_n dX1_readAside_104 rfl ?_
                  refine S_iload_n dX1_readAside_105 rfl ?_
                  refine S_iload dX1_readAside_106 rfl ?_
                  refine S_iconst dX1_readAside_108 rfl ?_
                  refine S_iadd dX1_readAside_109 ?_
                  refine S_callS_I dX1_readAside_110 [.inr (.inr p1), .inl p2, .inl (w32 (x8 + 4))] (K_X1_pastBlanks hp1 p2 (w32 (x8 + 4)) μ13) l_X1_261 yo_X1_pastBlanks rfl rfl rfl (fun x14 => ?_)
                  refine S_istore (lv' := [(5, .inl x14), (4, .inl x12), (0, .inr (.inr 0)), (1, .inr (.inr p1)), (2, .inl p2), (6, .inl x9)]) dX1_readAside_113 rfl rfl ?_
                  refine S_iinc (lv' := fun x15 => [(6, .inl x15), (5, .inl x14), (4, .inl x12), (0, .inr (.inr 0)), (1, .inr (.inr p1)), (2, .inl p2)]) dX1_readAside_115 rfl rfl rfl (fun _ => rfl) (fun x15 => ?_)
                  refine S_goto (tgt := 71) dX1_readAside_118 (by decide) ?_
                  exact S_sub [3, 4, 5, 1, 0] rfl (ih x14 x15 μ13)
                · refine S_iload dX1_readAside_101 rfl ?_
                  exact S_iret dX1_readAside_103 rfl rfl
        exact S_sub [4, 5, 6, 1, 0] rfl (hL71 fuel x4 0 μ3)
      · refine S_iload dX1_readAside_40 rfl ?_
        exact S_iret dX1_readAside_42 rfl rfl
    · refine S_iload_n dX1_readAside_20 rfl ?_
      exact S_iret dX1_readAside_21 rfl rfl
def fX1_fault (p1 : Int) (μ : Mem) : Option (Int × Mem) :=
  (fX1_isText p1 μ).bind fun x1 =>
  if ¬ x1 = 0 then
    grd (0 ≤ p1 ∧ p1 < 4) <|
    if 0 ≤ (μ 14 (p1).toNat) then
      grd (0 ≤ p1 ∧ p1 < 4) <|
      mlet (10 + (p1).toNat) fun c2 =>
      grd (0 ≤ p1 ∧ p1 < 4) <|
      bnd2 (fX1_readAside c2 (μ 14 (p1).toNat) μ) fun x3 μ4 =>
      some (x3, μ4)
    else
      bnd2 (fX1_found 1 μ) fun x5 μ6 =>
      some (x5, μ6)
  else
    some ((-1), μ)
theorem K_X1_fault  (p1 : Int)  (μ : Mem) : Con yX1_fault cX1_fault 2 (some .int) 5 [.inr (.inr 0), .inl p1] μ (fX1_fault p1 μ) wI := by
  refine con_of (own := RX1) (by decide) rfl (Nat.le_of_ble_eq_true rfl) ?_
  show Sim cX1_fault 2 RX1 (5) (some .int) wI 0 [(0, .inr (.inr 0)), (1, .inl p1)] [] μ (fX1_fault p1 μ)
  unfold fX1_fault
  refine S_iload_n dX1_fault_0 rfl ?_
  refine S_callS_I dX1_fault_1 [.inl p1] (K_X1_isText p1 μ) l_X1_108 yo_X1_isText rfl rfl rfl (fun x1 => ?_)
  refine S_if_ne (tgt := 9) dX1_fault_4 (by decide) (fun h8 => ?_) (fun h8 => ?_)
  · refine S_aload_n dX1_fault_9 rfl ?_
    refine S_getR (c1 := 14) dX1_fault_10 rfl fl_X1_23 rfl rfl rfl ?_
    refine S_iload_n dX1_fault_13 rfl ?_
    refine S_iald (N := 4) dX1_fault_14 rfl (by decide) rfl ?_
    refine S_if_ge (tgt := 24) dX1_fault_15 (by decide) (fun h7 => ?_) (fun h7 => ?_)
    · refine S_aload_n dX1_fault_24 rfl ?_
      refine S_aload_n dX1_fault_25 rfl ?_
      refine S_getR (c1 := 9) dX1_fault_26 rfl fl_X1_20 rfl rfl rfl ?_
      refine S_iload_n dX1_fault_29 rfl ?_
      refine S_aald (N := 4) (c1 := 10) (c2 := 14) dX1_fault_30 rfl (by decide) (by decide) rfl rfl rfl (fun c2 hc2 => ?_)
      refine S_aload_n dX1_fault_31 rfl ?_
      refine S_getR (c1 := 14) dX1_fault_32 rfl fl_X1_23 rfl rfl rfl ?_
      refine S_iload_n dX1_fault_35 rfl ?_
      refine S_iald (N := 4) dX1_fault_36 rfl (by decide) rfl ?_
      refine S_callV_M2 dX1_fault_37 [.inr (.inr c2), .inl (μ 14 (p1).toNat)] (K_X1_readAside hc2 (μ 14 (p1).toNat) μ) l_X1_114 yo_X1_readAside rfl rfl rfl rfl rfl (fun x3 μ4 => ?_)
      exact S_iret dX1_fault_40 rfl rfl
    · refine S_aload_n dX1_fault_18 rfl ?_
      refine S_iconst dX1_fault_19 rfl ?_
      refine S_callV_M2 dX1_fault_20 [.inl 1] (K_X1_found 1 μ) l_X1_87 yo_X1_found rfl rfl rfl rfl rfl (fun x5 μ6 => ?_)
      exact S_iret dX1_fault_23 rfl rfl
  · refine S_iconst dX1_fault_7 rfl ?_
    exact S_iret dX1_fault_8 rfl rfl
def fX1_river (p1 : Int) (μ : Mem) : Option (Int × Mem) :=
  (fX1_isText p1 μ).bind fun x1 =>
  if ¬ x1 = 0 then
    grd (0 ≤ p1 ∧ p1 < 4) <|
    if 0 ≤ (μ 14 (p1).toNat) then
      grd (0 ≤ p1 ∧ p1 < 4) <|
      mlet (10 + (p1).toNat) fun c2 =>
      grd (0 ≤ p1 ∧ p1 < 4) <|
      bnd2 (fX1_readAside c2 (μ 14 (p1).toNat) μ) fun x3 μ4 =>
      if x3 = (-9) then
        (fX0_become 15 25 μ4).bind fun μ5 =>
        (fX0_become 20 25 μ5).bind fun μ6 =>
        mlet (wr μ6 0 8 0) fun μ7 =>
        (some (filM μ7 35 3 (-1))).bind fun μ8 =>
        some ((μ8 20 4), μ8)
      else
        some ((-4), μ4)
    else
      bnd2 (fX1_found 1 μ) fun x10 μ11 =>
      some (x10, μ11)
  else
    some ((-1), μ)
theorem K_X1_river  (p1 : Int)  (μ : Mem) : Con yX1_river cX1_river 2 (some .int) 5 [.inr (.inr 0), .inl p1] μ (fX1_river p1 μ) wI := by
  refine con_of (own := RX1) (by decide) rfl (Nat.le_of_ble_eq_true rfl) ?_
  show Sim cX1_river 2 RX1 (5) (some .int) wI 0 [(0, .inr (.inr 0)), (1, .inl p1)] [] μ (fX1_river p1 μ)
  unfold fX1_river
  refine S_iload_n dX1_river_0 rfl ?_
  refine S_callS_I dX1_river_1 [.inl p1] (K_X1_isText p1 μ) l_X1_108 yo_X1_isText rfl rfl rfl (fun x1 => ?_)
  refine S_if_ne (tgt := 9) dX1_river_4 (by decide) (fun h13 => ?_) (fun h13 => ?_)
  · refine S_aload_n dX1_river_9 rfl ?_
    refine S_getR (c1 := 14) dX1_river_10 rfl fl_X1_23 rfl rfl rfl ?_
    refine S_iload_n dX1_river_13 rfl ?_
    refine S_iald (N := 4) dX1_river_14 rfl (by decide) rfl ?_
    refine S_if_ge (tgt := 24) dX1_river_15 (by decide) (fun h12 => ?_) (fun h12 => ?_)
    · refine S_aload_n dX1_river_24 rfl ?_
      refine S_aload_n dX1_river_25 rfl ?_
      refine S_getR (c1 := 9) dX1_river_26 rfl fl_X1_20 rfl rfl rfl ?_
      refine S_iload_n dX1_river_29 rfl ?_
      refine S_aald (N := 4) (c1 := 10) (c2 := 14) dX1_river_30 rfl (by decide) (by decide) rfl rfl rfl (fun c2 hc2 => ?_)
      refine S_aload_n dX1_river_31 rfl ?_
      refine S_getR (c1 := 14) dX1_river_32 rfl fl_X1_23 rfl rfl rfl ?_
      refine S_iload_n dX1_river_35 rfl ?_
      refine S_iald (N := 4) dX1_river_36 rfl (by decide) rfl ?_
      refine S_callV_M2 dX1_river_37 [.inr (.inr c2), .inl (μ 14 (p1).toNat)] (K_X1_readAside hc2 (μ 14 (p1).toNat) μ) l_X1_114 yo_X1_readAside rfl rfl rfl rfl rfl (fun x3 μ4 => ?_)
      refine S_bipush dX1_river_40 rfl (by decide) ?_
      refine S_ic_eq (tgt := 48) dX1_river_42 (by decide) (fun h9 => ?_) (fun h9 => ?_)
      · refine S_aload_n dX1_river_48 rfl ?_
        refine S_getR (c1 := 15) dX1_river_49 rfl fl_X1_29 rfl rfl rfl ?_
        refine S_aload_n dX1_river_52 rfl ?_
        refine S_getR (c1 := 25) dX1_river_53 rfl fl_X1_36 rfl rfl rfl ?_
        refine S_callW_V dX1_river_56 [.inr (.inr 25)] (K_X0_become (by unfold isBk; decide) (by unfold isBk; decide) μ4) l_X1_118 yo_X0_become rfl rfl rfl rfl rfl (fun μ5 => ?_)
        refine S_aload_n dX1_river_59 rfl ?_
        refine S_getR (c1 := 20) dX1_river_60 rfl fl_X1_33 rfl rfl rfl ?_
        refine S_aload_n dX1_river_63 rfl ?_
        refine S_getR (c1 := 25) dX1_river_64 rfl fl_X1_36 rfl rfl rfl ?_
        refine S_callW_V dX1_river_67 [.inr (.inr 25)] (K_X0_become (by unfold isBk; decide) (by unfold isBk; decide) μ5) l_X1_118 yo_X0_become rfl rfl rfl rfl rfl (fun μ6 => ?_)
        refine S_aload_n dX1_river_70 rfl ?_
        refine S_iconst dX1_river_71 rfl ?_
        refine S_putI dX1_river_72 rfl fl_X1_42 rfl rfl rfl rfl (fun μ7 => ?_)
        refine S_aload_n dX1_river_75 rfl ?_
        refine S_getR (c1 := 35) dX1_river_76 rfl fl_X1_49 rfl rfl rfl ?_
        refine S_iconst dX1_river_79 rfl ?_
        refine S_callS_V dX1_river_80 [.inr (.inr 35), .inl (-1)] (K_fillI rfl (by decide) (by decide) (-1) μ7) jl_X1_77 jy_fillI rfl rfl rfl (fun μ8 => ?_)
        refine S_aload_n dX1_river_83 rfl ?_
        refine S_getR (c1 := 20) dX1_river_84 rfl fl_X1_33 rfl rfl rfl ?_
        refine S_getI dX1_river_87 rfl fl_X1_122 rfl rfl ?_
        exact S_iret dX1_river_90 rfl rfl
      · refine S_bipush dX1_river_45 rfl (by decide) ?_
        exact S_iret dX1_river_47 rfl rfl
    · refine S_aload_n dX1_river_18 rfl ?_
      refine S_iconst dX1_river_19 rfl ?_
      refine S_callV_M2 dX1_river_20 [.inl 1] (K_X1_found 1 μ) l_X1_87 yo_X1_found rfl rfl rfl rfl rfl (fun x10 μ11 => ?_)
      exact S_iret dX1_river_23 rfl rfl
  · refine S_iconst dX1_river_7 rfl ?_
    exact S_iret dX1_river_8 rfl rfl
def fX1_one (p1 : Int) (p2 : Int) (μ : Mem) : Option (Int × Mem) :=
  (fX0_has 20 p1 μ).bind fun x1 =>
  if x1 = 0 then
    some ((-1), μ)
  else
    (fX1_isWithin p2 0 5 μ).bind fun x2 =>
    if ¬ x2 = 0 then
      (fX0_told 20 p1 p2 μ).bind fun x3 =>
      bnd2 (fX1_tell x3 μ) fun x4 μ5 =>
      some (x4, μ5)
    else
      some ((-1), μ)
theorem K_X1_one  (p1 : Int) (p2 : Int)  (μ : Mem) : Con yX1_one cX1_one 3 (some .int) 6 [.inr (.inr 0), .inl p1, .inl p2] μ (fX1_one p1 p2 μ) wI := by
  refine con_of (own := RX1) (by decide) rfl (Nat.le_of_ble_eq_true rfl) ?_
  show Sim cX1_one 3 RX1 (6) (some .int) wI 0 [(0, .inr (.inr 0)), (1, .inl p1), (2, .inl p2)] [] μ (fX1_one p1 p2 μ)
  unfold fX1_one
  refine S_aload_n dX1_one_0 rfl ?_
  refine S_getR (c1 := 20) dX1_one_1 rfl fl_X1_33 rfl rfl rfl ?_
  refine S_iload_n dX1_one_4 rfl ?_
  refine S_callW_I dX1_one_5 [.inl p1] (K_X0_has (by unfold isBk; decide) p1 μ) l_X1_125 yo_X0_has rfl rfl rfl rfl rfl (fun x1 => ?_)
  refine S_if_eq (tgt := 20) dX1_one_8 (by decide) (fun h7 => ?_) (fun h7 => ?_)
  · refine S_iconst dX1_one_20 rfl ?_
    exact S_iret dX1_one_21 rfl rfl
  · refine S_iload_n dX1_one_11 rfl ?_
    refine S_iconst dX1_one_12 rfl ?_
    refine S_iconst dX1_one_13 rfl ?_
    refine S_callS_I dX1_one_14 [.inl p2, .inl 0, .inl 5] (K_X1_isWithin p2 0 5 μ) l_X1_128 yo_X1_isWithin rfl rfl rfl (fun x2 => ?_)
    refine S_if_ne (tgt := 22) dX1_one_17 (by decide) (fun h6 => ?_) (fun h6 => ?_)
    · refine S_aload_n dX1_one_22 rfl ?_
      refine S_aload_n dX1_one_23 rfl ?_
      refine S_getR (c1 := 20) dX1_one_24 rfl fl_X1_33 rfl rfl rfl ?_
      refine S_iload_n dX1_one_27 rfl ?_
      refine S_iload_n dX1_one_28 rfl ?_
      refine S_callW_I dX1_one_29 [.inl p1, .inl p2] (K_X0_told (by unfold isBk; decide) p1 p2 μ) l_X1_132 yo_X0_told rfl rfl rfl rfl rfl (fun x3 => ?_)
      refine S_callV_M2 dX1_one_32 [.inl x3] (K_X1_tell x3 μ) l_X1_99 yo_X1_tell rfl rfl rfl rfl rfl (fun x4 μ5 => ?_)
      exact S_iret dX1_one_35 rfl rfl
    · refine S_iconst dX1_one_20 rfl ?_
      exact S_iret dX1_one_21 rfl rfl
def fX1_mark (p1 : Int) (p2 : Int) (μ : Mem) : Option (Int × Mem) :=
  (fX0_has 20 p1 μ).bind fun x1 =>
  if x1 = 0 then
    some ((-1), μ)
  else
    (fX1_isWithin p2 1 5 μ).bind fun x2 =>
    if ¬ x2 = 0 then
      grd (0 ≤ p1 ∧ p1 < 6) <|
      (fX1_isOf (μ 21 (p1).toNat) p2 μ).bind fun x3 =>
      if ¬ x3 = 0 then
        (fX0_markOf 20 p1 p2 μ).bind fun x4 =>
        some (x4, μ)
      else
        bnd2 (fX1_found 3 μ) fun x5 μ6 =>
        some (x5, μ6)
    else
      some ((-1), μ)
theorem K_X1_mark  (p1 : Int) (p2 : Int)  (μ : Mem) : Con yX1_mark cX1_mark 3 (some .int) 5 [.inr (.inr 0), .inl p1, .inl p2] μ (fX1_mark p1 p2 μ) wI := by
  refine con_of (own := RX1) (by decide) rfl (Nat.le_of_ble_eq_true rfl) ?_
  show Sim cX1_mark 3 RX1 (5) (some .int) wI 0 [(0, .inr (.inr 0)), (1, .inl p1), (2, .inl p2)] [] μ (fX1_mark p1 p2 μ)
  unfold fX1_mark
  refine S_aload_n dX1_mark_0 rfl ?_
  refine S_getR (c1 := 20) dX1_mark_1 rfl fl_X1_33 rfl rfl rfl ?_
  refine S_iload_n dX1_mark_4 rfl ?_
  refine S_callW_I dX1_mark_5 [.inl p1] (K_X0_has (by unfold isBk; decide) p1 μ) l_X1_125 yo_X0_has rfl rfl rfl rfl rfl (fun x1 => ?_)
  refine S_if_eq (tgt := 20) dX1_mark_8 (by decide) (fun h9 => ?_) (fun h9 => ?_)
  · refine S_iconst dX1_mark_20 rfl ?_
    exact S_iret dX1_mark_21 rfl rfl
  · refine S_iload_n dX1_mark_11 rfl ?_
    refine S_iconst dX1_mark_12 rfl ?_
    refine S_iconst dX1_mark_13 rfl ?_
    refine S_callS_I dX1_mark_14 [.inl p2, .inl 1, .inl 5] (K_X1_isWithin p2 1 5 μ) l_X1_128 yo_X1_isWithin rfl rfl rfl (fun x2 => ?_)
    refine S_if_ne (tgt := 22) dX1_mark_17 (by decide) (fun h8 => ?_) (fun h8 => ?_)
    · refine S_aload_n dX1_mark_22 rfl ?_
      refine S_getR (c1 := 20) dX1_mark_23 rfl fl_X1_33 rfl rfl rfl ?_
      refine S_getR (c1 := 21) dX1_mark_26 rfl fl_X1_135 rfl rfl rfl ?_
      refine S_iload_n dX1_mark_29 rfl ?_
      refine S_iald (N := 6) dX1_mark_30 rfl (by decide) rfl ?_
      refine S_iload_n dX1_mark_31 rfl ?_
      refine S_callS_I dX1_mark_32 [.inl (μ 21 (p1).toNat), .inl p2] (K_X1_isOf (μ 21 (p1).toNat) p2 μ) l_X1_138 yo_X1_isOf rfl rfl rfl (fun x3 => ?_)
      refine S_if_ne (tgt := 44) dX1_mark_35 (by decide) (fun h7 => ?_) (fun h7 => ?_)
      · refine S_aload_n dX1_mark_44 rfl ?_
        refine S_getR (c1 := 20) dX1_mark_45 rfl fl_X1_33 rfl rfl rfl ?_
        refine S_iload_n dX1_mark_48 rfl ?_
        refine S_iload_n dX1_mark_49 rfl ?_
        refine S_callW_I dX1_mark_50 [.inl p1, .inl p2] (K_X0_markOf (by unfold isBk; decide) p1 p2 μ) l_X1_142 yo_X0_markOf rfl rfl rfl rfl rfl (fun x4 => ?_)
        exact S_iret dX1_mark_53 rfl rfl
      · refine S_aload_n dX1_mark_38 rfl ?_
        refine S_iconst dX1_mark_39 rfl ?_
        refine S_callV_M2 dX1_mark_40 [.inl 3] (K_X1_found 3 μ) l_X1_87 yo_X1_found rfl rfl rfl rfl rfl (fun x5 μ6 => ?_)
        exact S_iret dX1_mark_43 rfl rfl
    · refine S_iconst dX1_mark_20 rfl ?_
      exact S_iret dX1_mark_21 rfl rfl
def fX1_deedOf (p1 : Int) (p2 : Int) (p3 : Int) (μ : Mem) : Option Int :=
  some (bor (bor p1 (bshl p2 2)) (bshl p3 5))
theorem K_X1_deedOf  (p1 : Int) (p2 : Int) (p3 : Int)  (μ : Mem) : Con yX1_deedOf cX1_deedOf 3 (some .int) 2 [.inl p1, .inl p2, .inl p3] μ (fX1_deedOf p1 p2 p3 μ) (rI μ) := by
  refine con_of (own := RX1) (by decide) rfl (Nat.le_of_ble_eq_true rfl) ?_
  show Sim cX1_deedOf 3 RX1 (2) (some .int) (rI μ) 0 [(0, .inl p1), (1, .inl p2), (2, .inl p3)] [] μ (fX1_deedOf p1 p2 p3 μ)
  unfold fX1_deedOf
  refine S_iload_n dX1_deedOf_0 rfl ?_
  refine S_iload_n dX1_deedOf_1 rfl ?_
  refine S_iconst dX1_deedOf_2 rfl ?_
  refine S_ishl dX1_deedOf_3 ?_
  refine S_ior dX1_deedOf_4 ?_
  refine S_iload_n dX1_deedOf_5 rfl ?_
  refine S_iconst dX1_deedOf_6 rfl ?_
  refine S_ishl dX1_deedOf_7 ?_
  refine S_ior dX1_deedOf_8 ?_
  exact S_iret dX1_deedOf_9 rfl rfl
def fX1_perform (p1 : Int) (μ : Mem) : Option Mem :=
  if 40 ≤ (μ 0 8) then
    some μ
  else
    grd (0 ≤ (μ 0 8) ∧ (μ 0 8) < 40) <|
    mlet (wr μ 30 ((μ 0 8)).toNat p1) fun μ1 =>
    mlet (wr μ1 0 8 (w32 ((μ1 0 8) + 1))) fun μ2 =>
    (fX0_undergo 20 p1 μ2).bind fun μ3 =>
    some μ3
theorem K_X1_perform  (p1 : Int)  (μ : Mem) : Con yX1_perform cX1_perform 2 (none) 8 [.inr (.inr 0), .inl p1] μ (fX1_perform p1 μ) wV := by
  refine con_of (own := RX1) (by decide) rfl (Nat.le_of_ble_eq_true rfl) ?_
  show Sim cX1_perform 2 RX1 (8) (none) wV 0 [(0, .inr (.inr 0)), (1, .inl p1)] [] μ (fX1_perform p1 μ)
  unfold fX1_perform
  refine S_aload_n dX1_perform_0 rfl ?_
  refine S_getI dX1_perform_1 rfl fl_X1_42 rfl rfl ?_
  refine S_bipush dX1_perform_4 rfl (by decide) ?_
  refine S_ic_ge (tgt := 37) dX1_perform_6 (by decide) (fun h4 => ?_) (fun h4 => ?_)
  · exact S_vret dX1_perform_37 rfl rfl
  · refine S_aload_n dX1_perform_9 rfl ?_
    refine S_getR (c1 := 30) dX1_perform_10 rfl fl_X1_39 rfl rfl rfl ?_
    refine S_aload_n dX1_perform_13 rfl ?_
    refine S_getI dX1_perform_14 rfl fl_X1_42 rfl rfl ?_
    refine S_iload_n dX1_perform_17 rfl ?_
    refine S_iast (N := 40) dX1_perform_18 rfl (by decide) rfl (fun μ1 => ?_)
    refine S_aload_n dX1_perform_19 rfl ?_
    refine S_dup dX1_perform_20 rfl ?_
    refine S_getI dX1_perform_21 rfl fl_X1_42 rfl rfl ?_
    refine S_iconst dX1_perform_24 rfl ?_
    refine S_iadd dX1_perform_25 ?_
    refine S_putI dX1_perform_26 rfl fl_X1_42 rfl rfl rfl rfl (fun μ2 => ?_)
    refine S_aload_n dX1_perform_29 rfl ?_
    refine S_getR (c1 := 20) dX1_perform_30 rfl fl_X1_33 rfl rfl rfl ?_
    refine S_iload_n dX1_perform_33 rfl ?_
    refine S_callW_V dX1_perform_34 [.inl p1] (K_X0_undergo (by unfold isBk; decide) p1 μ2) l_X1_293 yo_X0_undergo rfl rfl rfl rfl rfl (fun μ3 => ?_)
    exact S_vret dX1_perform_37 rfl rfl
def fX1_night (μ : Mem) : Option (Int × Mem) :=
  if ¬ (μ 20 4) = 0 then
    if (μ 0 8) < 40 then
      (fX0_holder 20 0 μ).bind fun x1 =>
      (fX1_deedOf 0 0 0 μ).bind fun x2 =>
      (fX1_perform x2 μ).bind fun μ3 =>
      some (x1, μ3)
    else
      some ((-2), μ)
  else
    some ((-4), μ)
theorem K_X1_night    (μ : Mem) : Con yX1_night cX1_night 2 (some .int) 9 [.inr (.inr 0)] μ (fX1_night  μ) wI := by
  refine con_of (own := RX1) (by decide) rfl (Nat.le_of_ble_eq_true rfl) ?_
  show Sim cX1_night 2 RX1 (9) (some .int) wI 0 [(0, .inr (.inr 0))] [] μ (fX1_night  μ)
  unfold fX1_night
  refine S_aload_n dX1_night_0 rfl ?_
  refine S_getR (c1 := 20) dX1_night_1 rfl fl_X1_33 rfl rfl rfl ?_
  refine S_getI dX1_night_4 rfl fl_X1_122 rfl rfl ?_
  refine S_if_ne (tgt := 13) dX1_night_7 (by decide) (fun h5 => ?_) (fun h5 => ?_)
  · refine S_aload_n dX1_night_13 rfl ?_
    refine S_getI dX1_night_14 rfl fl_X1_42 rfl rfl ?_
    refine S_bipush dX1_night_17 rfl (by decide) ?_
    refine S_ic_lt (tgt := 25) dX1_night_19 (by decide) (fun h4 => ?_) (fun h4 => ?_)
    · refine S_aload_n dX1_night_25 rfl ?_
      refine S_getR (c1 := 20) dX1_night_26 rfl fl_X1_33 rfl rfl rfl ?_
      refine S_iconst dX1_night_29 rfl ?_
      refine S_callW_I dX1_night_30 [.inl 0] (K_X0_holder (by unfold isBk; decide) 0 μ) l_X1_145 yo_X0_holder rfl rfl rfl rfl rfl (fun x1 => ?_)
      refine S_istore_n (lv' := [(1, .inl x1), (0, .inr (.inr 0))]) dX1_night_33 rfl rfl ?_
      refine S_aload_n dX1_night_34 rfl ?_
      refine S_iconst dX1_night_35 rfl ?_
      refine S_iconst dX1_night_36 rfl ?_
      refine S_iconst dX1_night_37 rfl ?_
      refine S_callS_I dX1_night_38 [.inl 0, .inl 0, .inl 0] (K_X1_deedOf 0 0 0 μ) l_X1_148 yo_X1_deedOf rfl rfl rfl (fun x2 => ?_)
      refine S_callV_V dX1_night_41 [.inl x2] (K_X1_perform x2 μ) l_X1_152 yo_X1_perform rfl rfl rfl rfl rfl (fun μ3 => ?_)
      refine S_iload_n dX1_night_44 rfl ?_
      exact S_iret dX1_night_45 rfl rfl
    · refine S_bipush dX1_night_22 rfl (by decide) ?_
      exact S_iret dX1_night_24 rfl rfl
  · refine S_bipush dX1_night_10 rfl (by decide) ?_
    exact S_iret dX1_night_12 rfl rfl
