theorem dX0_markOf_0 : decode cX0_markOf 0 = .ok (.iload_n 2, 1) := by decide +kernel
theorem dX0_markOf_1 : decode cX0_markOf 1 = .ok (.tableswitch 86 1 4 #[31, 53, 66, 77], 31) := by decide +kernel
theorem dX0_markOf_32 : decode cX0_markOf 32 = .ok (.iconst 1, 1) := by decide +kernel
theorem dX0_markOf_33 : decode cX0_markOf 33 = .ok (.aload_n 0, 1) := by decide +kernel
theorem dX0_markOf_34 : decode cX0_markOf 34 = .ok (.getfield 18, 3) := by decide +kernel
theorem dX0_markOf_37 : decode cX0_markOf 37 = .ok (.iload_n 1, 1) := by decide +kernel
theorem dX0_markOf_38 : decode cX0_markOf 38 = .ok (.iaload, 1) := by decide +kernel
theorem dX0_markOf_39 : decode cX0_markOf 39 = .ok (.aload_n 0, 1) := by decide +kernel
theorem dX0_markOf_40 : decode cX0_markOf 40 = .ok (.getfield 31, 3) := by decide +kernel
theorem dX0_markOf_43 : decode cX0_markOf 43 = .ok (.iconst 1, 1) := by decide +kernel
theorem dX0_markOf_44 : decode cX0_markOf 44 = .ok (.iadd, 1) := by decide +kernel
theorem dX0_markOf_45 : decode cX0_markOf 45 = .ok (.aload_n 0, 1) := by decide +kernel
theorem dX0_markOf_46 : decode cX0_markOf 46 = .ok (.iload_n 1, 1) := by decide +kernel
theorem dX0_markOf_47 : decode cX0_markOf 47 = .ok (.invokevirtual 46, 3) := by decide +kernel
theorem dX0_markOf_50 : decode cX0_markOf 50 = .ok (.invokestatic 49, 3) := by decide +kernel
theorem dX0_markOf_53 : decode cX0_markOf 53 = .ok (.ireturn, 1) := by decide +kernel
theorem dX0_markOf_54 : decode cX0_markOf 54 = .ok (.iconst 0, 1) := by decide +kernel
theorem dX0_markOf_55 : decode cX0_markOf 55 = .ok (.iconst 5, 1) := by decide +kernel
theorem dX0_markOf_56 : decode cX0_markOf 56 = .ok (.aload_n 0, 1) := by decide +kernel
theorem dX0_markOf_57 : decode cX0_markOf 57 = .ok (.getfield 18, 3) := by decide +kernel
theorem dX0_markOf_60 : decode cX0_markOf 60 = .ok (.iload_n 1, 1) := by decide +kernel
theorem dX0_markOf_61 : decode cX0_markOf 61 = .ok (.iaload, 1) := by decide +kernel
theorem dX0_markOf_62 : decode cX0_markOf 62 = .ok (.isub, 1) := by decide +kernel
theorem dX0_markOf_63 : decode cX0_markOf 63 = .ok (.invokestatic 67, 3) := by decide +kernel
theorem dX0_markOf_66 : decode cX0_markOf 66 = .ok (.ireturn, 1) := by decide +kernel
theorem dX0_markOf_67 : decode cX0_markOf 67 = .ok (.aload_n 0, 1) := by decide +kernel
theorem dX0_markOf_68 : decode cX0_markOf 68 = .ok (.aload_n 0, 1) := by decide +kernel
theorem dX0_markOf_69 : decode cX0_markOf 69 = .ok (.getfield 18, 3) := by decide +kernel
theorem dX0_markOf_72 : decode cX0_markOf 72 = .ok (.iload_n 1, 1) := by decide +kernel
theorem dX0_markOf_73 : decode cX0_markOf 73 = .ok (.iaload, 1) := by decide +kernel
theorem dX0_markOf_74 : decode cX0_markOf 74 = .ok (.invokevirtual 81, 3) := by decide +kernel
theorem dX0_markOf_77 : decode cX0_markOf 77 = .ok (.ireturn, 1) := by decide +kernel
theorem dX0_markOf_78 : decode cX0_markOf 78 = .ok (.aload_n 0, 1) := by decide +kernel
theorem dX0_markOf_79 : decode cX0_markOf 79 = .ok (.iload_n 1, 1) := by decide +kernel
theorem dX0_markOf_80 : decode cX0_markOf 80 = .ok (.invokevirtual 46, 3) := by decide +kernel
theorem dX0_markOf_83 : decode cX0_markOf 83 = .ok (.invokestatic 84, 3) := by decide +kernel
theorem dX0_markOf_86 : decode cX0_markOf 86 = .ok (.ireturn, 1) := by decide +kernel
theorem dX0_markOf_87 : decode cX0_markOf 87 = .ok (.aload_n 0, 1) := by decide +kernel
theorem dX0_markOf_88 : decode cX0_markOf 88 = .ok (.getfield 18, 3) := by decide +kernel
theorem dX0_markOf_91 : decode cX0_markOf 91 = .ok (.iload_n 1, 1) := by decide +kernel
theorem dX0_markOf_92 : decode cX0_markOf 92 = .ok (.iaload, 1) := by decide +kernel
theorem dX0_markOf_93 : decode cX0_markOf 93 = .ok (.invokestatic 87, 3) := by decide +kernel
theorem dX0_markOf_96 : decode cX0_markOf 96 = .ok (.ireturn, 1) := by decide +kernel
theorem dX0_howManyOf_0 : decode cX0_howManyOf 0 = .ok (.iconst 0, 1) := by decide +kernel
theorem dX0_howManyOf_1 : decode cX0_howManyOf 1 = .ok (.istore_n 2, 1) := by decide +kernel
theorem dX0_howManyOf_2 : decode cX0_howManyOf 2 = .ok (.iconst 0, 1) := by decide +kernel
theorem dX0_howManyOf_3 : decode cX0_howManyOf 3 = .ok (.istore_n 3, 1) := by decide +kernel
theorem dX0_howManyOf_4 : decode cX0_howManyOf 4 = .ok (.iload_n 3, 1) := by decide +kernel
theorem dX0_howManyOf_5 : decode cX0_howManyOf 5 = .ok (.aload_n 0, 1) := by decide +kernel
theorem dX0_howManyOf_6 : decode cX0_howManyOf 6 = .ok (.getfield 24, 3) := by decide +kernel
theorem dX0_howManyOf_9 : decode cX0_howManyOf 9 = .ok (.if_icmp .ge 25, 3) := by decide +kernel
theorem dX0_howManyOf_12 : decode cX0_howManyOf 12 = .ok (.aload_n 0, 1) := by decide +kernel
theorem dX0_howManyOf_13 : decode cX0_howManyOf 13 = .ok (.getfield 9, 3) := by decide +kernel
theorem dX0_howManyOf_16 : decode cX0_howManyOf 16 = .ok (.iload_n 3, 1) := by decide +kernel
theorem dX0_howManyOf_17 : decode cX0_howManyOf 17 = .ok (.iaload, 1) := by decide +kernel
theorem dX0_howManyOf_18 : decode cX0_howManyOf 18 = .ok (.iload_n 1, 1) := by decide +kernel
theorem dX0_howManyOf_19 : decode cX0_howManyOf 19 = .ok (.invokestatic 90, 3) := by decide +kernel
theorem dX0_howManyOf_22 : decode cX0_howManyOf 22 = .ok (.ifCond .eq 6, 3) := by decide +kernel
theorem dX0_howManyOf_25 : decode cX0_howManyOf 25 = .ok (.iinc 2 1, 3) := by decide +kernel
theorem dX0_howManyOf_28 : decode cX0_howManyOf 28 = .ok (.iinc 3 1, 3) := by decide +kernel
theorem dX0_howManyOf_31 : decode cX0_howManyOf 31 = .ok (.goto (-27), 3) := by decide +kernel
theorem dX0_howManyOf_34 : decode cX0_howManyOf 34 = .ok (.iload_n 2, 1) := by decide +kernel
theorem dX0_howManyOf_35 : decode cX0_howManyOf 35 = .ok (.ireturn, 1) := by decide +kernel
theorem dX0_daringOf_0 : decode cX0_daringOf 0 = .ok (.iconst 0, 1) := by decide +kernel
theorem dX0_daringOf_1 : decode cX0_daringOf 1 = .ok (.istore_n 2, 1) := by decide +kernel
theorem dX0_daringOf_2 : decode cX0_daringOf 2 = .ok (.iconst 0, 1) := by decide +kernel
theorem dX0_daringOf_3 : decode cX0_daringOf 3 = .ok (.istore_n 3, 1) := by decide +kernel
theorem dX0_daringOf_4 : decode cX0_daringOf 4 = .ok (.iload_n 3, 1) := by decide +kernel
theorem dX0_daringOf_5 : decode cX0_daringOf 5 = .ok (.aload_n 0, 1) := by decide +kernel
theorem dX0_daringOf_6 : decode cX0_daringOf 6 = .ok (.getfield 24, 3) := by decide +kernel
theorem dX0_daringOf_9 : decode cX0_daringOf 9 = .ok (.if_icmp .ge 26, 3) := by decide +kernel
theorem dX0_daringOf_12 : decode cX0_daringOf 12 = .ok (.iload_n 1, 1) := by decide +kernel
theorem dX0_daringOf_13 : decode cX0_daringOf 13 = .ok (.iload_n 3, 1) := by decide +kernel
theorem dX0_daringOf_14 : decode cX0_daringOf 14 = .ok (.ishr, 1) := by decide +kernel
theorem dX0_daringOf_15 : decode cX0_daringOf 15 = .ok (.iconst 1, 1) := by decide +kernel
theorem dX0_daringOf_16 : decode cX0_daringOf 16 = .ok (.iand, 1) := by decide +kernel
theorem dX0_daringOf_17 : decode cX0_daringOf 17 = .ok (.ifCond .eq 12, 3) := by decide +kernel
theorem dX0_daringOf_20 : decode cX0_daringOf 20 = .ok (.iload_n 2, 1) := by decide +kernel
theorem dX0_daringOf_21 : decode cX0_daringOf 21 = .ok (.aload_n 0, 1) := by decide +kernel
theorem dX0_daringOf_22 : decode cX0_daringOf 22 = .ok (.getfield 18, 3) := by decide +kernel
theorem dX0_daringOf_25 : decode cX0_daringOf 25 = .ok (.iload_n 3, 1) := by decide +kernel
theorem dX0_daringOf_26 : decode cX0_daringOf 26 = .ok (.iaload, 1) := by decide +kernel
theorem dX0_daringOf_27 : decode cX0_daringOf 27 = .ok (.iadd, 1) := by decide +kernel
theorem dX0_daringOf_28 : decode cX0_daringOf 28 = .ok (.istore_n 2, 1) := by decide +kernel
theorem dX0_daringOf_29 : decode cX0_daringOf 29 = .ok (.iinc 3 1, 3) := by decide +kernel
theorem dX0_daringOf_32 : decode cX0_daringOf 32 = .ok (.goto (-28), 3) := by decide +kernel
theorem dX0_daringOf_35 : decode cX0_daringOf 35 = .ok (.iload_n 2, 1) := by decide +kernel
theorem dX0_daringOf_36 : decode cX0_daringOf 36 = .ok (.ireturn, 1) := by decide +kernel
theorem dX0_allCrossings_0 : decode cX0_allCrossings 0 = .ok (.iconst 0, 1) := by decide +kernel
theorem dX0_allCrossings_1 : decode cX0_allCrossings 1 = .ok (.istore_n 1, 1) := by decide +kernel
theorem dX0_allCrossings_2 : decode cX0_allCrossings 2 = .ok (.iconst 0, 1) := by decide +kernel
theorem dX0_allCrossings_3 : decode cX0_allCrossings 3 = .ok (.istore_n 2, 1) := by decide +kernel
theorem dX0_allCrossings_4 : decode cX0_allCrossings 4 = .ok (.iload_n 2, 1) := by decide +kernel
theorem dX0_allCrossings_5 : decode cX0_allCrossings 5 = .ok (.aload_n 0, 1) := by decide +kernel
theorem dX0_allCrossings_6 : decode cX0_allCrossings 6 = .ok (.getfield 24, 3) := by decide +kernel
theorem dX0_allCrossings_9 : decode cX0_allCrossings 9 = .ok (.if_icmp .ge 18, 3) := by decide +kernel
theorem dX0_allCrossings_12 : decode cX0_allCrossings 12 = .ok (.iload_n 1, 1) := by decide +kernel
theorem dX0_allCrossings_13 : decode cX0_allCrossings 13 = .ok (.aload_n 0, 1) := by decide +kernel
theorem dX0_allCrossings_14 : decode cX0_allCrossings 14 = .ok (.getfield 21, 3) := by decide +kernel
theorem dX0_allCrossings_17 : decode cX0_allCrossings 17 = .ok (.iload_n 2, 1) := by decide +kernel
theorem dX0_allCrossings_18 : decode cX0_allCrossings 18 = .ok (.iaload, 1) := by decide +kernel
theorem dX0_allCrossings_19 : decode cX0_allCrossings 19 = .ok (.iadd, 1) := by decide +kernel
theorem dX0_allCrossings_20 : decode cX0_allCrossings 20 = .ok (.istore_n 1, 1) := by decide +kernel
theorem dX0_allCrossings_21 : decode cX0_allCrossings 21 = .ok (.iinc 2 1, 3) := by decide +kernel
theorem dX0_allCrossings_24 : decode cX0_allCrossings 24 = .ok (.goto (-20), 3) := by decide +kernel
theorem dX0_allCrossings_27 : decode cX0_allCrossings 27 = .ok (.iload_n 1, 1) := by decide +kernel
theorem dX0_allCrossings_28 : decode cX0_allCrossings 28 = .ok (.ireturn, 1) := by decide +kernel
theorem dX1_isWithin_0 : decode cX1_isWithin 0 = .ok (.iload_n 0, 1) := by decide +kernel
theorem dX1_isWithin_1 : decode cX1_isWithin 1 = .ok (.iload_n 1, 1) := by decide +kernel
theorem dX1_isWithin_2 : decode cX1_isWithin 2 = .ok (.if_icmp .lt 12, 3) := by decide +kernel
theorem dX1_isWithin_5 : decode cX1_isWithin 5 = .ok (.iload_n 0, 1) := by decide +kernel
theorem dX1_isWithin_6 : decode cX1_isWithin 6 = .ok (.iload_n 2, 1) := by decide +kernel
theorem dX1_isWithin_7 : decode cX1_isWithin 7 = .ok (.if_icmp .gt 7, 3) := by decide +kernel
theorem dX1_isWithin_10 : decode cX1_isWithin 10 = .ok (.iconst 1, 1) := by decide +kernel
theorem dX1_isWithin_11 : decode cX1_isWithin 11 = .ok (.goto 4, 3) := by decide +kernel
theorem dX1_isWithin_14 : decode cX1_isWithin 14 = .ok (.iconst 0, 1) := by decide +kernel
theorem dX1_isWithin_15 : decode cX1_isWithin 15 = .ok (.ireturn, 1) := by decide +kernel
theorem dX1_found_0 : decode cX1_found 0 = .ok (.iload_n 1, 1) := by decide +kernel
theorem dX1_found_1 : decode cX1_found 1 = .ok (.iconst 1, 1) := by decide +kernel
theorem dX1_found_2 : decode cX1_found 2 = .ok (.iconst 5, 1) := by decide +kernel
theorem dX1_found_3 : decode cX1_found 3 = .ok (.invokestatic 128, 3) := by decide +kernel
theorem dX1_found_6 : decode cX1_found 6 = .ok (.ifCond .eq 18, 3) := by decide +kernel
theorem dX1_found_9 : decode cX1_found 9 = .ok (.aload_n 0, 1) := by decide +kernel
theorem dX1_found_10 : decode cX1_found 10 = .ok (.iload_n 1, 1) := by decide +kernel
theorem dX1_found_11 : decode cX1_found 11 = .ok (.putfield 62, 3) := by decide +kernel
theorem dX1_found_14 : decode cX1_found 14 = .ok (.aload_n 0, 1) := by decide +kernel
theorem dX1_found_15 : decode cX1_found 15 = .ok (.getfield 65, 3) := by decide +kernel
theorem dX1_found_18 : decode cX1_found 18 = .ok (.iload_n 1, 1) := by decide +kernel
theorem dX1_found_19 : decode cX1_found 19 = .ok (.dup2, 1) := by decide +kernel
theorem dX1_found_20 : decode cX1_found 20 = .ok (.iaload, 1) := by decide +kernel
theorem dX1_found_21 : decode cX1_found 21 = .ok (.iconst 1, 1) := by decide +kernel
theorem dX1_found_22 : decode cX1_found 22 = .ok (.iadd, 1) := by decide +kernel
theorem dX1_found_23 : decode cX1_found 23 = .ok (.iastore, 1) := by decide +kernel
theorem dX1_found_24 : decode cX1_found 24 = .ok (.bipush (-3), 2) := by decide +kernel
theorem dX1_found_26 : decode cX1_found 26 = .ok (.ireturn, 1) := by decide +kernel
theorem dX1_isRow_0 : decode cX1_isRow 0 = .ok (.iload_n 0, 1) := by decide +kernel
theorem dX1_isRow_1 : decode cX1_isRow 1 = .ok (.ifCond .lt 13, 3) := by decide +kernel
theorem dX1_isRow_4 : decode cX1_isRow 4 = .ok (.iload_n 0, 1) := by decide +kernel
theorem dX1_isRow_5 : decode cX1_isRow 5 = .ok (.bipush 6, 2) := by decide +kernel
theorem dX1_isRow_7 : decode cX1_isRow 7 = .ok (.if_icmp .ge 7, 3) := by decide +kernel
theorem dX1_isRow_10 : decode cX1_isRow 10 = .ok (.iconst 1, 1) := by decide +kernel
theorem dX1_isRow_11 : decode cX1_isRow 11 = .ok (.goto 4, 3) := by decide +kernel
theorem dX1_isRow_14 : decode cX1_isRow 14 = .ok (.iconst 0, 1) := by decide +kernel
theorem dX1_isRow_15 : decode cX1_isRow 15 = .ok (.ireturn, 1) := by decide +kernel
theorem dX1_layAnew_0 : decode cX1_layAnew 0 = .ok (.aload_n 0, 1) := by decide +kernel
theorem dX1_layAnew_1 : decode cX1_layAnew 1 = .ok (.getfield 14, 3) := by decide +kernel
theorem dX1_layAnew_4 : decode cX1_layAnew 4 = .ok (.iload_n 1, 1) := by decide +kernel
theorem dX1_layAnew_5 : decode cX1_layAnew 5 = .ok (.iload_n 2, 1) := by decide +kernel
theorem dX1_layAnew_6 : decode cX1_layAnew 6 = .ok (.iastore, 1) := by decide +kernel
theorem dX1_layAnew_7 : decode cX1_layAnew 7 = .ok (.aload_n 0, 1) := by decide +kernel
theorem dX1_layAnew_8 : decode cX1_layAnew 8 = .ok (.getfield 11, 3) := by decide +kernel
theorem dX1_layAnew_11 : decode cX1_layAnew 11 = .ok (.iload_n 1, 1) := by decide +kernel
theorem dX1_layAnew_12 : decode cX1_layAnew 12 = .ok (.aaload, 1) := by decide +kernel
theorem dX1_layAnew_13 : decode cX1_layAnew 13 = .ok (.iconst 0, 1) := by decide +kernel
theorem dX1_layAnew_14 : decode cX1_layAnew 14 = .ok (.invokestatic 77, 3) := by decide +kernel
theorem dX1_layAnew_17 : decode cX1_layAnew 17 = .ok (.return_, 1) := by decide +kernel
theorem dX1_row_0 : decode cX1_row 0 = .ok (.iload_n 1, 1) := by decide +kernel
theorem dX1_row_1 : decode cX1_row 1 = .ok (.invokestatic 83, 3) := by decide +kernel
theorem dX1_row_4 : decode cX1_row 4 = .ok (.ifCond .eq 9, 3) := by decide +kernel
theorem dX1_row_7 : decode cX1_row 7 = .ok (.iload_n 2, 1) := by decide +kernel
theorem dX1_row_8 : decode cX1_row 8 = .ok (.bipush 40, 2) := by decide +kernel
theorem dX1_row_10 : decode cX1_row 10 = .ok (.if_icmp .le 5, 3) := by decide +kernel
theorem dX1_row_13 : decode cX1_row 13 = .ok (.iconst (-1), 1) := by decide +kernel
theorem dX1_row_14 : decode cX1_row 14 = .ok (.ireturn, 1) := by decide +kernel
theorem dX1_row_15 : decode cX1_row 15 = .ok (.iload_n 2, 1) := by decide +kernel
theorem dX1_row_16 : decode cX1_row 16 = .ok (.ifCond .ge 9, 3) := by decide +kernel
theorem dX1_row_19 : decode cX1_row 19 = .ok (.aload_n 0, 1) := by decide +kernel
theorem dX1_row_20 : decode cX1_row 20 = .ok (.iconst 5, 1) := by decide +kernel
theorem dX1_row_21 : decode cX1_row 21 = .ok (.invokevirtual 87, 3) := by decide +kernel
theorem dX1_row_24 : decode cX1_row 24 = .ok (.ireturn, 1) := by decide +kernel
theorem dX1_row_25 : decode cX1_row 25 = .ok (.aload_n 0, 1) := by decide +kernel
theorem dX1_row_26 : decode cX1_row 26 = .ok (.iload_n 1, 1) := by decide +kernel
theorem dX1_row_27 : decode cX1_row 27 = .ok (.iload_n 2, 1) := by decide +kernel
theorem dX1_row_28 : decode cX1_row 28 = .ok (.invokevirtual 91, 3) := by decide +kernel
theorem dX1_row_31 : decode cX1_row 31 = .ok (.iload_n 2, 1) := by decide +kernel
theorem dX1_row_32 : decode cX1_row 32 = .ok (.ireturn, 1) := by decide +kernel
theorem dX1_refusalOfPlace_0 : decode cX1_refusalOfPlace 0 = .ok (.iload_n 1, 1) := by decide +kernel
theorem dX1_refusalOfPlace_1 : decode cX1_refusalOfPlace 1 = .ok (.invokestatic 83, 3) := by decide +kernel
theorem dX1_refusalOfPlace_4 : decode cX1_refusalOfPlace 4 = .ok (.ifCond .ne 5, 3) := by decide +kernel
theorem dX1_refusalOfPlace_7 : decode cX1_refusalOfPlace 7 = .ok (.iconst (-1), 1) := by decide +kernel
theorem dX1_refusalOfPlace_8 : decode cX1_refusalOfPlace 8 = .ok (.ireturn, 1) := by decide +kernel
theorem dX1_refusalOfPlace_9 : decode cX1_refusalOfPlace 9 = .ok (.aload_n 0, 1) := by decide +kernel
theorem dX1_refusalOfPlace_10 : decode cX1_refusalOfPlace 10 = .ok (.getfield 14, 3) := by decide +kernel
theorem dX1_refusalOfPlace_13 : decode cX1_refusalOfPlace 13 = .ok (.iload_n 1, 1) := by decide +kernel
theorem dX1_refusalOfPlace_14 : decode cX1_refusalOfPlace 14 = .ok (.iaload, 1) := by decide +kernel
theorem dX1_refusalOfPlace_15 : decode cX1_refusalOfPlace 15 = .ok (.ifCond .ge 9, 3) := by decide +kernel
theorem dX1_refusalOfPlace_18 : decode cX1_refusalOfPlace 18 = .ok (.aload_n 0, 1) := by decide +kernel
theorem dX1_refusalOfPlace_19 : decode cX1_refusalOfPlace 19 = .ok (.iconst 1, 1) := by decide +kernel
theorem dX1_refusalOfPlace_20 : decode cX1_refusalOfPlace 20 = .ok (.invokevirtual 87, 3) := by decide +kernel
theorem dX1_refusalOfPlace_23 : decode cX1_refusalOfPlace 23 = .ok (.ireturn, 1) := by decide +kernel
theorem dX1_refusalOfPlace_24 : decode cX1_refusalOfPlace 24 = .ok (.iload_n 2, 1) := by decide +kernel
theorem dX1_refusalOfPlace_25 : decode cX1_refusalOfPlace 25 = .ok (.ifCond .lt 13, 3) := by decide +kernel
theorem dX1_refusalOfPlace_28 : decode cX1_refusalOfPlace 28 = .ok (.iload_n 2, 1) := by decide +kernel
theorem dX1_refusalOfPlace_29 : decode cX1_refusalOfPlace 29 = .ok (.aload_n 0, 1) := by decide +kernel
theorem dX1_refusalOfPlace_30 : decode cX1_refusalOfPlace 30 = .ok (.getfield 14, 3) := by decide +kernel
theorem dX1_refusalOfPlace_33 : decode cX1_refusalOfPlace 33 = .ok (.iload_n 1, 1) := by decide +kernel
theorem dX1_refusalOfPlace_34 : decode cX1_refusalOfPlace 34 = .ok (.iaload, 1) := by decide +kernel
theorem dX1_refusalOfPlace_35 : decode cX1_refusalOfPlace 35 = .ok (.if_icmp .lt 11, 3) := by decide +kernel
theorem dX1_refusalOfPlace_38 : decode cX1_refusalOfPlace 38 = .ok (.aload_n 0, 1) := by decide +kernel
theorem dX1_refusalOfPlace_39 : decode cX1_refusalOfPlace 39 = .ok (.iconst 2, 1) := by decide +kernel
theorem dX1_refusalOfPlace_40 : decode cX1_refusalOfPlace 40 = .ok (.invokevirtual 87, 3) := by decide +kernel
theorem dX1_refusalOfPlace_43 : decode cX1_refusalOfPlace 43 = .ok (.goto 4, 3) := by decide +kernel
theorem dX1_refusalOfPlace_46 : decode cX1_refusalOfPlace 46 = .ok (.iconst 0, 1) := by decide +kernel
theorem dX1_refusalOfPlace_47 : decode cX1_refusalOfPlace 47 = .ok (.ireturn, 1) := by decide +kernel
theorem dX1_tell_0 : decode cX1_tell 0 = .ok (.aload_n 0, 1) := by decide +kernel
theorem dX1_tell_1 : decode cX1_tell 1 = .ok (.iload_n 1, 1) := by decide +kernel
theorem dX1_tell_2 : decode cX1_tell 2 = .ok (.putfield 52, 3) := by decide +kernel
theorem dX1_tell_5 : decode cX1_tell 5 = .ok (.iconst 1, 1) := by decide +kernel
theorem dX1_tell_6 : decode cX1_tell 6 = .ok (.ireturn, 1) := by decide +kernel
theorem dX1_lay_0 : decode cX1_lay 0 = .ok (.aload_n 0, 1) := by decide +kernel
theorem dX1_lay_1 : decode cX1_lay 1 = .ok (.iload_n 1, 1) := by decide +kernel
theorem dX1_lay_2 : decode cX1_lay 2 = .ok (.iload_n 2, 1) := by decide +kernel
theorem dX1_lay_3 : decode cX1_lay 3 = .ok (.invokevirtual 95, 3) := by decide +kernel
theorem dX1_lay_6 : decode cX1_lay 6 = .ok (.istore 4, 2) := by decide +kernel
theorem dX1_lay_8 : decode cX1_lay 8 = .ok (.iload 4, 2) := by decide +kernel
theorem dX1_lay_10 : decode cX1_lay 10 = .ok (.ifCond .eq 6, 3) := by decide +kernel
theorem dX1_lay_13 : decode cX1_lay 13 = .ok (.iload 4, 2) := by decide +kernel
theorem dX1_lay_15 : decode cX1_lay 15 = .ok (.ireturn, 1) := by decide +kernel
theorem dX1_lay_16 : decode cX1_lay 16 = .ok (.aload_n 0, 1) := by decide +kernel
theorem dX1_lay_17 : decode cX1_lay 17 = .ok (.getfield 11, 3) := by decide +kernel
theorem dX1_lay_20 : decode cX1_lay 20 = .ok (.iload_n 1, 1) := by decide +kernel
theorem dX1_lay_21 : decode cX1_lay 21 = .ok (.aaload, 1) := by decide +kernel
theorem dX1_lay_22 : decode cX1_lay 22 = .ok (.iload_n 2, 1) := by decide +kernel
theorem dX1_lay_23 : decode cX1_lay 23 = .ok (.iaload, 1) := by decide +kernel
theorem dX1_lay_24 : decode cX1_lay 24 = .ok (.istore 5, 2) := by decide +kernel
theorem dX1_lay_26 : decode cX1_lay 26 = .ok (.aload_n 0, 1) := by decide +kernel
theorem dX1_lay_27 : decode cX1_lay 27 = .ok (.getfield 11, 3) := by decide +kernel
theorem dX1_lay_30 : decode cX1_lay 30 = .ok (.iload_n 1, 1) := by decide +kernel
theorem dX1_lay_31 : decode cX1_lay 31 = .ok (.aaload, 1) := by decide +kernel
theorem dX1_lay_32 : decode cX1_lay 32 = .ok (.iload_n 2, 1) := by decide +kernel
theorem dX1_lay_33 : decode cX1_lay 33 = .ok (.iload_n 3, 1) := by decide +kernel
theorem dX1_lay_34 : decode cX1_lay 34 = .ok (.iastore, 1) := by decide +kernel
theorem dX1_lay_35 : decode cX1_lay 35 = .ok (.aload_n 0, 1) := by decide +kernel
theorem dX1_lay_36 : decode cX1_lay 36 = .ok (.iload 5, 2) := by decide +kernel
theorem dX1_lay_38 : decode cX1_lay 38 = .ok (.invokevirtual 99, 3) := by decide +kernel
theorem dX1_lay_41 : decode cX1_lay 41 = .ok (.ireturn, 1) := by decide +kernel
theorem dX1_at_0 : decode cX1_at 0 = .ok (.aload_n 0, 1) := by decide +kernel
theorem dX1_at_1 : decode cX1_at 1 = .ok (.iload_n 1, 1) := by decide +kernel
theorem dX1_at_2 : decode cX1_at 2 = .ok (.iload_n 2, 1) := by decide +kernel
theorem dX1_at_3 : decode cX1_at 3 = .ok (.invokevirtual 95, 3) := by decide +kernel
theorem dX1_at_6 : decode cX1_at 6 = .ok (.istore_n 3, 1) := by decide +kernel
theorem dX1_at_7 : decode cX1_at 7 = .ok (.iload_n 3, 1) := by decide +kernel
theorem dX1_at_8 : decode cX1_at 8 = .ok (.ifCond .eq 5, 3) := by decide +kernel
theorem dX1_at_11 : decode cX1_at 11 = .ok (.iload_n 3, 1) := by decide +kernel
theorem dX1_at_12 : decode cX1_at 12 = .ok (.ireturn, 1) := by decide +kernel
theorem dX1_at_13 : decode cX1_at 13 = .ok (.aload_n 0, 1) := by decide +kernel
theorem dX1_at_14 : decode cX1_at 14 = .ok (.aload_n 0, 1) := by decide +kernel
theorem dX1_at_15 : decode cX1_at 15 = .ok (.getfield 11, 3) := by decide +kernel
theorem dX1_at_18 : decode cX1_at 18 = .ok (.iload_n 1, 1) := by decide +kernel
theorem dX1_at_19 : decode cX1_at 19 = .ok (.aaload, 1) := by decide +kernel
theorem dX1_at_20 : decode cX1_at 20 = .ok (.iload_n 2, 1) := by decide +kernel
theorem dX1_at_21 : decode cX1_at 21 = .ok (.iaload, 1) := by decide +kernel
theorem dX1_at_22 : decode cX1_at 22 = .ok (.invokevirtual 99, 3) := by decide +kernel
theorem dX1_at_25 : decode cX1_at 25 = .ok (.ireturn, 1) := by decide +kernel
theorem dX1_tear_0 : decode cX1_tear 0 = .ok (.iload_n 1, 1) := by decide +kernel
theorem dX1_tear_1 : decode cX1_tear 1 = .ok (.invokestatic 83, 3) := by decide +kernel
theorem dX1_tear_4 : decode cX1_tear 4 = .ok (.ifCond .ne 5, 3) := by decide +kernel
theorem dX1_tear_7 : decode cX1_tear 7 = .ok (.iconst (-1), 1) := by decide +kernel
theorem dX1_tear_8 : decode cX1_tear 8 = .ok (.ireturn, 1) := by decide +kernel
theorem dX1_tear_9 : decode cX1_tear 9 = .ok (.aload_n 0, 1) := by decide +kernel
theorem dX1_tear_10 : decode cX1_tear 10 = .ok (.getfield 14, 3) := by decide +kernel
theorem dX1_tear_13 : decode cX1_tear 13 = .ok (.iload_n 1, 1) := by decide +kernel
theorem dX1_tear_14 : decode cX1_tear 14 = .ok (.iaload, 1) := by decide +kernel
theorem dX1_tear_15 : decode cX1_tear 15 = .ok (.ifCond .ge 9, 3) := by decide +kernel
theorem dX1_tear_18 : decode cX1_tear 18 = .ok (.aload_n 0, 1) := by decide +kernel
theorem dX1_tear_19 : decode cX1_tear 19 = .ok (.iconst 1, 1) := by decide +kernel
theorem dX1_tear_20 : decode cX1_tear 20 = .ok (.invokevirtual 87, 3) := by decide +kernel
theorem dX1_tear_23 : decode cX1_tear 23 = .ok (.ireturn, 1) := by decide +kernel
theorem dX1_tear_24 : decode cX1_tear 24 = .ok (.aload_n 0, 1) := by decide +kernel
theorem dX1_tear_25 : decode cX1_tear 25 = .ok (.getfield 14, 3) := by decide +kernel
theorem dX1_tear_28 : decode cX1_tear 28 = .ok (.iload_n 1, 1) := by decide +kernel
theorem dX1_tear_29 : decode cX1_tear 29 = .ok (.iconst (-1), 1) := by decide +kernel
theorem dX1_tear_30 : decode cX1_tear 30 = .ok (.iastore, 1) := by decide +kernel
theorem dX1_tear_31 : decode cX1_tear 31 = .ok (.iconst 1, 1) := by decide +kernel
theorem dX1_tear_32 : decode cX1_tear 32 = .ok (.ireturn, 1) := by decide +kernel
theorem dX1_copy_0 : decode cX1_copy 0 = .ok (.iload_n 1, 1) := by decide +kernel
theorem dX1_copy_1 : decode cX1_copy 1 = .ok (.invokestatic 83, 3) := by decide +kernel
theorem dX1_copy_4 : decode cX1_copy 4 = .ok (.ifCond .eq 10, 3) := by decide +kernel
theorem dX1_copy_7 : decode cX1_copy 7 = .ok (.iload_n 3, 1) := by decide +kernel
theorem dX1_copy_8 : decode cX1_copy 8 = .ok (.invokestatic 83, 3) := by decide +kernel
theorem dX1_copy_11 : decode cX1_copy 11 = .ok (.ifCond .ne 5, 3) := by decide +kernel
theorem dX1_copy_14 : decode cX1_copy 14 = .ok (.iconst (-1), 1) := by decide +kernel
theorem dX1_copy_15 : decode cX1_copy 15 = .ok (.ireturn, 1) := by decide +kernel
theorem dX1_copy_16 : decode cX1_copy 16 = .ok (.iload 5, 2) := by decide +kernel
theorem dX1_copy_18 : decode cX1_copy 18 = .ok (.ifCond .ge 9, 3) := by decide +kernel
theorem dX1_copy_21 : decode cX1_copy 21 = .ok (.aload_n 0, 1) := by decide +kernel
theorem dX1_copy_22 : decode cX1_copy 22 = .ok (.iconst 5, 1) := by decide +kernel
theorem dX1_copy_23 : decode cX1_copy 23 = .ok (.invokevirtual 87, 3) := by decide +kernel
theorem dX1_copy_26 : decode cX1_copy 26 = .ok (.ireturn, 1) := by decide +kernel
theorem dX1_copy_27 : decode cX1_copy 27 = .ok (.aload_n 0, 1) := by decide +kernel
theorem dX1_copy_28 : decode cX1_copy 28 = .ok (.getfield 14, 3) := by decide +kernel
theorem dX1_copy_31 : decode cX1_copy 31 = .ok (.iload_n 1, 1) := by decide +kernel
theorem dX1_copy_32 : decode cX1_copy 32 = .ok (.iaload, 1) := by decide +kernel
theorem dX1_copy_33 : decode cX1_copy 33 = .ok (.ifCond .lt 12, 3) := by decide +kernel
theorem dX1_copy_36 : decode cX1_copy 36 = .ok (.aload_n 0, 1) := by decide +kernel
theorem dX1_copy_37 : decode cX1_copy 37 = .ok (.getfield 14, 3) := by decide +kernel
theorem dX1_copy_40 : decode cX1_copy 40 = .ok (.iload_n 3, 1) := by decide +kernel
theorem dX1_copy_41 : decode cX1_copy 41 = .ok (.iaload, 1) := by decide +kernel
theorem dX1_copy_42 : decode cX1_copy 42 = .ok (.ifCond .ge 9, 3) := by decide +kernel
theorem dX1_copy_45 : decode cX1_copy 45 = .ok (.aload_n 0, 1) := by decide +kernel
theorem dX1_copy_46 : decode cX1_copy 46 = .ok (.iconst 1, 1) := by decide +kernel
theorem dX1_copy_47 : decode cX1_copy 47 = .ok (.invokevirtual 87, 3) := by decide +kernel
theorem dX1_copy_50 : decode cX1_copy 50 = .ok (.ireturn, 1) := by decide +kernel
theorem dX1_copy_51 : decode cX1_copy 51 = .ok (.iload_n 2, 1) := by decide +kernel
theorem dX1_copy_52 : decode cX1_copy 52 = .ok (.ifCond .lt 35, 3) := by decide +kernel
theorem dX1_copy_55 : decode cX1_copy 55 = .ok (.iload_n 2, 1) := by decide +kernel
theorem dX1_copy_56 : decode cX1_copy 56 = .ok (.aload_n 0, 1) := by decide +kernel
theorem dX1_copy_57 : decode cX1_copy 57 = .ok (.getfield 14, 3) := by decide +kernel
theorem dX1_copy_60 : decode cX1_copy 60 = .ok (.iload_n 1, 1) := by decide +kernel
theorem dX1_copy_61 : decode cX1_copy 61 = .ok (.iaload, 1) := by decide +kernel
theorem dX1_copy_62 : decode cX1_copy 62 = .ok (.iload 5, 2) := by decide +kernel
theorem dX1_copy_64 : decode cX1_copy 64 = .ok (.isub, 1) := by decide +kernel
theorem dX1_copy_65 : decode cX1_copy 65 = .ok (.if_icmp .gt 22, 3) := by decide +kernel
theorem dX1_copy_68 : decode cX1_copy 68 = .ok (.iload 4, 2) := by decide +kernel
theorem dX1_copy_70 : decode cX1_copy 70 = .ok (.ifCond .lt 17, 3) := by decide +kernel
theorem dX1_copy_73 : decode cX1_copy 73 = .ok (.iload 4, 2) := by decide +kernel
theorem dX1_copy_75 : decode cX1_copy 75 = .ok (.aload_n 0, 1) := by decide +kernel
theorem dX1_copy_76 : decode cX1_copy 76 = .ok (.getfield 14, 3) := by decide +kernel
theorem dX1_copy_79 : decode cX1_copy 79 = .ok (.iload_n 3, 1) := by decide +kernel
theorem dX1_copy_80 : decode cX1_copy 80 = .ok (.iaload, 1) := by decide +kernel
theorem dX1_copy_81 : decode cX1_copy 81 = .ok (.iload 5, 2) := by decide +kernel
theorem dX1_copy_83 : decode cX1_copy 83 = .ok (.isub, 1) := by decide +kernel
theorem dX1_copy_84 : decode cX1_copy 84 = .ok (.if_icmp .le 9, 3) := by decide +kernel
theorem dX1_copy_87 : decode cX1_copy 87 = .ok (.aload_n 0, 1) := by decide +kernel
theorem dX1_copy_88 : decode cX1_copy 88 = .ok (.iconst 2, 1) := by decide +kernel
theorem dX1_copy_89 : decode cX1_copy 89 = .ok (.invokevirtual 87, 3) := by decide +kernel
theorem dX1_copy_92 : decode cX1_copy 92 = .ok (.ireturn, 1) := by decide +kernel
theorem dX1_copy_93 : decode cX1_copy 93 = .ok (.aload_n 0, 1) := by decide +kernel
theorem dX1_copy_94 : decode cX1_copy 94 = .ok (.getfield 11, 3) := by decide +kernel
theorem dX1_copy_97 : decode cX1_copy 97 = .ok (.iload_n 1, 1) := by decide +kernel
theorem dX1_copy_98 : decode cX1_copy 98 = .ok (.aaload, 1) := by decide +kernel
theorem dX1_copy_99 : decode cX1_copy 99 = .ok (.iload_n 2, 1) := by decide +kernel
theorem dX1_copy_100 : decode cX1_copy 100 = .ok (.aload_n 0, 1) := by decide +kernel
theorem dX1_copy_101 : decode cX1_copy 101 = .ok (.getfield 11, 3) := by decide +kernel
theorem dX1_copy_104 : decode cX1_copy 104 = .ok (.iload_n 3, 1) := by decide +kernel
theorem dX1_copy_105 : decode cX1_copy 105 = .ok (.aaload, 1) := by decide +kernel
theorem dX1_copy_106 : decode cX1_copy 106 = .ok (.iload 4, 2) := by decide +kernel
theorem dX1_copy_108 : decode cX1_copy 108 = .ok (.iload 5, 2) := by decide +kernel
theorem dX1_copy_110 : decode cX1_copy 110 = .ok (.invokestatic 102, 3) := by decide +kernel
theorem dX1_copy_113 : decode cX1_copy 113 = .ok (.iconst 1, 1) := by decide +kernel
theorem dX1_copy_114 : decode cX1_copy 114 = .ok (.ireturn, 1) := by decide +kernel
theorem dX1_mean_0 : decode cX1_mean 0 = .ok (.iload_n 1, 1) := by decide +kernel
theorem dX1_mean_1 : decode cX1_mean 1 = .ok (.invokestatic 83, 3) := by decide +kernel
theorem dX1_mean_4 : decode cX1_mean 4 = .ok (.ifCond .ne 5, 3) := by decide +kernel
theorem dX1_mean_7 : decode cX1_mean 7 = .ok (.iconst (-1), 1) := by decide +kernel
theorem dX1_mean_8 : decode cX1_mean 8 = .ok (.ireturn, 1) := by decide +kernel
theorem dX1_mean_9 : decode cX1_mean 9 = .ok (.aload_n 0, 1) := by decide +kernel
theorem dX1_mean_10 : decode cX1_mean 10 = .ok (.getfield 14, 3) := by decide +kernel
theorem dX1_mean_13 : decode cX1_mean 13 = .ok (.iload_n 1, 1) := by decide +kernel
theorem dX1_mean_14 : decode cX1_mean 14 = .ok (.iaload, 1) := by decide +kernel
theorem dX1_mean_15 : decode cX1_mean 15 = .ok (.istore_n 2, 1) := by decide +kernel
theorem dX1_mean_16 : decode cX1_mean 16 = .ok (.iload_n 2, 1) := by decide +kernel
theorem dX1_mean_17 : decode cX1_mean 17 = .ok (.ifCond .ge 9, 3) := by decide +kernel
theorem dX1_mean_20 : decode cX1_mean 20 = .ok (.aload_n 0, 1) := by decide +kernel
theorem dX1_mean_21 : decode cX1_mean 21 = .ok (.iconst 1, 1) := by decide +kernel
theorem dX1_mean_22 : decode cX1_mean 22 = .ok (.invokevirtual 87, 3) := by decide +kernel
theorem dX1_mean_25 : decode cX1_mean 25 = .ok (.ireturn, 1) := by decide +kernel
theorem dX1_mean_26 : decode cX1_mean 26 = .ok (.iload_n 2, 1) := by decide +kernel
theorem dX1_mean_27 : decode cX1_mean 27 = .ok (.ifCond .ne 9, 3) := by decide +kernel
theorem dX1_mean_30 : decode cX1_mean 30 = .ok (.aload_n 0, 1) := by decide +kernel
theorem dX1_mean_31 : decode cX1_mean 31 = .ok (.iconst 4, 1) := by decide +kernel
theorem dX1_mean_32 : decode cX1_mean 32 = .ok (.invokevirtual 87, 3) := by decide +kernel
theorem dX1_mean_35 : decode cX1_mean 35 = .ok (.ireturn, 1) := by decide +kernel
theorem dX1_mean_36 : decode cX1_mean 36 = .ok (.lconst 0, 1) := by decide +kernel
theorem dX1_mean_37 : decode cX1_mean 37 = .ok (.lstore_n 3, 1) := by decide +kernel
theorem dX1_mean_38 : decode cX1_mean 38 = .ok (.iconst 0, 1) := by decide +kernel
theorem dX1_mean_39 : decode cX1_mean 39 = .ok (.istore 5, 2) := by decide +kernel
theorem dX1_mean_41 : decode cX1_mean 41 = .ok (.iload 5, 2) := by decide +kernel
theorem dX1_mean_43 : decode cX1_mean 43 = .ok (.iload_n 2, 1) := by decide +kernel
theorem dX1_mean_44 : decode cX1_mean 44 = .ok (.if_icmp .ge 22, 3) := by decide +kernel
theorem dX1_mean_47 : decode cX1_mean 47 = .ok (.lload_n 3, 1) := by decide +kernel
theorem dX1_mean_48 : decode cX1_mean 48 = .ok (.aload_n 0, 1) := by decide +kernel
theorem dX1_mean_49 : decode cX1_mean 49 = .ok (.getfield 11, 3) := by decide +kernel
theorem dX1_mean_52 : decode cX1_mean 52 = .ok (.iload_n 1, 1) := by decide +kernel
theorem dX1_mean_53 : decode cX1_mean 53 = .ok (.aaload, 1) := by decide +kernel
theorem dX1_mean_54 : decode cX1_mean 54 = .ok (.iload 5, 2) := by decide +kernel
theorem dX1_mean_56 : decode cX1_mean 56 = .ok (.iaload, 1) := by decide +kernel
theorem dX1_mean_57 : decode cX1_mean 57 = .ok (.i2l, 1) := by decide +kernel
theorem dX1_mean_58 : decode cX1_mean 58 = .ok (.ladd, 1) := by decide +kernel
theorem dX1_mean_59 : decode cX1_mean 59 = .ok (.lstore_n 3, 1) := by decide +kernel
theorem dX1_mean_60 : decode cX1_mean 60 = .ok (.iinc 5 1, 3) := by decide +kernel
theorem dX1_mean_63 : decode cX1_mean 63 = .ok (.goto (-22), 3) := by decide +kernel
theorem dX1_mean_66 : decode cX1_mean 66 = .ok (.aload_n 0, 1) := by decide +kernel
theorem dX1_mean_67 : decode cX1_mean 67 = .ok (.lload_n 3, 1) := by decide +kernel
theorem dX1_mean_68 : decode cX1_mean 68 = .ok (.iload_n 2, 1) := by decide +kernel
theorem dX1_mean_69 : decode cX1_mean 69 = .ok (.i2l, 1) := by decide +kernel
theorem dX1_mean_70 : decode cX1_mean 70 = .ok (.ldiv, 1) := by decide +kernel
theorem dX1_mean_71 : decode cX1_mean 71 = .ok (.l2i, 1) := by decide +kernel
theorem dX1_mean_72 : decode cX1_mean 72 = .ok (.invokevirtual 99, 3) := by decide +kernel
theorem dX1_mean_75 : decode cX1_mean 75 = .ok (.ireturn, 1) := by decide +kernel
theorem dX1_isText_0 : decode cX1_isText 0 = .ok (.iload_n 0, 1) := by decide +kernel
theorem dX1_isText_1 : decode cX1_isText 1 = .ok (.ifCond .lt 12, 3) := by decide +kernel
theorem dX1_isText_4 : decode cX1_isText 4 = .ok (.iload_n 0, 1) := by decide +kernel
theorem dX1_isText_5 : decode cX1_isText 5 = .ok (.iconst 4, 1) := by decide +kernel
theorem dX1_isText_6 : decode cX1_isText 6 = .ok (.if_icmp .ge 7, 3) := by decide +kernel
theorem dX1_isText_9 : decode cX1_isText 9 = .ok (.iconst 1, 1) := by decide +kernel
theorem dX1_isText_10 : decode cX1_isText 10 = .ok (.goto 4, 3) := by decide +kernel
theorem dX1_isText_13 : decode cX1_isText 13 = .ok (.iconst 0, 1) := by decide +kernel
theorem dX1_isText_14 : decode cX1_isText 14 = .ok (.ireturn, 1) := by decide +kernel
theorem dX1_text_0 : decode cX1_text 0 = .ok (.iload_n 1, 1) := by decide +kernel
theorem dX1_text_1 : decode cX1_text 1 = .ok (.invokestatic 108, 3) := by decide +kernel
theorem dX1_text_4 : decode cX1_text 4 = .ok (.ifCond .eq 9, 3) := by decide +kernel
theorem dX1_text_7 : decode cX1_text 7 = .ok (.iload_n 2, 1) := by decide +kernel
theorem dX1_text_8 : decode cX1_text 8 = .ok (.bipush 60, 2) := by decide +kernel
theorem dX1_text_10 : decode cX1_text 10 = .ok (.if_icmp .le 5, 3) := by decide +kernel
theorem dX1_text_13 : decode cX1_text 13 = .ok (.iconst (-1), 1) := by decide +kernel
theorem dX1_text_14 : decode cX1_text 14 = .ok (.ireturn, 1) := by decide +kernel
theorem dX1_text_15 : decode cX1_text 15 = .ok (.iload_n 2, 1) := by decide +kernel
theorem dX1_text_16 : decode cX1_text 16 = .ok (.ifCond .ge 9, 3) := by decide +kernel
theorem dX1_text_19 : decode cX1_text 19 = .ok (.aload_n 0, 1) := by decide +kernel
theorem dX1_text_20 : decode cX1_text 20 = .ok (.iconst 5, 1) := by decide +kernel
theorem dX1_text_21 : decode cX1_text 21 = .ok (.invokevirtual 87, 3) := by decide +kernel
theorem dX1_text_24 : decode cX1_text 24 = .ok (.ireturn, 1) := by decide +kernel
theorem dX1_text_25 : decode cX1_text 25 = .ok (.aload_n 0, 1) := by decide +kernel
theorem dX1_text_26 : decode cX1_text 26 = .ok (.getfield 23, 3) := by decide +kernel
theorem dX1_text_29 : decode cX1_text 29 = .ok (.iload_n 1, 1) := by decide +kernel
theorem dX1_text_30 : decode cX1_text 30 = .ok (.iload_n 2, 1) := by decide +kernel
theorem dX1_text_31 : decode cX1_text 31 = .ok (.iastore, 1) := by decide +kernel
theorem dX1_text_32 : decode cX1_text 32 = .ok (.aload_n 0, 1) := by decide +kernel
theorem dX1_text_33 : decode cX1_text 33 = .ok (.getfield 20, 3) := by decide +kernel
theorem dX1_text_36 : decode cX1_text 36 = .ok (.iload_n 1, 1) := by decide +kernel
theorem dX1_text_37 : decode cX1_text 37 = .ok (.aaload, 1) := by decide +kernel
theorem dX1_text_38 : decode cX1_text 38 = .ok (.bipush 32, 2) := by decide +kernel
theorem dX1_text_40 : decode cX1_text 40 = .ok (.invokestatic 111, 3) := by decide +kernel
theorem dX1_text_43 : decode cX1_text 43 = .ok (.iload_n 2, 1) := by decide +kernel
theorem dX1_text_44 : decode cX1_text 44 = .ok (.ireturn, 1) := by decide +kernel
theorem mt_X0_howManyBelow : (Cond.instanceMethod yX0_howManyBelow ∈ gd_tbl ∧ Cond.selects yX0_howManyBelow.cls yX0_howManyBelow yX0_howManyBelow ∈ gd_tbl) ∧ Cond.initialized yX0_howManyBelow.cls ∈ gd_tbl ∧ Cond.code yX0_howManyBelow cX0_howManyBelow 4 (some .int) ∈ gd_tbl := ⟨⟨in_gd (i := 350) (by decide +kernel) rfl, in_gd (i := 14) (by decide +kernel) rfl⟩, in_gd (i := 85) (by decide +kernel) rfl, in_gd (i := 351) (by decide +kernel) rfl⟩
theorem yo_X0_howManyBelow : yOk yX0_howManyBelow 1 := ⟨by decide, by decide, by decide +kernel⟩
theorem l_X0_81 : mlV RX0 81 yX0_howManyBelow cX0_howManyBelow 4 (some .int) := ⟨in_gd (i := 348) (by decide +kernel) rfl, mt_X0_howManyBelow⟩
theorem l_X0_84 : mlN RX0 84 yX1_betBoldness cX1_betBoldness 1 (some .int) "DareFord" := ⟨in_ns (i := 352) (by decide +kernel) rfl, mt_X1_betBoldness⟩
theorem l_X0_87 : mlN RX0 87 yX1_fearfulBoldness cX1_fearfulBoldness 1 (some .int) "DareFord" := ⟨in_ns (i := 353) (by decide +kernel) rfl, mt_X1_fearfulBoldness⟩
theorem l_X0_90 : mlN RX0 90 yX1_isOf cX1_isOf 2 (some .boolean) "DareFord" := ⟨in_ns (i := 588) (by decide +kernel) rfl, mt_X1_isOf⟩
theorem fl_X1_65 : FLk RX1 65 1 15 := Or.inl (in_gd (i := 157) (by decide +kernel) rfl)
theorem mt_X1_isWithin : Cond.static yX1_isWithin ∈ gd_tbl ∧ Cond.initialized yX1_isWithin.cls ∈ gd_tbl ∧ Cond.code yX1_isWithin cX1_isWithin 3 (some .boolean) ∈ gd_tbl := ⟨in_gd (i := 212) (by decide +kernel) rfl, in_gd (i := 84) (by decide +kernel) rfl, in_gd (i := 213) (by decide +kernel) rfl⟩
theorem yo_X1_isWithin : yOk yX1_isWithin 3 := ⟨by decide, by decide, by decide +kernel⟩
theorem l_X1_128 : mlS RX1 128 yX1_isWithin cX1_isWithin 3 (some .boolean) := ⟨in_gd (i := 211) (by decide +kernel) rfl, mt_X1_isWithin⟩
theorem fl_X1_62 : FLk RX1 62 1 14 := Or.inl (in_gd (i := 156) (by decide +kernel) rfl)
theorem fl_X1_14 : FLk RX1 14 1 1 := Or.inl (in_gd (i := 143) (by decide +kernel) rfl)
theorem fl_X1_11 : FLk RX1 11 1 0 := Or.inl (in_gd (i := 142) (by decide +kernel) rfl)
theorem jl_X1_77 : mlS RX1 77 yJ7_fill_53178 cJ7_fill_53178 4 none := ⟨in_gd (i := 139) (by decide +kernel) rfl, in_gd (i := 140) (by decide +kernel) rfl, in_gd (i := 86) (by decide +kernel) rfl, in_gd (i := 141) (by decide +kernel) rfl⟩
theorem mt_X1_isRow : Cond.static yX1_isRow ∈ gd_tbl ∧ Cond.initialized yX1_isRow.cls ∈ gd_tbl ∧ Cond.code yX1_isRow cX1_isRow 1 (some .boolean) ∈ gd_tbl := ⟨in_gd (i := 205) (by decide +kernel) rfl, in_gd (i := 84) (by decide +kernel) rfl, in_gd (i := 206) (by decide +kernel) rfl⟩
theorem yo_X1_isRow : yOk yX1_isRow 1 := ⟨by decide, by decide, by decide +kernel⟩
theorem l_X1_83 : mlS RX1 83 yX1_isRow cX1_isRow 1 (some .boolean) := ⟨in_gd (i := 204) (by decide +kernel) rfl, mt_X1_isRow⟩
theorem mt_X1_layAnew : (Cond.instanceMethod yX1_layAnew ∈ gd_tbl ∧ Cond.selects yX1_layAnew.cls yX1_layAnew yX1_layAnew ∈ gd_tbl) ∧ Cond.initialized yX1_layAnew.cls ∈ gd_tbl ∧ Cond.code yX1_layAnew cX1_layAnew 3 (none) ∈ gd_tbl := ⟨⟨in_gd (i := 216) (by decide +kernel) rfl, in_gd (i := 1) (by decide +kernel) rfl⟩, in_gd (i := 84) (by decide +kernel) rfl, in_gd (i := 217) (by decide +kernel) rfl⟩
theorem yo_X1_layAnew : yOk yX1_layAnew 2 := ⟨by decide, by decide, by decide +kernel⟩
theorem l_X1_91 : mlV RX1 91 yX1_layAnew cX1_layAnew 3 (none) := ⟨in_gd (i := 214) (by decide +kernel) rfl, mt_X1_layAnew⟩
theorem mt_X1_found : (Cond.instanceMethod yX1_found ∈ gd_tbl ∧ Cond.selects yX1_found.cls yX1_found yX1_found ∈ gd_tbl) ∧ Cond.initialized yX1_found.cls ∈ gd_tbl ∧ Cond.code yX1_found cX1_found 2 (some .int) ∈ gd_tbl := ⟨⟨in_gd (i := 209) (by decide +kernel) rfl, in_gd (i := 0) (by decide +kernel) rfl⟩, in_gd (i := 84) (by decide +kernel) rfl, in_gd (i := 210) (by decide +kernel) rfl⟩
theorem yo_X1_found : yOk yX1_found 1 := ⟨by decide, by decide, by decide +kernel⟩
theorem l_X1_87 : mlV RX1 87 yX1_found cX1_found 2 (some .int) := ⟨in_gd (i := 207) (by decide +kernel) rfl, mt_X1_found⟩
theorem fl_X1_52 : FLk RX1 52 1 11 := Or.inl (in_gd (i := 153) (by decide +kernel) rfl)
theorem mt_X1_refusalOfPlace : (Cond.instanceMethod yX1_refusalOfPlace ∈ gd_tbl ∧ Cond.selects yX1_refusalOfPlace.cls yX1_refusalOfPlace yX1_refusalOfPlace ∈ gd_tbl) ∧ Cond.initialized yX1_refusalOfPlace.cls ∈ gd_tbl ∧ Cond.code yX1_refusalOfPlace cX1_refusalOfPlace 3 (some .int) ∈ gd_tbl := ⟨⟨in_gd (i := 224) (by decide +kernel) rfl, in_gd (i := 2) (by decide +kernel) rfl⟩, in_gd (i := 84) (by decide +kernel) rfl, in_gd (i := 225) (by decide +kernel) rfl⟩
theorem yo_X1_refusalOfPlace : yOk yX1_refusalOfPlace 2 := ⟨by decide, by decide, by decide +kernel⟩
theorem l_X1_95 : mlV RX1 95 yX1_refusalOfPlace cX1_refusalOfPlace 3 (some .int) := ⟨in_gd (i := 222) (by decide +kernel) rfl, mt_X1_refusalOfPlace⟩
theorem mt_X1_tell : (Cond.instanceMethod yX1_tell ∈ gd_tbl ∧ Cond.selects yX1_tell.cls yX1_tell yX1_tell ∈ gd_tbl) ∧ Cond.initialized yX1_tell.cls ∈ gd_tbl ∧ Cond.code yX1_tell cX1_tell 2 (some .int) ∈ gd_tbl := ⟨⟨in_gd (i := 228) (by decide +kernel) rfl, in_gd (i := 3) (by decide +kernel) rfl⟩, in_gd (i := 84) (by decide +kernel) rfl, in_gd (i := 229) (by decide +kernel) rfl⟩
theorem yo_X1_tell : yOk yX1_tell 1 := ⟨by decide, by decide, by decide +kernel⟩
theorem l_X1_99 : mlV RX1 99 yX1_tell cX1_tell 2 (some .int) := ⟨in_gd (i := 226) (by decide +kernel) rfl, mt_X1_tell⟩
theorem jl_X1_102 : Cond.methodLink RX1 102 arraycopyName ∈ gd_tbl := in_gd (i := 242) (by decide +kernel) rfl
theorem fl_X1_23 : FLk RX1 23 1 3 := Or.inl (in_gd (i := 145) (by decide +kernel) rfl)
theorem fl_X1_20 : FLk RX1 20 1 2 := Or.inl (in_gd (i := 144) (by decide +kernel) rfl)
theorem mt_X1_isText : Cond.static yX1_isText ∈ gd_tbl ∧ Cond.initialized yX1_isText.cls ∈ gd_tbl ∧ Cond.code yX1_isText cX1_isText 1 (some .boolean) ∈ gd_tbl := ⟨in_gd (i := 254) (by decide +kernel) rfl, in_gd (i := 84) (by decide +kernel) rfl, in_gd (i := 255) (by decide +kernel) rfl⟩
theorem yo_X1_isText : yOk yX1_isText 1 := ⟨by decide, by decide, by decide +kernel⟩
theorem l_X1_108 : mlS RX1 108 yX1_isText cX1_isText 1 (some .boolean) := ⟨in_gd (i := 253) (by decide +kernel) rfl, mt_X1_isText⟩
theorem jl_X1_111 : mlS RX1 111 yJ7_fill_031fb cJ7_fill_031fb 4 none := ⟨in_gd (i := 256) (by decide +kernel) rfl, in_gd (i := 257) (by decide +kernel) rfl, in_gd (i := 86) (by decide +kernel) rfl, in_gd (i := 258) (by decide +kernel) rfl⟩
def fX0_markOf (b : Nat) (p1 : Int) (p2 : Int) (μ : Mem) : Option Int :=
  if p2 = 1 then
    grd (0 ≤ p1 ∧ p1 < 6) <|
    (fX0_farOf b p1 μ).bind fun x2 =>
    (fX1_boldness 1 (μ (b + 3) (p1).toNat) (w32 ((μ b 6) + 1)) x2 μ).bind fun x3 =>
    some x3
  else
    if p2 = 2 then
      grd (0 ≤ p1 ∧ p1 < 6) <|
      some (mmax 0 (w32 (5 - (μ (b + 3) (p1).toNat))))
    else
      if p2 = 3 then
        grd (0 ≤ p1 ∧ p1 < 6) <|
        (fX0_howManyBelow b (μ (b + 3) (p1).toNat) μ).bind fun x6 =>
        some x6
      else
        if p2 = 4 then
          (fX0_farOf b p1 μ).bind fun x8 =>
          (fX1_betBoldness x8 μ).bind fun x9 =>
          some x9
        else
          grd (0 ≤ p1 ∧ p1 < 6) <|
          (fX1_fearfulBoldness (μ (b + 3) (p1).toNat) μ).bind fun x10 =>
          some x10
theorem K_X0_markOf {b : Nat} (hb : isBk b) (p1 : Int) (p2 : Int)  (μ : Mem) : Con yX0_markOf cX0_markOf 3 (some .int) 4 [.inr (.inr b), .inl p1, .inl p2] μ (fX0_markOf b p1 p2 μ) (rI μ) := by
  refine con_of (own := RX0) (by decide) rfl (Nat.le_of_ble_eq_true rfl) ?_
  show Sim cX0_markOf 3 RX0 (4) (some .int) (rI μ) 0 [(0, .inr (.inr b)), (1, .inl p1), (2, .inl p2)] [] μ (fX0_markOf b p1 p2 μ)
  unfold fX0_markOf
  refine S_iload_n dX0_markOf_0 rfl ?_
  refine S_if (fun h1 => ?_) (fun h1 => ?_)
  · refine S_tsIn (n := 1) (tgt := 32) dX0_markOf_1 h1 (by decide) (by decide) rfl (by decide) ?_
    refine S_iconst dX0_markOf_32 rfl ?_
    refine S_aload_n dX0_markOf_33 rfl ?_
    refine S_getR (c1 := (b + 3)) dX0_markOf_34 (kd_bk hb) fl_X0_18 rfl rfl rfl ?_
    refine S_iload_n dX0_markOf_37 rfl ?_
    refine S_iald (N := 6) dX0_markOf_38 (kd_ba (k := 2) hb rfl (by decide)) (bk_lt (k := 3) hb (by decide)) rfl ?_
    refine S_aload_n dX0_markOf_39 rfl ?_
    refine S_getI dX0_markOf_40 (kd_bk hb) fl_X0_31 rfl rfl ?_
    refine S_iconst dX0_markOf_43 rfl ?_
    refine S_iadd dX0_markOf_44 ?_
    refine S_aload_n dX0_markOf_45 rfl ?_
    refine S_iload_n dX0_markOf_46 rfl ?_
    refine S_callV_I dX0_markOf_47 [.inl p1] (K_X0_farOf hb p1 μ) l_X0_46 yo_X0_farOf (kd_bk hb) rfl rfl rfl rfl (fun x2 => ?_)
    refine S_callN_I dX0_markOf_50 [.inl 1, .inl (μ (b + 3) (p1).toNat), .inl (w32 ((μ b 6) + 1)), .inl x2] (K_X1_boldness 1 (μ (b + 3) (p1).toNat) (w32 ((μ b 6) + 1)) x2 μ) l_X0_49 yo_X1_boldness rfl rfl rfl (fun x3 => ?_)
    exact S_iret dX0_markOf_53 rfl rfl
  · refine S_if (fun h4 => ?_) (fun h4 => ?_)
    · refine S_tsIn (n := 2) (tgt := 54) dX0_markOf_1 h4 (by decide) (by decide) rfl (by decide) ?_
      refine S_iconst dX0_markOf_54 rfl ?_
      refine S_iconst dX0_markOf_55 rfl ?_
      refine S_aload_n dX0_markOf_56 rfl ?_
      refine S_getR (c1 := (b + 3)) dX0_markOf_57 (kd_bk hb) fl_X0_18 rfl rfl rfl ?_
      refine S_iload_n dX0_markOf_60 rfl ?_
      refine S_iald (N := 6) dX0_markOf_61 (kd_ba (k := 2) hb rfl (by decide)) (bk_lt (k := 3) hb (by decide)) rfl ?_
      refine S_isub dX0_markOf_62 ?_
      refine S_mmax dX0_markOf_63 jl_X0_67 jm_max jm_M jc_max rfl rfl ?_
      exact S_iret dX0_markOf_66 rfl rfl
    · refine S_if (fun h5 => ?_) (fun h5 => ?_)
      · refine S_tsIn (n := 3) (tgt := 67) dX0_markOf_1 h5 (by decide) (by decide) rfl (by decide) ?_
        refine S_aload_n dX0_markOf_67 rfl ?_
        refine S_aload_n dX0_markOf_68 rfl ?_
        refine S_getR (c1 := (b + 3)) dX0_markOf_69 (kd_bk hb) fl_X0_18 rfl rfl rfl ?_
        refine S_iload_n dX0_markOf_72 rfl ?_
        refine S_iald (N := 6) dX0_markOf_73 (kd_ba (k := 2) hb rfl (by decide)) (bk_lt (k := 3) hb (by decide)) rfl ?_
        refine S_callV_I dX0_markOf_74 [.inl (μ (b + 3) (p1).toNat)] (K_X0_howManyBelow hb (μ (b + 3) (p1).toNat) μ) l_X0_81 yo_X0_howManyBelow (kd_bk hb) rfl rfl rfl rfl (fun x6 => ?_)
        exact S_iret dX0_markOf_77 rfl rfl
      · refine S_if (fun h7 => ?_) (fun h7 => ?_)
        · refine S_tsIn (n := 4) (tgt := 78) dX0_markOf_1 h7 (by decide) (by decide) rfl (by decide) ?_
          refine S_aload_n dX0_markOf_78 rfl ?_
          refine S_iload_n dX0_markOf_79 rfl ?_
          refine S_callV_I dX0_markOf_80 [.inl p1] (K_X0_farOf hb p1 μ) l_X0_46 yo_X0_farOf (kd_bk hb) rfl rfl rfl rfl (fun x8 => ?_)
          refine S_callN_I dX0_markOf_83 [.inl x8] (K_X1_betBoldness x8 μ) l_X0_84 yo_X1_betBoldness rfl rfl rfl (fun x9 => ?_)
          exact S_iret dX0_markOf_86 rfl rfl
        · refine S_tsD (tgt := 87) [1, 2, 3, 4] dX0_markOf_1 (by decide) (by decide) (by intro v9 h9 e9; simp only [List.mem_cons, List.not_mem_nil, or_false] at h9; omega) ?_
          refine S_aload_n dX0_markOf_87 rfl ?_
          refine S_getR (c1 := (b + 3)) dX0_markOf_88 (kd_bk hb) fl_X0_18 rfl rfl rfl ?_
          refine S_iload_n dX0_markOf_91 rfl ?_
          refine S_iald (N := 6) dX0_markOf_92 (kd_ba (k := 2) hb rfl (by decide)) (bk_lt (k := 3) hb (by decide)) rfl ?_
          refine S_callN_I dX0_markOf_93 [.inl (μ (b + 3) (p1).toNat)] (K_X1_fearfulBoldness (μ (b + 3) (p1).toNat) μ) l_X0_87 yo_X1_fearfulBoldness rfl rfl rfl (fun x10 => ?_)
          exact S_iret dX0_markOf_96 rfl rfl
def fX0_howManyOf_L4 (μ : Mem) (b : Nat) (p1 : Int) : Nat → Int → Int → Option Int
  | 0, _, _ => none
  | n3 + 1, x1, x2 =>
    if (μ b 4) ≤ x2 then
      some x1
    else
      grd (0 ≤ x2 ∧ x2 < 6) <|
      (fX1_isOf (μ (b + 1) (x2).toNat) p1 μ).bind fun x4 =>
      mlet (fun (x5 : Int) =>
        mlet (w32 (x2 + 1)) fun x7 =>
        fX0_howManyOf_L4 μ b p1 n3 x5 x7
        ) fun (K6 : Int → Option Int) =>
      if x4 = 0 then
        K6 x1
      else
        mlet (w32 (x1 + 1)) fun x8 =>
        K6 x8
def fX0_howManyOf (b : Nat) (p1 : Int) (μ : Mem) : Option Int :=
  fX0_howManyOf_L4 μ b p1 fuel 0 0
theorem K_X0_howManyOf {b : Nat} (hb : isBk b) (p1 : Int)  (μ : Mem) : Con yX0_howManyOf cX0_howManyOf 4 (some .int) 3 [.inr (.inr b), .inl p1] μ (fX0_howManyOf b p1 μ) (rI μ) := by
  refine con_of (own := RX0) (by decide) rfl (Nat.le_of_ble_eq_true rfl) ?_
  show Sim cX0_howManyOf 4 RX0 (3) (some .int) (rI μ) 0 [(0, .inr (.inr b)), (1, .inl p1)] [] μ (fX0_howManyOf b p1 μ)
  unfold fX0_howManyOf
  refine S_iconst dX0_howManyOf_0 rfl ?_
  refine S_istore_n (lv' := [(2, .inl 0), (0, .inr (.inr b)), (1, .inl p1)]) dX0_howManyOf_1 rfl rfl ?_
  refine S_iconst dX0_howManyOf_2 rfl ?_
  refine S_istore_n (lv' := [(3, .inl 0), (2, .inl 0), (0, .inr (.inr b)), (1, .inl p1)]) dX0_howManyOf_3 rfl rfl ?_
  have hL4 : ∀ (n3 : Nat) (x1 : Int) (x2 : Int), Sim cX0_howManyOf 4 RX0 (3) (some .int) (rI μ) 4 [(0, .inr (.inr b)), (1, .inl p1), (2, .inl x1), (3, .inl x2)] [] μ (fX0_howManyOf_L4 μ b p1 n3 x1 x2) := by
    intro n3
    induction n3 with
    | zero =>
      intro x1 x2
      exact S_none rfl
    | succ n3 ih =>
      intro x1 x2
      rw [fX0_howManyOf_L4]
      refine S_iload_n dX0_howManyOf_4 rfl ?_
      refine S_aload_n dX0_howManyOf_5 rfl ?_
      refine S_getI dX0_howManyOf_6 (kd_bk hb) fl_X0_24 rfl rfl ?_
      refine S_ic_ge (tgt := 34) dX0_howManyOf_9 (by decide) (fun h10 => ?_) (fun h10 => ?_)
      · refine S_iload_n dX0_howManyOf_34 rfl ?_
        exact S_iret dX0_howManyOf_35 rfl rfl
      · refine S_aload_n dX0_howManyOf_12 rfl ?_
        refine S_getR (c1 := (b + 1)) dX0_howManyOf_13 (kd_bk hb) fl_X0_9 rfl rfl rfl ?_
        refine S_iload_n dX0_howManyOf_16 rfl ?_
        refine S_iald (N := 6) dX0_howManyOf_17 (kd_ba (k := 0) hb rfl (by decide)) (bk_lt (k := 1) hb (by decide)) rfl ?_
        refine S_iload_n dX0_howManyOf_18 rfl ?_
        refine S_callN_I dX0_howManyOf_19 [.inl (μ (b + 1) (x2).toNat), .inl p1] (K_X1_isOf (μ (b + 1) (x2).toNat) p1 μ) l_X0_90 yo_X1_isOf rfl rfl rfl (fun x4 => ?_)
        refine S_jn (fun (K6 : Int → Option Int) => ∀ (x5 : Int), Sim cX0_howManyOf 4 RX0 (3) (some .int) (rI μ) 28 [(0, .inr (.inr b)), (1, .inl p1), (2, .inl x5), (3, .inl x2)] [] μ (K6 x5)) ?_ (fun K6 hK6 => ?_)
        · intro x5
          refine S_iinc (lv' := fun x7 => [(3, .inl x7), (0, .inr (.inr b)), (1, .inl p1), (2, .inl x5)]) dX0_howManyOf_28 rfl rfl rfl (fun _ => rfl) (fun x7 => ?_)
          refine S_goto (tgt := 4) dX0_howManyOf_31 (by decide) ?_
          exact S_sub [1, 2, 3, 0] rfl (ih x5 x7)
        refine S_if_eq (tgt := 28) dX0_howManyOf_22 (by decide) (fun h9 => ?_) (fun h9 => ?_)
        · exact S_sub [0, 1, 2, 3] rfl (hK6 x1)
        · refine S_iinc (lv' := fun x8 => [(2, .inl x8), (0, .inr (.inr b)), (1, .inl p1), (3, .inl x2)]) dX0_howManyOf_25 rfl rfl rfl (fun _ => rfl) (fun x8 => ?_)
          exact S_sub [1, 2, 0, 3] rfl (hK6 x8)
  exact S_sub [2, 3, 1, 0] rfl (hL4 fuel 0 0)
def fX0_daringOf_L4 (μ : Mem) (b : Nat) (p1 : Int) : Nat → Int → Int → Option Int
  | 0, _, _ => none
  | n3 + 1, x1, x2 =>
    if (μ b 4) ≤ x2 then
      some x1
    else
      mlet (fun (x4 : Int) =>
        mlet (w32 (x2 + 1)) fun x6 =>
        fX0_daringOf_L4 μ b p1 n3 x4 x6
        ) fun (K5 : Int → Option Int) =>
      if (band (bshr p1 x2) 1) = 0 then
        K5 x1
      else
        grd (0 ≤ x2 ∧ x2 < 6) <|
        mlet ((w32 (x1 + (μ (b + 3) (x2).toNat)))) fun x7 =>
        K5 x7
def fX0_daringOf (b : Nat) (p1 : Int) (μ : Mem) : Option Int :=
  fX0_daringOf_L4 μ b p1 fuel 0 0
theorem K_X0_daringOf {b : Nat} (hb : isBk b) (p1 : Int)  (μ : Mem) : Con yX0_daringOf cX0_daringOf 4 (some .int) 2 [.inr (.inr b), .inl p1] μ (fX0_daringOf b p1 μ) (rI μ) := by
  refine con_of (own := RX0) (by decide) rfl (Nat.le_of_ble_eq_true rfl) ?_
  show Sim cX0_daringOf 4 RX0 (2) (some .int) (rI μ) 0 [(0, .inr (.inr b)), (1, .inl p1)] [] μ (fX0_daringOf b p1 μ)
  unfold fX0_daringOf
  refine S_iconst dX0_daringOf_0 rfl ?_
  refine S_istore_n (lv' := [(2, .inl 0), (0, .inr (.inr b)), (1, .inl p1)]) dX0_daringOf_1 rfl rfl ?_
  refine S_iconst dX0_daringOf_2 rfl ?_
  refine S_istore_n (lv' := [(3, .inl 0), (2, .inl 0), (0, .inr (.inr b)), (1, .inl p1)]) dX0_daringOf_3 rfl rfl ?_
  have hL4 : ∀ (n3 : Nat) (x1 : Int) (x2 : Int), Sim cX0_daringOf 4 RX0 (2) (some .int) (rI μ) 4 [(0, .inr (.inr b)), (1, .inl p1), (2, .inl x1), (3, .inl x2)] [] μ (fX0_daringOf_L4 μ b p1 n3 x1 x2) := by
    intro n3
    induction n3 with
    | zero =>
      intro x1 x2
      exact S_none rfl
    | succ n3 ih =>
      intro x1 x2
      rw [fX0_daringOf_L4]
      refine S_iload_n dX0_daringOf_4 rfl ?_
      refine S_aload_n dX0_daringOf_5 rfl ?_
      refine S_getI dX0_daringOf_6 (kd_bk hb) fl_X0_24 rfl rfl ?_
      refine S_ic_ge (tgt := 35) dX0_daringOf_9 (by decide) (fun h9 => ?_) (fun h9 => ?_)
      · refine S_iload_n dX0_daringOf_35 rfl ?_
        exact S_iret dX0_daringOf_36 rfl rfl
      · refine S_iload_n dX0_daringOf_12 rfl ?_
        refine S_iload_n dX0_daringOf_13 rfl ?_
        refine S_ishr dX0_daringOf_14 ?_
        refine S_iconst dX0_daringOf_15 rfl ?_
        refine S_iand dX0_daringOf_16 ?_
        refine S_jn (fun (K5 : Int → Option Int) => ∀ (x4 : Int), Sim cX0_daringOf 4 RX0 (2) (some .int) (rI μ) 29 [(0, .inr (.inr b)), (1, .inl p1), (2, .inl x4), (3, .inl x2)] [] μ (K5 x4)) ?_ (fun K5 hK5 => ?_)
        · intro x4
          refine S_iinc (lv' := fun x6 => [(3, .inl x6), (0, .inr (.inr b)), (1, .inl p1), (2, .inl x4)]) dX0_daringOf_29 rfl rfl rfl (fun _ => rfl) (fun x6 => ?_)
          refine S_goto (tgt := 4) dX0_daringOf_32 (by decide) ?_
          exact S_sub [1, 2, 3, 0] rfl (ih x4 x6)
        refine S_if_eq (tgt := 29) dX0_daringOf_17 (by decide) (fun h8 => ?_) (fun h8 => ?_)
        · exact S_sub [0, 1, 2, 3] rfl (hK5 x1)
        · refine S_iload_n dX0_daringOf_20 rfl ?_
          refine S_aload_n dX0_daringOf_21 rfl ?_
          refine S_getR (c1 := (b + 3)) dX0_daringOf_22 (kd_bk hb) fl_X0_18 rfl rfl rfl ?_
          refine S_iload_n dX0_daringOf_25 rfl ?_
          refine S_iald (N := 6) dX0_daringOf_26 (kd_ba (k := 2) hb rfl (by decide)) (bk_lt (k := 3) hb (by decide)) rfl ?_
          refine S_iadd dX0_daringOf_27 ?_
          refine S_let (fun x7 => ?_)
          refine S_istore_n (lv' := [(2, .inl x7), (0, .inr (.inr b)), (1, .inl p1), (3, .inl x2)]) dX0_daringOf_28 rfl rfl ?_
          exact S_sub [1, 2, 0, 3] rfl (hK5 x7)
  exact S_sub [2, 3, 1, 0] rfl (hL4 fuel 0 0)
def fX0_allCrossings_L4 (μ : Mem) (b : Nat) : Nat → Int → Int → Option Int
  | 0, _, _ => none
  | n3 + 1, x1, x2 =>
    if (μ b 4) ≤ x2 then
      some x1
    else
      grd (0 ≤ x2 ∧ x2 < 6) <|
      mlet ((w32 (x1 + (μ (b + 4) (x2).toNat)))) fun x4 =>
      mlet (w32 (x2 + 1)) fun x5 =>
      fX0_allCrossings_L4 μ b n3 x4 x5
def fX0_allCrossings (b : Nat) (μ : Mem) : Option Int :=
  fX0_allCrossings_L4 μ b fuel 0 0
theorem K_X0_allCrossings {b : Nat} (hb : isBk b)   (μ : Mem) : Con yX0_allCrossings cX0_allCrossings 3 (some .int) 2 [.inr (.inr b)] μ (fX0_allCrossings b μ) (rI μ) := by
  refine con_of (own := RX0) (by decide) rfl (Nat.le_of_ble_eq_true rfl) ?_
  show Sim cX0_allCrossings 3 RX0 (2) (some .int) (rI μ) 0 [(0, .inr (.inr b))] [] μ (fX0_allCrossings b μ)
  unfold fX0_allCrossings
  refine S_iconst dX0_allCrossings_0 rfl ?_
  refine S_istore_n (lv' := [(1, .inl 0), (0, .inr (.inr b))]) dX0_allCrossings_1 rfl rfl ?_
  refine S_iconst dX0_allCrossings_2 rfl ?_
  refine S_istore_n (lv' := [(2, .inl 0), (1, .inl 0), (0, .inr (.inr b))]) dX0_allCrossings_3 rfl rfl ?_
  have hL4 : ∀ (n3 : Nat) (x1 : Int) (x2 : Int), Sim cX0_allCrossings 3 RX0 (2) (some .int) (rI μ) 4 [(0, .inr (.inr b)), (1, .inl x1), (2, .inl x2)] [] μ (fX0_allCrossings_L4 μ b n3 x1 x2) := by
    intro n3
    induction n3 with
    | zero =>
      intro x1 x2
      exact S_none rfl
    | succ n3 ih =>
      intro x1 x2
      rw [fX0_allCrossings_L4]
      refine S_iload_n dX0_allCrossings_4 rfl ?_
      refine S_aload_n dX0_allCrossings_5 rfl ?_
      refine S_getI dX0_allCrossings_6 (kd_bk hb) fl_X0_24 rfl rfl ?_
      refine S_ic_ge (tgt := 27) dX0_allCrossings_9 (by decide) (fun h6 => ?_) (fun h6 => ?_)
      · refine S_iload_n dX0_allCrossings_27 rfl ?_
        exact S_iret dX0_allCrossings_28 rfl rfl
      · refine S_iload_n dX0_allCrossings_12 rfl ?_
        refine S_aload_n dX0_allCrossings_13 rfl ?_
        refine S_getR (c1 := (b + 4)) dX0_allCrossings_14 (kd_bk hb) fl_X0_21 rfl rfl rfl ?_
        refine S_iload_n dX0_allCrossings_17 rfl ?_
        refine S_iald (N := 6) dX0_allCrossings_18 (kd_ba (k := 3) hb rfl (by decide)) (bk_lt (k := 4) hb (by decide)) rfl ?_
        refine S_iadd dX0_allCrossings_19 ?_
        refine S_let (fun x4 => ?_)
        refine S_istore_n (lv' := [(1, .inl x4), (0, .inr (.inr b)), (2, .inl x2)]) dX0_allCrossings_20 rfl rfl ?_
        refine S_iinc (lv' := fun x5 => [(2, .inl x5), (1, .inl x4), (0, .inr (.inr b))]) dX0_allCrossings_21 rfl rfl rfl (fun _ => rfl) (fun x5 => ?_)
        refine S_goto (tgt := 4) dX0_allCrossings_24 (by decide) ?_
        exact S_sub [2, 1, 0] rfl (ih x4 x5)
  exact S_sub [2, 1, 0] rfl (hL4 fuel 0 0)
def fX1_isWithin (p1 : Int) (p2 : Int) (p3 : Int) (μ : Mem) : Option Int :=
  mlet (
    some 0
    : Option Int) fun (K1 : Option Int) =>
  if p1 < p2 then
    K1
  else
    if p3 < p1 then
      K1
    else
      some 1
theorem K_X1_isWithin  (p1 : Int) (p2 : Int) (p3 : Int)  (μ : Mem) : Con yX1_isWithin cX1_isWithin 3 (some .boolean) 2 [.inl p1, .inl p2, .inl p3] μ (fX1_isWithin p1 p2 p3 μ) (rI μ) := by
  refine con_of (own := RX1) (by decide) rfl (Nat.le_of_ble_eq_true rfl) ?_
  show Sim cX1_isWithin 3 RX1 (2) (some .boolean) (rI μ) 0 [(0, .inl p1), (1, .inl p2), (2, .inl p3)] [] μ (fX1_isWithin p1 p2 p3 μ)
  unfold fX1_isWithin
  refine S_iload_n dX1_isWithin_0 rfl ?_
  refine S_iload_n dX1_isWithin_1 rfl ?_
  refine S_jn (fun (K1 : Option Int) => Sim cX1_isWithin 3 RX1 (2) (some .boolean) (rI μ) 14 [] [] μ K1) ?_ (fun K1 hK1 => ?_)
  · skip
    refine S_iconst dX1_isWithin_14 rfl ?_
    exact S_zret dX1_isWithin_15 rfl (by decide) rfl
  refine S_ic_lt (tgt := 14) dX1_isWithin_2 (by decide) (fun h3 => ?_) (fun h3 => ?_)
  · exact S_sub [] rfl (hK1)
  · refine S_iload_n dX1_isWithin_5 rfl ?_
    refine S_iload_n dX1_isWithin_6 rfl ?_
    refine S_ic_gt (tgt := 14) dX1_isWithin_7 (by decide) (fun h2 => ?_) (fun h2 => ?_)
    · exact S_sub [] rfl (hK1)
    · refine S_iconst dX1_isWithin_10 rfl ?_
      refine S_goto (tgt := 15) dX1_isWithin_11 (by decide) ?_
      exact S_zret dX1_isWithin_15 rfl (by decide) rfl
def fX1_found (p1 : Int) (μ : Mem) : Option (Int × Mem) :=
  (fX1_isWithin p1 1 5 μ).bind fun x1 =>
  if x1 = 0 then
    some ((-3), μ)
  else
    mlet (wr μ 0 14 p1) fun μ2 =>
    grd (0 ≤ p1 ∧ p1 < 6) <|
    grd (0 ≤ p1 ∧ p1 < 6) <|
    mlet (wr μ2 36 (p1).toNat (w32 ((μ2 36 (p1).toNat) + 1))) fun μ3 =>
    some ((-3), μ3)
theorem K_X1_found  (p1 : Int)  (μ : Mem) : Con yX1_found cX1_found 2 (some .int) 3 [.inr (.inr 0), .inl p1] μ (fX1_found p1 μ) wI := by
  refine con_of (own := RX1) (by decide) rfl (Nat.le_of_ble_eq_true rfl) ?_
  show Sim cX1_found 2 RX1 (3) (some .int) wI 0 [(0, .inr (.inr 0)), (1, .inl p1)] [] μ (fX1_found p1 μ)
  unfold fX1_found
  refine S_iload_n dX1_found_0 rfl ?_
  refine S_iconst dX1_found_1 rfl ?_
  refine S_iconst dX1_found_2 rfl ?_
  refine S_callS_I dX1_found_3 [.inl p1, .inl 1, .inl 5] (K_X1_isWithin p1 1 5 μ) l_X1_128 yo_X1_isWithin rfl rfl rfl (fun x1 => ?_)
  refine S_if_eq (tgt := 24) dX1_found_6 (by decide) (fun h4 => ?_) (fun h4 => ?_)
  · refine S_bipush dX1_found_24 rfl (by decide) ?_
    exact S_iret dX1_found_26 rfl rfl
  · refine S_aload_n dX1_found_9 rfl ?_
    refine S_iload_n dX1_found_10 rfl ?_
    refine S_putI dX1_found_11 rfl fl_X1_62 rfl rfl rfl rfl (fun μ2 => ?_)
    refine S_aload_n dX1_found_14 rfl ?_
    refine S_getR (c1 := 36) dX1_found_15 rfl fl_X1_65 rfl rfl rfl ?_
    refine S_iload_n dX1_found_18 rfl ?_
    refine S_dup2 dX1_found_19 rfl rfl ?_
    refine S_iald (N := 6) dX1_found_20 rfl (by decide) rfl ?_
    refine S_iconst dX1_found_21 rfl ?_
    refine S_iadd dX1_found_22 ?_
    refine S_iast (N := 6) dX1_found_23 rfl (by decide) rfl (fun μ3 => ?_)
    refine S_bipush dX1_found_24 rfl (by decide) ?_
    exact S_iret dX1_found_26 rfl rfl
def fX1_isRow (p1 : Int) (μ : Mem) : Option Int :=
  mlet (
    some 0
    : Option Int) fun (K1 : Option Int) =>
  if p1 < 0 then
    K1
  else
    if 6 ≤ p1 then
      K1
    else
      some 1
theorem K_X1_isRow  (p1 : Int)  (μ : Mem) : Con yX1_isRow cX1_isRow 1 (some .boolean) 2 [.inl p1] μ (fX1_isRow p1 μ) (rI μ) := by
  refine con_of (own := RX1) (by decide) rfl (Nat.le_of_ble_eq_true rfl) ?_
  show Sim cX1_isRow 1 RX1 (2) (some .boolean) (rI μ) 0 [(0, .inl p1)] [] μ (fX1_isRow p1 μ)
  unfold fX1_isRow
  refine S_iload_n dX1_isRow_0 rfl ?_
  refine S_jn (fun (K1 : Option Int) => Sim cX1_isRow 1 RX1 (2) (some .boolean) (rI μ) 14 [] [] μ K1) ?_ (fun K1 hK1 => ?_)
  · skip
    refine S_iconst dX1_isRow_14 rfl ?_
    exact S_zret dX1_isRow_15 rfl (by decide) rfl
  refine S_if_lt (tgt := 14) dX1_isRow_1 (by decide) (fun h3 => ?_) (fun h3 => ?_)
  · exact S_sub [] rfl (hK1)
  · refine S_iload_n dX1_isRow_4 rfl ?_
    refine S_bipush dX1_isRow_5 rfl (by decide) ?_
    refine S_ic_ge (tgt := 14) dX1_isRow_7 (by decide) (fun h2 => ?_) (fun h2 => ?_)
    · exact S_sub [] rfl (hK1)
    · refine S_iconst dX1_isRow_10 rfl ?_
      refine S_goto (tgt := 15) dX1_isRow_11 (by decide) ?_
      exact S_zret dX1_isRow_15 rfl (by decide) rfl
def fX1_layAnew (p1 : Int) (p2 : Int) (μ : Mem) : Option Mem :=
  grd (0 ≤ p1 ∧ p1 < 6) <|
  mlet (wr μ 8 (p1).toNat p2) fun μ1 =>
  grd (0 ≤ p1 ∧ p1 < 6) <|
  mlet (2 + (p1).toNat) fun c2 =>
  (some (filM μ1 c2 40 0)).bind fun μ3 =>
  some μ3
theorem K_X1_layAnew  (p1 : Int) (p2 : Int)  (μ : Mem) : Con yX1_layAnew cX1_layAnew 3 (none) 2 [.inr (.inr 0), .inl p1, .inl p2] μ (fX1_layAnew p1 p2 μ) wV := by
  refine con_of (own := RX1) (by decide) rfl (Nat.le_of_ble_eq_true rfl) ?_
  show Sim cX1_layAnew 3 RX1 (2) (none) wV 0 [(0, .inr (.inr 0)), (1, .inl p1), (2, .inl p2)] [] μ (fX1_layAnew p1 p2 μ)
  unfold fX1_layAnew
  refine S_aload_n dX1_layAnew_0 rfl ?_
  refine S_getR (c1 := 8) dX1_layAnew_1 rfl fl_X1_14 rfl rfl rfl ?_
  refine S_iload_n dX1_layAnew_4 rfl ?_
  refine S_iload_n dX1_layAnew_5 rfl ?_
  refine S_iast (N := 6) dX1_layAnew_6 rfl (by decide) rfl (fun μ1 => ?_)
  refine S_aload_n dX1_layAnew_7 rfl ?_
  refine S_getR (c1 := 1) dX1_layAnew_8 rfl fl_X1_11 rfl rfl rfl ?_
  refine S_iload_n dX1_layAnew_11 rfl ?_
  refine S_aald (N := 6) (c1 := 2) (c2 := 8) dX1_layAnew_12 rfl (by decide) (by decide) rfl rfl rfl (fun c2 hc2 => ?_)
  refine S_iconst dX1_layAnew_13 rfl ?_
  refine S_callS_V dX1_layAnew_14 [.inr (.inr c2), .inl 0] (K_fillI (kd_row hc2) (fam_lt hc2 (by decide)) (by decide) 0 μ1) jl_X1_77 jy_fillI rfl rfl rfl (fun μ3 => ?_)
  exact S_vret dX1_layAnew_17 rfl rfl
def fX1_row (p1 : Int) (p2 : Int) (μ : Mem) : Option (Int × Mem) :=
  (fX1_isRow p1 μ).bind fun x1 =>
  if x1 = 0 then
    some ((-1), μ)
  else
    if p2 ≤ 40 then
      if 0 ≤ p2 then
        (fX1_layAnew p1 p2 μ).bind fun μ2 =>
        some (p2, μ2)
      else
        bnd2 (fX1_found 5 μ) fun x3 μ4 =>
        some (x3, μ4)
    else
      some ((-1), μ)
theorem K_X1_row  (p1 : Int) (p2 : Int)  (μ : Mem) : Con yX1_row cX1_row 3 (some .int) 4 [.inr (.inr 0), .inl p1, .inl p2] μ (fX1_row p1 p2 μ) wI := by
  refine con_of (own := RX1) (by decide) rfl (Nat.le_of_ble_eq_true rfl) ?_
  show Sim cX1_row 3 RX1 (4) (some .int) wI 0 [(0, .inr (.inr 0)), (1, .inl p1), (2, .inl p2)] [] μ (fX1_row p1 p2 μ)
  unfold fX1_row
  refine S_iload_n dX1_row_0 rfl ?_
  refine S_callS_I dX1_row_1 [.inl p1] (K_X1_isRow p1 μ) l_X1_83 yo_X1_isRow rfl rfl rfl (fun x1 => ?_)
  refine S_if_eq (tgt := 13) dX1_row_4 (by decide) (fun h7 => ?_) (fun h7 => ?_)
  · refine S_iconst dX1_row_13 rfl ?_
    exact S_iret dX1_row_14 rfl rfl
  · refine S_iload_n dX1_row_7 rfl ?_
    refine S_bipush dX1_row_8 rfl (by decide) ?_
    refine S_ic_le (tgt := 15) dX1_row_10 (by decide) (fun h6 => ?_) (fun h6 => ?_)
    · refine S_iload_n dX1_row_15 rfl ?_
      refine S_if_ge (tgt := 25) dX1_row_16 (by decide) (fun h5 => ?_) (fun h5 => ?_)
      · refine S_aload_n dX1_row_25 rfl ?_
        refine S_iload_n dX1_row_26 rfl ?_
        refine S_iload_n dX1_row_27 rfl ?_
        refine S_callV_V dX1_row_28 [.inl p1, .inl p2] (K_X1_layAnew p1 p2 μ) l_X1_91 yo_X1_layAnew rfl rfl rfl rfl rfl (fun μ2 => ?_)
        refine S_iload_n dX1_row_31 rfl ?_
        exact S_iret dX1_row_32 rfl rfl
      · refine S_aload_n dX1_row_19 rfl ?_
        refine S_iconst dX1_row_20 rfl ?_
        refine S_callV_M2 dX1_row_21 [.inl 5] (K_X1_found 5 μ) l_X1_87 yo_X1_found rfl rfl rfl rfl rfl (fun x3 μ4 => ?_)
        exact S_iret dX1_row_24 rfl rfl
    · refine S_iconst dX1_row_13 rfl ?_
      exact S_iret dX1_row_14 rfl rfl
def fX1_refusalOfPlace (p1 : Int) (p2 : Int) (μ : Mem) : Option (Int × Mem) :=
  (fX1_isRow p1 μ).bind fun x1 =>
  if ¬ x1 = 0 then
    grd (0 ≤ p1 ∧ p1 < 6) <|
    if 0 ≤ (μ 8 (p1).toNat) then
      mlet (
        bnd2 (fX1_found 2 μ) fun x3 μ4 =>
        some (x3, μ4)
        : Option (Int × Mem)) fun (K2 : Option (Int × Mem)) =>
      if p2 < 0 then
        K2
      else
        grd (0 ≤ p1 ∧ p1 < 6) <|
        if p2 < (μ 8 (p1).toNat) then
          some (0, μ)
        else
          K2
    else
      bnd2 (fX1_found 1 μ) fun x7 μ8 =>
      some (x7, μ8)
  else
    some ((-1), μ)
theorem K_X1_refusalOfPlace  (p1 : Int) (p2 : Int)  (μ : Mem) : Con yX1_refusalOfPlace cX1_refusalOfPlace 3 (some .int) 4 [.inr (.inr 0), .inl p1, .inl p2] μ (fX1_refusalOfPlace p1 p2 μ) wI := by
  refine con_of (own := RX1) (by decide) rfl (Nat.le_of_ble_eq_true rfl) ?_
  show Sim cX1_refusalOfPlace 3 RX1 (4) (some .int) wI 0 [(0, .inr (.inr 0)), (1, .inl p1), (2, .inl p2)] [] μ (fX1_refusalOfPlace p1 p2 μ)
  unfold fX1_refusalOfPlace
  refine S_iload_n dX1_refusalOfPlace_0 rfl ?_
  refine S_callS_I dX1_refusalOfPlace_1 [.inl p1] (K_X1_isRow p1 μ) l_X1_83 yo_X1_isRow rfl rfl rfl (fun x1 => ?_)
  refine S_if_ne (tgt := 9) dX1_refusalOfPlace_4 (by decide) (fun h10 => ?_) (fun h10 => ?_)
  · refine S_aload_n dX1_refusalOfPlace_9 rfl ?_
    refine S_getR (c1 := 8) dX1_refusalOfPlace_10 rfl fl_X1_14 rfl rfl rfl ?_
    refine S_iload_n dX1_refusalOfPlace_13 rfl ?_
    refine S_iald (N := 6) dX1_refusalOfPlace_14 rfl (by decide) rfl ?_
    refine S_if_ge (tgt := 24) dX1_refusalOfPlace_15 (by decide) (fun h9 => ?_) (fun h9 => ?_)
    · refine S_iload_n dX1_refusalOfPlace_24 rfl ?_
      refine S_jn (fun (K2 : Option (Int × Mem)) => Sim cX1_refusalOfPlace 3 RX1 (4) (some .int) wI 38 [(0, .inr (.inr 0))] [] μ K2) ?_ (fun K2 hK2 => ?_)
      · skip
        refine S_aload_n dX1_refusalOfPlace_38 rfl ?_
        refine S_iconst dX1_refusalOfPlace_39 rfl ?_
        refine S_callV_M2 dX1_refusalOfPlace_40 [.inl 2] (K_X1_found 2 μ) l_X1_87 yo_X1_found rfl rfl rfl rfl rfl (fun x3 μ4 => ?_)
        refine S_goto (tgt := 47) dX1_refusalOfPlace_43 (by decide) ?_
        exact S_iret dX1_refusalOfPlace_47 rfl rfl
      refine S_if_lt (tgt := 38) dX1_refusalOfPlace_25 (by decide) (fun h6 => ?_) (fun h6 => ?_)
      · exact S_sub [0] rfl (hK2)
      · refine S_iload_n dX1_refusalOfPlace_28 rfl ?_
        refine S_aload_n dX1_refusalOfPlace_29 rfl ?_
        refine S_getR (c1 := 8) dX1_refusalOfPlace_30 rfl fl_X1_14 rfl rfl rfl ?_
        refine S_iload_n dX1_refusalOfPlace_33 rfl ?_
        refine S_iald (N := 6) dX1_refusalOfPlace_34 rfl (by decide) rfl ?_
        refine S_ic_lt (tgt := 46) dX1_refusalOfPlace_35 (by decide) (fun h5 => ?_) (fun h5 => ?_)
        · refine S_iconst dX1_refusalOfPlace_46 rfl ?_
          exact S_iret dX1_refusalOfPlace_47 rfl rfl
        · exact S_sub [0] rfl (hK2)
    · refine S_aload_n dX1_refusalOfPlace_18 rfl ?_
      refine S_iconst dX1_refusalOfPlace_19 rfl ?_
      refine S_callV_M2 dX1_refusalOfPlace_20 [.inl 1] (K_X1_found 1 μ) l_X1_87 yo_X1_found rfl rfl rfl rfl rfl (fun x7 μ8 => ?_)
      exact S_iret dX1_refusalOfPlace_23 rfl rfl
  · refine S_iconst dX1_refusalOfPlace_7 rfl ?_
    exact S_iret dX1_refusalOfPlace_8 rfl rfl
def fX1_tell (p1 : Int) (μ : Mem) : Option (Int × Mem) :=
  mlet (wr μ 0 11 p1) fun μ1 =>
  some (1, μ1)
theorem K_X1_tell  (p1 : Int)  (μ : Mem) : Con yX1_tell cX1_tell 2 (some .int) 2 [.inr (.inr 0), .inl p1] μ (fX1_tell p1 μ) wI := by
  refine con_of (own := RX1) (by decide) rfl (Nat.le_of_ble_eq_true rfl) ?_
  show Sim cX1_tell 2 RX1 (2) (some .int) wI 0 [(0, .inr (.inr 0)), (1, .inl p1)] [] μ (fX1_tell p1 μ)
  unfold fX1_tell
  refine S_aload_n dX1_tell_0 rfl ?_
  refine S_iload_n dX1_tell_1 rfl ?_
  refine S_putI dX1_tell_2 rfl fl_X1_52 rfl rfl rfl rfl (fun μ1 => ?_)
  refine S_iconst dX1_tell_5 rfl ?_
  exact S_iret dX1_tell_6 rfl rfl
def fX1_lay (p1 : Int) (p2 : Int) (p3 : Int) (μ : Mem) : Option (Int × Mem) :=
  bnd2 (fX1_refusalOfPlace p1 p2 μ) fun x1 μ2 =>
  if x1 = 0 then
    grd (0 ≤ p1 ∧ p1 < 6) <|
    mlet (2 + (p1).toNat) fun c3 =>
    grd (0 ≤ p2 ∧ p2 < 40) <|
    mlet ((μ2 c3 (p2).toNat)) fun x4 =>
    grd (0 ≤ p1 ∧ p1 < 6) <|
    mlet (2 + (p1).toNat) fun c5 =>
    grd (0 ≤ p2 ∧ p2 < 40) <|
    mlet (wr μ2 c5 (p2).toNat p3) fun μ6 =>
    bnd2 (fX1_tell x4 μ6) fun x7 μ8 =>
    some (x7, μ8)
  else
    some (x1, μ2)
theorem K_X1_lay  (p1 : Int) (p2 : Int) (p3 : Int)  (μ : Mem) : Con yX1_lay cX1_lay 6 (some .int) 5 [.inr (.inr 0), .inl p1, .inl p2, .inl p3] μ (fX1_lay p1 p2 p3 μ) wI := by
  refine con_of (own := RX1) (by decide) rfl (Nat.le_of_ble_eq_true rfl) ?_
  show Sim cX1_lay 6 RX1 (5) (some .int) wI 0 [(0, .inr (.inr 0)), (1, .inl p1), (2, .inl p2), (3, .inl p3)] [] μ (fX1_lay p1 p2 p3 μ)
  unfold fX1_lay
  refine S_aload_n dX1_lay_0 rfl ?_
  refine S_iload_n dX1_lay_1 rfl ?_
  refine S_iload_n dX1_lay_2 rfl ?_
  refine S_callV_M2 dX1_lay_3 [.inl p1, .inl p2] (K_X1_refusalOfPlace p1 p2 μ) l_X1_95 yo_X1_refusalOfPlace rfl rfl rfl rfl rfl (fun x1 μ2 => ?_)
  refine S_istore (lv' := [(4, .inl x1), (0, .inr (.inr 0)), (1, .inl p1), (2, .inl p2), (3, .inl p3)]) dX1_lay_6 rfl rfl ?_
  refine S_iload dX1_lay_8 rfl ?_
  refine S_if_eq (tgt := 16) dX1_lay_10 (by decide) (fun h9 => ?_) (fun h9 => ?_)
  · refine S_aload_n dX1_lay_16 rfl ?_
    refine S_getR (c1 := 1) dX1_lay_17 rfl fl_X1_11 rfl rfl rfl ?_
    refine S_iload_n dX1_lay_20 rfl ?_
    refine S_aald (N := 6) (c1 := 2) (c2 := 8) dX1_lay_21 rfl (by decide) (by decide) rfl rfl rfl (fun c3 hc3 => ?_)
    refine S_iload_n dX1_lay_22 rfl ?_
    refine S_iald (N := 40) dX1_lay_23 (kd_row hc3) (fam_lt hc3 (by decide)) rfl ?_
    refine S_let (fun x4 => ?_)
    refine S_istore (lv' := [(5, .inl x4), (4, .inl x1), (0, .inr (.inr 0)), (1, .inl p1), (2, .inl p2), (3, .inl p3)]) dX1_lay_24 rfl rfl ?_
    refine S_aload_n dX1_lay_26 rfl ?_
    refine S_getR (c1 := 1) dX1_lay_27 rfl fl_X1_11 rfl rfl rfl ?_
    refine S_iload_n dX1_lay_30 rfl ?_
    refine S_aald (N := 6) (c1 := 2) (c2 := 8) dX1_lay_31 rfl (by decide) (by decide) rfl rfl rfl (fun c5 hc5 => ?_)
    refine S_iload_n dX1_lay_32 rfl ?_
    refine S_iload_n dX1_lay_33 rfl ?_
    refine S_iast (N := 40) dX1_lay_34 (kd_row hc5) (fam_lt hc5 (by decide)) rfl (fun μ6 => ?_)
    refine S_aload_n dX1_lay_35 rfl ?_
    refine S_iload dX1_lay_36 rfl ?_
    refine S_callV_M2 dX1_lay_38 [.inl x4] (K_X1_tell x4 μ6) l_X1_99 yo_X1_tell rfl rfl rfl rfl rfl (fun x7 μ8 => ?_)
    exact S_iret dX1_lay_41 rfl rfl
  · refine S_iload dX1_lay_13 rfl ?_
    exact S_iret dX1_lay_15 rfl rfl
def fX1_at (p1 : Int) (p2 : Int) (μ : Mem) : Option (Int × Mem) :=
  bnd2 (fX1_refusalOfPlace p1 p2 μ) fun x1 μ2 =>
  if x1 = 0 then
    grd (0 ≤ p1 ∧ p1 < 6) <|
    mlet (2 + (p1).toNat) fun c3 =>
    grd (0 ≤ p2 ∧ p2 < 40) <|
    bnd2 (fX1_tell (μ2 c3 (p2).toNat) μ2) fun x4 μ5 =>
    some (x4, μ5)
  else
    some (x1, μ2)
theorem K_X1_at  (p1 : Int) (p2 : Int)  (μ : Mem) : Con yX1_at cX1_at 4 (some .int) 5 [.inr (.inr 0), .inl p1, .inl p2] μ (fX1_at p1 p2 μ) wI := by
  refine con_of (own := RX1) (by decide) rfl (Nat.le_of_ble_eq_true rfl) ?_
  show Sim cX1_at 4 RX1 (5) (some .int) wI 0 [(0, .inr (.inr 0)), (1, .inl p1), (2, .inl p2)] [] μ (fX1_at p1 p2 μ)
  unfold fX1_at
  refine S_aload_n dX1_at_0 rfl ?_
  refine S_iload_n dX1_at_1 rfl ?_
  refine S_iload_n dX1_at_2 rfl ?_
  refine S_callV_M2 dX1_at_3 [.inl p1, .inl p2] (K_X1_refusalOfPlace p1 p2 μ) l_X1_95 yo_X1_refusalOfPlace rfl rfl rfl rfl rfl (fun x1 μ2 => ?_)
  refine S_istore_n (lv' := [(3, .inl x1), (0, .inr (.inr 0)), (1, .inl p1), (2, .inl p2)]) dX1_at_6 rfl rfl ?_
  refine S_iload_n dX1_at_7 rfl ?_
  refine S_if_eq (tgt := 13) dX1_at_8 (by decide) (fun h6 => ?_) (fun h6 => ?_)
  · refine S_aload_n dX1_at_13 rfl ?_
    refine S_aload_n dX1_at_14 rfl ?_
    refine S_getR (c1 := 1) dX1_at_15 rfl fl_X1_11 rfl rfl rfl ?_
    refine S_iload_n dX1_at_18 rfl ?_
    refine S_aald (N := 6) (c1 := 2) (c2 := 8) dX1_at_19 rfl (by decide) (by decide) rfl rfl rfl (fun c3 hc3 => ?_)
    refine S_iload_n dX1_at_20 rfl ?_
    refine S_iald (N := 40) dX1_at_21 (kd_row hc3) (fam_lt hc3 (by decide)) rfl ?_
    refine S_callV_M2 dX1_at_22 [.inl (μ2 c3 (p2).toNat)] (K_X1_tell (μ2 c3 (p2).toNat) μ2) l_X1_99 yo_X1_tell rfl rfl rfl rfl rfl (fun x4 μ5 => ?_)
    exact S_iret dX1_at_25 rfl rfl
  · refine S_iload_n dX1_at_11 rfl ?_
    exact S_iret dX1_at_12 rfl rfl
def fX1_tear (p1 : Int) (μ : Mem) : Option (Int × Mem) :=
  (fX1_isRow p1 μ).bind fun x1 =>
  if ¬ x1 = 0 then
    grd (0 ≤ p1 ∧ p1 < 6) <|
    if 0 ≤ (μ 8 (p1).toNat) then
      grd (0 ≤ p1 ∧ p1 < 6) <|
      mlet (wr μ 8 (p1).toNat (-1)) fun μ2 =>
      some (1, μ2)
    else
      bnd2 (fX1_found 1 μ) fun x3 μ4 =>
      some (x3, μ4)
  else
    some ((-1), μ)
theorem K_X1_tear  (p1 : Int)  (μ : Mem) : Con yX1_tear cX1_tear 2 (some .int) 4 [.inr (.inr 0), .inl p1] μ (fX1_tear p1 μ) wI := by
  refine con_of (own := RX1) (by decide) rfl (Nat.le_of_ble_eq_true rfl) ?_
  show Sim cX1_tear 2 RX1 (4) (some .int) wI 0 [(0, .inr (.inr 0)), (1, .inl p1)] [] μ (fX1_tear p1 μ)
  unfold fX1_tear
  refine S_iload_n dX1_tear_0 rfl ?_
  refine S_callS_I dX1_tear_1 [.inl p1] (K_X1_isRow p1 μ) l_X1_83 yo_X1_isRow rfl rfl rfl (fun x1 => ?_)
  refine S_if_ne (tgt := 9) dX1_tear_4 (by decide) (fun h6 => ?_) (fun h6 => ?_)
  · refine S_aload_n dX1_tear_9 rfl ?_
    refine S_getR (c1 := 8) dX1_tear_10 rfl fl_X1_14 rfl rfl rfl ?_
    refine S_iload_n dX1_tear_13 rfl ?_
    refine S_iald (N := 6) dX1_tear_14 rfl (by decide) rfl ?_
    refine S_if_ge (tgt := 24) dX1_tear_15 (by decide) (fun h5 => ?_) (fun h5 => ?_)
    · refine S_aload_n dX1_tear_24 rfl ?_
      refine S_getR (c1 := 8) dX1_tear_25 rfl fl_X1_14 rfl rfl rfl ?_
      refine S_iload_n dX1_tear_28 rfl ?_
      refine S_iconst dX1_tear_29 rfl ?_
      refine S_iast (N := 6) dX1_tear_30 rfl (by decide) rfl (fun μ2 => ?_)
      refine S_iconst dX1_tear_31 rfl ?_
      exact S_iret dX1_tear_32 rfl rfl
    · refine S_aload_n dX1_tear_18 rfl ?_
      refine S_iconst dX1_tear_19 rfl ?_
      refine S_callV_M2 dX1_tear_20 [.inl 1] (K_X1_found 1 μ) l_X1_87 yo_X1_found rfl rfl rfl rfl rfl (fun x3 μ4 => ?_)
      exact S_iret dX1_tear_23 rfl rfl
  · refine S_iconst dX1_tear_7 rfl ?_
    exact S_iret dX1_tear_8 rfl rfl
def fX1_copy (p1 : Int) (p2 : Int) (p3 : Int) (p4 : Int) (p5 : Int) (μ : Mem) : Option (Int × Mem) :=
  (fX1_isRow p1 μ).bind fun x1 =>
  if x1 = 0 then
    some ((-1), μ)
  else
    (fX1_isRow p3 μ).bind fun x2 =>
    if ¬ x2 = 0 then
      if 0 ≤ p5 then
        grd (0 ≤ p1 ∧ p1 < 6) <|
        mlet (
          bnd2 (fX1_found 1 μ) fun x4 μ5 =>
          some (x4, μ5)
          : Option (Int × Mem)) fun (K3 : Option (Int × Mem)) =>
        if (μ 8 (p1).toNat) < 0 then
          K3
        else
          grd (0 ≤ p3 ∧ p3 < 6) <|
          if 0 ≤ (μ 8 (p3).toNat) then
            mlet (
              bnd2 (fX1_found 2 μ) fun x7 μ8 =>
              some (x7, μ8)
              : Option (Int × Mem)) fun (K6 : Option (Int × Mem)) =>
            if p2 < 0 then
              K6
            else
              grd (0 ≤ p1 ∧ p1 < 6) <|
              if (w32 ((μ 8 (p1).toNat) - p5)) < p2 then
                K6
              else
                if p4 < 0 then
                  K6
                else
                  grd (0 ≤ p3 ∧ p3 < 6) <|
                  if p4 ≤ (w32 ((μ 8 (p3).toNat) - p5)) then
                    grd (0 ≤ p1 ∧ p1 < 6) <|
                    mlet (2 + (p1).toNat) fun c9 =>
                    grd (0 ≤ p3 ∧ p3 < 6) <|
                    mlet (2 + (p3).toNat) fun c10 =>
                    grd (0 ≤ p2 ∧ 0 ≤ p4 ∧ 0 ≤ p5 ∧ p2 + p5 ≤ 40 ∧ p4 + p5 ≤ 40) <|
                    mlet (cpy μ c9 (p2).toNat c10 (p4).toNat (p5).toNat) fun μ11 =>
                    some (1, μ11)
                  else
                    K6
          else
            K3
      else
        bnd2 (fX1_found 5 μ) fun x18 μ19 =>
        some (x18, μ19)
    else
      some ((-1), μ)
theorem K_X1_copy  (p1 : Int) (p2 : Int) (p3 : Int) (p4 : Int) (p5 : Int)  (μ : Mem) : Con yX1_copy cX1_copy 6 (some .int) 4 [.inr (.inr 0), .inl p1, .inl p2, .inl p3, .inl p4, .inl p5] μ (fX1_copy p1 p2 p3 p4 p5 μ) wI := by
  refine con_of (own := RX1) (by decide) rfl (Nat.le_of_ble_eq_true rfl) ?_
  show Sim cX1_copy 6 RX1 (4) (some .int) wI 0 [(0, .inr (.inr 0)), (1, .inl p1), (2, .inl p2), (3, .inl p3), (4, .inl p4), (5, .inl p5)] [] μ (fX1_copy p1 p2 p3 p4 p5 μ)
  unfold fX1_copy
  refine S_iload_n dX1_copy_0 rfl ?_
  refine S_callS_I dX1_copy_1 [.inl p1] (K_X1_isRow p1 μ) l_X1_83 yo_X1_isRow rfl rfl rfl (fun x1 => ?_)
  refine S_if_eq (tgt := 14) dX1_copy_4 (by decide) (fun h22 => ?_) (fun h22 => ?_)
  · refine S_iconst dX1_copy_14 rfl ?_
    exact S_iret dX1_copy_15 rfl rfl
  · refine S_iload_n dX1_copy_7 rfl ?_
    refine S_callS_I dX1_copy_8 [.inl p3] (K_X1_isRow p3 μ) l_X1_83 yo_X1_isRow rfl rfl rfl (fun x2 => ?_)
    refine S_if_ne (tgt := 16) dX1_copy_11 (by decide) (fun h21 => ?_) (fun h21 => ?_)
    · refine S_iload dX1_copy_16 rfl ?_
      refine S_if_ge (tgt := 27) dX1_copy_18 (by decide) (fun h20 => ?_) (fun h20 => ?_)
      · refine S_aload_n dX1_copy_27 rfl ?_
        refine S_getR (c1 := 8) dX1_copy_28 rfl fl_X1_14 rfl rfl rfl ?_
        refine S_iload_n dX1_copy_31 rfl ?_
        refine S_iald (N := 6) dX1_copy_32 rfl (by decide) rfl ?_
        refine S_jn (fun (K3 : Option (Int × Mem)) => Sim cX1_copy 6 RX1 (4) (some .int) wI 45 [(0, .inr (.inr 0))] [] μ K3) ?_ (fun K3 hK3 => ?_)
        · skip
          refine S_aload_n dX1_copy_45 rfl ?_
          refine S_iconst dX1_copy_46 rfl ?_
          refine S_callV_M2 dX1_copy_47 [.inl 1] (K_X1_found 1 μ) l_X1_87 yo_X1_found rfl rfl rfl rfl rfl (fun x4 μ5 => ?_)
          exact S_iret dX1_copy_50 rfl rfl
        refine S_if_lt (tgt := 45) dX1_copy_33 (by decide) (fun h17 => ?_) (fun h17 => ?_)
        · exact S_sub [0] rfl (hK3)
        · refine S_aload_n dX1_copy_36 rfl ?_
          refine S_getR (c1 := 8) dX1_copy_37 rfl fl_X1_14 rfl rfl rfl ?_
          refine S_iload_n dX1_copy_40 rfl ?_
          refine S_iald (N := 6) dX1_copy_41 rfl (by decide) rfl ?_
          refine S_if_ge (tgt := 51) dX1_copy_42 (by decide) (fun h16 => ?_) (fun h16 => ?_)
          · refine S_iload_n dX1_copy_51 rfl ?_
            refine S_jn (fun (K6 : Option (Int × Mem)) => Sim cX1_copy 6 RX1 (4) (some .int) wI 87 [(0, .inr (.inr 0))] [] μ K6) ?_ (fun K6 hK6 => ?_)
            · skip
              refine S_aload_n dX1_copy_87 rfl ?_
              refine S_iconst dX1_copy_88 rfl ?_
              refine S_callV_M2 dX1_copy_89 [.inl 2] (K_X1_found 2 μ) l_X1_87 yo_X1_found rfl rfl rfl rfl rfl (fun x7 μ8 => ?_)
              exact S_iret dX1_copy_92 rfl rfl
            refine S_if_lt (tgt := 87) dX1_copy_52 (by decide) (fun h15 => ?_) (fun h15 => ?_)
            · exact S_sub [0] rfl (hK6)
            · refine S_iload_n dX1_copy_55 rfl ?_
              refine S_aload_n dX1_copy_56 rfl ?_
              refine S_getR (c1 := 8) dX1_copy_57 rfl fl_X1_14 rfl rfl rfl ?_
              refine S_iload_n dX1_copy_60 rfl ?_
              refine S_iald (N := 6) dX1_copy_61 rfl (by decide) rfl ?_
              refine S_iload dX1_copy_62 rfl ?_
              refine S_isub dX1_copy_64 ?_
              refine S_ic_gt (tgt := 87) dX1_copy_65 (by decide) (fun h14 => ?_) (fun h14 => ?_)
              · exact S_sub [0] rfl (hK6)
              · refine S_iload dX1_copy_68 rfl ?_
                refine S_if_lt (tgt := 87) dX1_copy_70 (by decide) (fun h13 => ?_) (fun h13 => ?_)
                · exact S_sub [0] rfl (hK6)
                · refine S_iload dX1_copy_73 rfl ?_
                  refine S_aload_n dX1_copy_75 rfl ?_
                  refine S_getR (c1 := 8) dX1_copy_76 rfl fl_X1_14 rfl rfl rfl ?_
                  refine S_iload_n dX1_copy_79 rfl ?_
                  refine S_iald (N := 6) dX1_copy_80 rfl (by decide) rfl ?_
                  refine S_iload dX1_copy_81 rfl ?_
                  refine S_isub dX1_copy_83 ?_
                  refine S_ic_le (tgt := 93) dX1_copy_84 (by decide) (fun h12 => ?_) (fun h12 => ?_)
                  · refine S_aload_n dX1_copy_93 rfl ?_
                    refine S_getR (c1 := 1) dX1_copy_94 rfl fl_X1_11 rfl rfl rfl ?_
                    refine S_iload_n dX1_copy_97 rfl ?_
                    refine S_aald (N := 6) (c1 := 2) (c2 := 8) dX1_copy_98 rfl (by decide) (by decide) rfl rfl rfl (fun c9 hc9 => ?_)
                    refine S_iload_n dX1_copy_99 rfl ?_
                    refine S_aload_n dX1_copy_100 rfl ?_
                    refine S_getR (c1 := 1) dX1_copy_101 rfl fl_X1_11 rfl rfl rfl ?_
                    refine S_iload_n dX1_copy_104 rfl ?_
                    refine S_aald (N := 6) (c1 := 2) (c2 := 8) dX1_copy_105 rfl (by decide) (by decide) rfl rfl rfl (fun c10 hc10 => ?_)
                    refine S_iload dX1_copy_106 rfl ?_
                    refine S_iload dX1_copy_108 rfl ?_
                    refine S_acopy (N0 := 40) (N1 := 40) dX1_copy_110 jl_X1_102 jm_an jm_as jm_S (kd_row hc9) (fam_lt hc9 (by decide)) (kd_row hc10) (fam_lt hc10 (by decide)) rfl rfl rfl rfl jm_w (fun μ11 => ?_)
                    refine S_iconst dX1_copy_113 rfl ?_
                    exact S_iret dX1_copy_114 rfl rfl
                  · exact S_sub [0] rfl (hK6)
          · exact S_sub [0] rfl (hK3)
      · refine S_aload_n dX1_copy_21 rfl ?_
        refine S_iconst dX1_copy_22 rfl ?_
        refine S_callV_M2 dX1_copy_23 [.inl 5] (K_X1_found 5 μ) l_X1_87 yo_X1_found rfl rfl rfl rfl rfl (fun x18 μ19 => ?_)
        exact S_iret dX1_copy_26 rfl rfl
    · refine S_iconst dX1_copy_14 rfl ?_
      exact S_iret dX1_copy_15 rfl rfl
def fX1_mean_L41 (x2 : Int) (K4 : Int → Option (Int × Mem)) (p1 : Int) (μ : Mem) : Nat → Int → Int → Option (Int × Mem)
  | 0, _, _ => none
  | n9 + 1, x7, x8 =>
    if x2 ≤ x8 then
      K4 x7
    else
      grd (0 ≤ p1 ∧ p1 < 6) <|
      mlet (2 + (p1).toNat) fun c10 =>
      grd (0 ≤ x8 ∧ x8 < 40) <|
      mlet ((w64 (x7 + (μ c10 (x8).toNat)))) fun x11 =>
      mlet (w32 (x8 + 1)) fun x12 =>
      fX1_mean_L41 x2 K4 p1 μ n9 x11 x12
def fX1_mean (p1 : Int) (μ : Mem) : Option (Int × Mem) :=
  (fX1_isRow p1 μ).bind fun x1 =>
  if ¬ x1 = 0 then
    grd (0 ≤ p1 ∧ p1 < 6) <|
    mlet ((μ 8 (p1).toNat)) fun x2 =>
    if 0 ≤ x2 then
      if ¬ x2 = 0 then
        mlet (fun (x3 : Int) =>
          grd (¬ x2 = 0) <|
          bnd2 (fX1_tell (w32 (w64 (x3.tdiv x2))) μ) fun x5 μ6 =>
          some (x5, μ6)
          ) fun (K4 : Int → Option (Int × Mem)) =>
        fX1_mean_L41 x2 K4 p1 μ fuel 0 0
      else
        bnd2 (fX1_found 4 μ) fun x14 μ15 =>
        some (x14, μ15)
    else
      bnd2 (fX1_found 1 μ) fun x17 μ18 =>
      some (x17, μ18)
  else
    some ((-1), μ)
theorem K_X1_mean  (p1 : Int)  (μ : Mem) : Con yX1_mean cX1_mean 6 (some .int) 4 [.inr (.inr 0), .inl p1] μ (fX1_mean p1 μ) wI := by
  refine con_of (own := RX1) (by decide) rfl (Nat.le_of_ble_eq_true rfl) ?_
  show Sim cX1_mean 6 RX1 (4) (some .int) wI 0 [(0, .inr (.inr 0)), (1, .inl p1)] [] μ (fX1_mean p1 μ)
  unfold fX1_mean
  refine S_iload_n dX1_mean_0 rfl ?_
  refine S_callS_I dX1_mean_1 [.inl p1] (K_X1_isRow p1 μ) l_X1_83 yo_X1_isRow rfl rfl rfl (fun x1 => ?_)
  refine S_if_ne (tgt := 9) dX1_mean_4 (by decide) (fun h20 => ?_) (fun h20 => ?_)
  · refine S_aload_n dX1_mean_9 rfl ?_
    refine S_getR (c1 := 8) dX1_mean_10 rfl fl_X1_14 rfl rfl rfl ?_
    refine S_iload_n dX1_mean_13 rfl ?_
    refine S_iald (N := 6) dX1_mean_14 rfl (by decide) rfl ?_
    refine S_let (fun x2 => ?_)
    refine S_istore_n (lv' := [(2, .inl x2), (0, .inr (.inr 0)), (1, .inl p1)]) dX1_mean_15 rfl rfl ?_
    refine S_iload_n dX1_mean_16 rfl ?_
    refine S_if_ge (tgt := 26) dX1_mean_17 (by decide) (fun h19 => ?_) (fun h19 => ?_)
    · refine S_iload_n dX1_mean_26 rfl ?_
      refine S_if_ne (tgt := 36) dX1_mean_27 (by decide) (fun h16 => ?_) (fun h16 => ?_)
      · refine S_lconst (n := 0) dX1_mean_36 (by decide) rfl ?_
        refine S_lstore_n (lv' := [(3, .inr (.inl 0)), (2, .inl x2), (0, .inr (.inr 0)), (1, .inl p1)]) dX1_mean_37 rfl rfl ?_
        refine S_iconst dX1_mean_38 rfl ?_
        refine S_istore (lv' := [(5, .inl 0), (3, .inr (.inl 0)), (2, .inl x2), (0, .inr (.inr 0)), (1, .inl p1)]) dX1_mean_39 rfl rfl ?_
        refine S_jn (fun (K4 : Int → Option (Int × Mem)) => ∀ (x3 : Int), Sim cX1_mean 6 RX1 (4) (some .int) wI 66 [(0, .inr (.inr 0)), (2, .inl x2), (3, .inr (.inl x3))] [] μ (K4 x3)) ?_ (fun K4 hK4 => ?_)
        · intro x3
          refine S_aload_n dX1_mean_66 rfl ?_
          refine S_lload_n dX1_mean_67 rfl ?_
          refine S_iload_n dX1_mean_68 rfl ?_
          refine S_i2l dX1_mean_69 ?_
          refine S_ldiv dX1_mean_70 ?_
          refine S_l2i dX1_mean_71 ?_
          refine S_callV_M2 dX1_mean_72 [.inl (w32 (w64 (x3.tdiv x2)))] (K_X1_tell (w32 (w64 (x3.tdiv x2))) μ) l_X1_99 yo_X1_tell rfl rfl rfl rfl rfl (fun x5 μ6 => ?_)
          exact S_iret dX1_mean_75 rfl rfl
        have hL41 : ∀ (n9 : Nat) (x7 : Int) (x8 : Int), Sim cX1_mean 6 RX1 (4) (some .int) wI 41 [(0, .inr (.inr 0)), (1, .inl p1), (2, .inl x2), (3, .inr (.inl x7)), (5, .inl x8)] [] μ (fX1_mean_L41 x2 K4 p1 μ n9 x7 x8) := by
          intro n9
          induction n9 with
          | zero =>
            intro x7 x8
            exact S_none rfl
          | succ n9 ih =>
            intro x7 x8
            rw [fX1_mean_L41]
            refine S_iload dX1_mean_41 rfl ?_
            refine S_iload_n dX1_mean_43 rfl ?_
            refine S_ic_ge (tgt := 66) dX1_mean_44 (by decide) (fun h13 => ?_) (fun h13 => ?_)
            · exact S_sub [0, 2, 3] rfl (hK4 x7)
            · refine S_lload_n dX1_mean_47 rfl ?_
              refine S_aload_n dX1_mean_48 rfl ?_
              refine S_getR (c1 := 1) dX1_mean_49 rfl fl_X1_11 rfl rfl rfl ?_
              refine S_iload_n dX1_mean_52 rfl ?_
              refine S_aald (N := 6) (c1 := 2) (c2 := 8) dX1_mean_53 rfl (by decide) (by decide) rfl rfl rfl (fun c10 hc10 => ?_)
              refine S_iload dX1_mean_54 rfl ?_
              refine S_iald (N := 40) dX1_mean_56 (kd_row hc10) (fam_lt hc10 (by decide)) rfl ?_
              refine S_i2l dX1_mean_57 ?_
              refine S_ladd dX1_mean_58 ?_
              refine S_letL (fun x11 => ?_)
              refine S_lstore_n (lv' := [(3, .inr (.inl x11)), (0, .inr (.inr 0)), (1, .inl p1), (2, .inl x2), (5, .inl x8)]) dX1_mean_59 rfl rfl ?_
              refine S_iinc (lv' := fun x12 => [(5, .inl x12), (3, .inr (.inl x11)), (0, .inr (.inr 0)), (1, .inl p1), (2, .inl x2)]) dX1_mean_60 rfl rfl rfl (fun _ => rfl) (fun x12 => ?_)
              refine S_goto (tgt := 41) dX1_mean_63 (by decide) ?_
              exact S_sub [2, 3, 4, 1, 0] rfl (ih x11 x12)
        exact S_sub [3, 4, 2, 1, 0] rfl (hL41 fuel 0 0)
      · refine S_aload_n dX1_mean_30 rfl ?_
        refine S_iconst dX1_mean_31 rfl ?_
        refine S_callV_M2 dX1_mean_32 [.inl 4] (K_X1_found 4 μ) l_X1_87 yo_X1_found rfl rfl rfl rfl rfl (fun x14 μ15 => ?_)
        exact S_iret dX1_mean_35 rfl rfl
    · refine S_aload_n dX1_mean_20 rfl ?_
      refine S_iconst dX1_mean_21 rfl ?_
      refine S_callV_M2 dX1_mean_22 [.inl 1] (K_X1_found 1 μ) l_X1_87 yo_X1_found rfl rfl rfl rfl rfl (fun x17 μ18 => ?_)
      exact S_iret dX1_mean_25 rfl rfl
  · refine S_iconst dX1_mean_7 rfl ?_
    exact S_iret dX1_mean_8 rfl rfl
def fX1_isText (p1 : Int) (μ : Mem) : Option Int :=
  mlet (
    some 0
    : Option Int) fun (K1 : Option Int) =>
  if p1 < 0 then
    K1
  else
    if 4 ≤ p1 then
      K1
    else
      some 1
theorem K_X1_isText  (p1 : Int)  (μ : Mem) : Con yX1_isText cX1_isText 1 (some .boolean) 2 [.inl p1] μ (fX1_isText p1 μ) (rI μ) := by
  refine con_of (own := RX1) (by decide) rfl (Nat.le_of_ble_eq_true rfl) ?_
  show Sim cX1_isText 1 RX1 (2) (some .boolean) (rI μ) 0 [(0, .inl p1)] [] μ (fX1_isText p1 μ)
  unfold fX1_isText
  refine S_iload_n dX1_isText_0 rfl ?_
  refine S_jn (fun (K1 : Option Int) => Sim cX1_isText 1 RX1 (2) (some .boolean) (rI μ) 13 [] [] μ K1) ?_ (fun K1 hK1 => ?_)
  · skip
    refine S_iconst dX1_isText_13 rfl ?_
    exact S_zret dX1_isText_14 rfl (by decide) rfl
  refine S_if_lt (tgt := 13) dX1_isText_1 (by decide) (fun h3 => ?_) (fun h3 => ?_)
  · exact S_sub [] rfl (hK1)
  · refine S_iload_n dX1_isText_4 rfl ?_
    refine S_iconst dX1_isText_5 rfl ?_
    refine S_ic_ge (tgt := 13) dX1_isText_6 (by decide) (fun h2 => ?_) (fun h2 => ?_)
    · exact S_sub [] rfl (hK1)
    · refine S_iconst dX1_isText_9 rfl ?_
      refine S_goto (tgt := 14) dX1_isText_10 (by decide) ?_
      exact S_zret dX1_isText_14 rfl (by decide) rfl
def fX1_text (p1 : Int) (p2 : Int) (μ : Mem) : Option (Int × Mem) :=
  (fX1_isText p1 μ).bind fun x1 =>
  if x1 = 0 then
    some ((-1), μ)
  else
    if p2 ≤ 60 then
      if 0 ≤ p2 then
        grd (0 ≤ p1 ∧ p1 < 4) <|
        mlet (wr μ 14 (p1).toNat p2) fun μ2 =>
        grd (0 ≤ p1 ∧ p1 < 4) <|
        mlet (10 + (p1).toNat) fun c3 =>
        (some (filM μ2 c3 60 (w8 32))).bind fun μ4 =>
        some (p2, μ4)
      else
        bnd2 (fX1_found 5 μ) fun x5 μ6 =>
        some (x5, μ6)
    else
      some ((-1), μ)
theorem K_X1_text  (p1 : Int) (p2 : Int)  (μ : Mem) : Con yX1_text cX1_text 3 (some .int) 4 [.inr (.inr 0), .inl p1, .inl p2] μ (fX1_text p1 p2 μ) wI := by
  refine con_of (own := RX1) (by decide) rfl (Nat.le_of_ble_eq_true rfl) ?_
  show Sim cX1_text 3 RX1 (4) (some .int) wI 0 [(0, .inr (.inr 0)), (1, .inl p1), (2, .inl p2)] [] μ (fX1_text p1 p2 μ)
  unfold fX1_text
  refine S_iload_n dX1_text_0 rfl ?_
  refine S_callS_I dX1_text_1 [.inl p1] (K_X1_isText p1 μ) l_X1_108 yo_X1_isText rfl rfl rfl (fun x1 => ?_)
  refine S_if_eq (tgt := 13) dX1_text_4 (by decide) (fun h9 => ?_) (fun h9 => ?_)
  · refine S_iconst dX1_text_13 rfl ?_
    exact S_iret dX1_text_14 rfl rfl
  · refine S_iload_n dX1_text_7 rfl ?_
    refine S_bipush dX1_text_8 rfl (by decide) ?_
    refine S_ic_le (tgt := 15) dX1_text_10 (by decide) (fun h8 => ?_) (fun h8 => ?_)
    · refine S_iload_n dX1_text_15 rfl ?_
      refine S_if_ge (tgt := 25) dX1_text_16 (by decide) (fun h7 => ?_) (fun h7 => ?_)
      · refine S_aload_n dX1_text_25 rfl ?_
        refine S_getR (c1 := 14) dX1_text_26 rfl fl_X1_23 rfl rfl rfl ?_
        refine S_iload_n dX1_text_29 rfl ?_
        refine S_iload_n dX1_text_30 rfl ?_
        refine S_iast (N := 4) dX1_text_31 rfl (by decide) rfl (fun μ2 => ?_)
        refine S_aload_n dX1_text_32 rfl ?_
        refine S_getR (c1 := 9) dX1_text_33 rfl fl_X1_20 rfl rfl rfl ?_
        refine S_iload_n dX1_text_36 rfl ?_
        refine S_aald (N := 4) (c1 := 10) (c2 := 14) dX1_text_37 rfl (by decide) (by decide) rfl rfl rfl (fun c3 hc3 => ?_)
        refine S_bipush dX1_text_38 rfl (by decide) ?_
        refine S_callS_V dX1_text_40 [.inr (.inr c3), .inl 32] (K_fillB (kd_text hc3) (fam_lt hc3 (by decide)) (by decide) 32 μ2) jl_X1_111 jy_fillB rfl rfl rfl (fun μ4 => ?_)
        refine S_iload_n dX1_text_43 rfl ?_
        exact S_iret dX1_text_44 rfl rfl
      · refine S_aload_n dX1_text_19 rfl ?_
        refine S_iconst dX1_text_20 rfl ?_
        refine S_callV_M2 dX1_text_21 [.inl 5] (K_X1_found 5 μ) l_X1_87 yo_X1_found rfl rfl rfl rfl rfl (fun x5 μ6 => ?_)
        exact S_iret dX1_text_24 rfl rfl
    · refine S_iconst dX1_text_13 rfl ?_
      exact S_iret dX1_text_14 rfl rfl
