theorem dX0_daringOf_0 : decode cX0_daringOf 0 = .ok (.iconst 0, 1) := by decide +kernel
theorem dX0_daringOf_1 : decode cX0_daringOf 1 = .ok (.istore_n 2, 1) := by decide +kernel
theorem dX0_daringOf_2 : decode cX0_daringOf 2 = .ok (.iconst 0, 1) := by decide +kernel
theorem dX0_daringOf_3 : decode cX0_daringOf 3 = .ok (.istore_n 3, 1) := by decide +kernel
theorem dX0_daringOf_4 : decode cX0_daringOf 4 = .ok (.iload_n 3, 1) := by decide +kernel
theorem dX0_daringOf_5 : decode cX0_daringOf 5 = .ok (.aload_n 0, 1) := by decide +kernel
theorem dX0_daringOf_6 : decode cX0_daringOf 6 = .ok (.getfield 24, 3) := by decide +kernel
theorem dX0_daringOf_9 : decode cX0_daringOf 9 = .ok (.if_icmp .ge 26, 3) := by decide +kernel
theorem dX0_daringOf_12 : decode cX0_daringOf 12 = .ok (.iload_n 1, 1) := by decide +kernel
theorem dX0_daringOf_13 : decode cX0_daringOf 13 = .ok (.iload_n 3, 1) := by decide +kernel
theorem dX0_daringOf_14 : decode cX0_daringOf 14 = .ok (.ishr, 1) := by decide +kernel
theorem dX0_daringOf_15 : decode cX0_daringOf 15 = .ok (.iconst 1, 1) := by decide +kernel
theorem dX0_daringOf_16 : decode cX0_daringOf 16 = .ok (.iand, 1) := by decide +kernel
theorem dX0_daringOf_17 : decode cX0_daringOf 17 = .ok (.ifCond .eq 12, 3) := by decide +kernel
theorem dX0_daringOf_20 : decode cX0_daringOf 20 = .ok (.iload_n 2, 1) := by decide +kernel
theorem dX0_daringOf_21 : decode cX0_daringOf 21 = .ok (.aload_n 0, 1) := by decide +kernel
theorem dX0_daringOf_22 : decode cX0_daringOf 22 = .ok (.getfield 18, 3) := by decide +kernel
theorem dX0_daringOf_25 : decode cX0_daringOf 25 = .ok (.iload_n 3, 1) := by decide +kernel
theorem dX0_daringOf_26 : decode cX0_daringOf 26 = .ok (.iaload, 1) := by decide +kernel
theorem dX0_daringOf_27 : decode cX0_daringOf 27 = .ok (.iadd, 1) := by decide +kernel
theorem dX0_daringOf_28 : decode cX0_daringOf 28 = .ok (.istore_n 2, 1) := by decide +kernel
theorem dX0_daringOf_29 : decode cX0_daringOf 29 = .ok (.iinc 3 1, 3) := by decide +kernel
theorem dX0_daringOf_32 : decode cX0_daringOf 32 = .ok (.goto (-28), 3) := by decide +kernel
theorem dX0_daringOf_35 : decode cX0_daringOf 35 = .ok (.iload_n 2, 1) := by decide +kernel
theorem dX0_daringOf_36 : decode cX0_daringOf 36 = .ok (.ireturn, 1) := by decide +kernel
theorem dX0_allCrossings_0 : decode cX0_allCrossings 0 = .ok (.iconst 0, 1) := by decide +kernel
theorem dX0_allCrossings_1 : decode cX0_allCrossings 1 = .ok (.istore_n 1, 1) := by decide +kernel
theorem dX0_allCrossings_2 : decode cX0_allCrossings 2 = .ok (.iconst 0, 1) := by decide +kernel
theorem dX0_allCrossings_3 : decode cX0_allCrossings 3 = .ok (.istore_n 2, 1) := by decide +kernel
theorem dX0_allCrossings_4 : decode cX0_allCrossings 4 = .ok (.iload_n 2, 1) := by decide +kernel
theorem dX0_allCrossings_5 : decode cX0_allCrossings 5 = .ok (.aload_n 0, 1) := by decide +kernel
theorem dX0_allCrossings_6 : decode cX0_allCrossings 6 = .ok (.getfield 24, 3) := by decide +kernel
theorem dX0_allCrossings_9 : decode cX0_allCrossings 9 = .ok (.if_icmp .ge 18, 3) := by decide +kernel
theorem dX0_allCrossings_12 : decode cX0_allCrossings 12 = .ok (.iload_n 1, 1) := by decide +kernel
theorem dX0_allCrossings_13 : decode cX0_allCrossings 13 = .ok (.aload_n 0, 1) := by decide +kernel
theorem dX0_allCrossings_14 : decode cX0_allCrossings 14 = .ok (.getfield 21, 3) := by decide +kernel
theorem dX0_allCrossings_17 : decode cX0_allCrossings 17 = .ok (.iload_n 2, 1) := by decide +kernel
theorem dX0_allCrossings_18 : decode cX0_allCrossings 18 = .ok (.iaload, 1) := by decide +kernel
theorem dX0_allCrossings_19 : decode cX0_allCrossings 19 = .ok (.iadd, 1) := by decide +kernel
theorem dX0_allCrossings_20 : decode cX0_allCrossings 20 = .ok (.istore_n 1, 1) := by decide +kernel
theorem dX0_allCrossings_21 : decode cX0_allCrossings 21 = .ok (.iinc 2 1, 3) := by decide +kernel
theorem dX0_allCrossings_24 : decode cX0_allCrossings 24 = .ok (.goto (-20), 3) := by decide +kernel
theorem dX0_allCrossings_27 : decode cX0_allCrossings 27 = .ok (.iload_n 1, 1) := by decide +kernel
theorem dX0_allCrossings_28 : decode cX0_allCrossings 28 = .ok (.ireturn, 1) := by decide +kernel
theorem dX1_isWithin_0 : decode cX1_isWithin 0 = .ok (.iload_n 0, 1) := by decide +kernel
theorem dX1_isWithin_1 : decode cX1_isWithin 1 = .ok (.iload_n 1, 1) := by decide +kernel
theorem dX1_isWithin_2 : decode cX1_isWithin 2 = .ok (.if_icmp .lt 12, 3) := by decide +kernel
theorem dX1_isWithin_5 : decode cX1_isWithin 5 = .ok (.iload_n 0, 1) := by decide +kernel
theorem dX1_isWithin_6 : decode cX1_isWithin 6 = .ok (.iload_n 2, 1) := by decide +kernel
theorem dX1_isWithin_7 : decode cX1_isWithin 7 = .ok (.if_icmp .gt 7, 3) := by decide +kernel
theorem dX1_isWithin_10 : decode cX1_isWithin 10 = .ok (.iconst 1, 1) := by decide +kernel
theorem dX1_isWithin_11 : decode cX1_isWithin 11 = .ok (.goto 4, 3) := by decide +kernel
theorem dX1_isWithin_14 : decode cX1_isWithin 14 = .ok (.iconst 0, 1) := by decide +kernel
theorem dX1_isWithin_15 : decode cX1_isWithin 15 = .ok (.ireturn, 1) := by decide +kernel
theorem dX1_found_0 : decode cX1_found 0 = .ok (.iload_n 1, 1) := by decide +kernel
theorem dX1_found_1 : decode cX1_found 1 = .ok (.iconst 1, 1) := by decide +kernel
theorem dX1_found_2 : decode cX1_found 2 = .ok (.iconst 5, 1) := by decide +kernel
theorem dX1_found_3 : decode cX1_found 3 = .ok (.invokestatic 128, 3) := by decide +kernel
theorem dX1_found_6 : decode cX1_found 6 = .ok (.ifCond .eq 18, 3) := by decide +kernel
theorem dX1_found_9 : decode cX1_found 9 = .ok (.aload_n 0, 1) := by decide +kernel
theorem dX1_found_10 : decode cX1_found 10 = .ok (.iload_n 1, 1) := by decide +kernel
theorem dX1_found_11 : decode cX1_found 11 = .ok (.putfield 62, 3) := by decide +kernel
theorem dX1_found_14 : decode cX1_found 14 = .ok (.aload_n 0, 1) := by decide +kernel
theorem dX1_found_15 : decode cX1_found 15 = .ok (.getfield 65, 3) := by decide +kernel
theorem dX1_found_18 : decode cX1_found 18 = .ok (.iload_n 1, 1) := by decide +kernel
theorem dX1_found_19 : decode cX1_found 19 = .ok (.dup2, 1) := by decide +kernel
theorem dX1_found_20 : decode cX1_found 20 = .ok (.iaload, 1) := by decide +kernel
theorem dX1_found_21 : decode cX1_found 21 = .ok (.iconst 1, 1) := by decide +kernel
theorem dX1_found_22 : decode cX1_found 22 = .ok (.iadd, 1) := by decide +kernel
theorem dX1_found_23 : decode cX1_found 23 = .ok (.iastore, 1) := by decide +kernel
theorem dX1_found_24 : decode cX1_found 24 = .ok (.bipush (-3), 2) := by decide +kernel
theorem dX1_found_26 : decode cX1_found 26 = .ok (.ireturn, 1) := by decide +kernel
theorem dX1_isRow_0 : decode cX1_isRow 0 = .ok (.iload_n 0, 1) := by decide +kernel
theorem dX1_isRow_1 : decode cX1_isRow 1 = .ok (.ifCond .lt 13, 3) := by decide +kernel
theorem dX1_isRow_4 : decode cX1_isRow 4 = .ok (.iload_n 0, 1) := by decide +kernel
theorem dX1_isRow_5 : decode cX1_isRow 5 = .ok (.bipush 6, 2) := by decide +kernel
theorem dX1_isRow_7 : decode cX1_isRow 7 = .ok (.if_icmp .ge 7, 3) := by decide +kernel
theorem dX1_isRow_10 : decode cX1_isRow 10 = .ok (.iconst 1, 1) := by decide +kernel
theorem dX1_isRow_11 : decode cX1_isRow 11 = .ok (.goto 4, 3) := by decide +kernel
theorem dX1_isRow_14 : decode cX1_isRow 14 = .ok (.iconst 0, 1) := by decide +kernel
theorem dX1_isRow_15 : decode cX1_isRow 15 = .ok (.ireturn, 1) := by decide +kernel
theorem dX1_layAnew_0 : decode cX1_layAnew 0 = .ok (.aload_n 0, 1) := by decide +kernel
theorem dX1_layAnew_1 : decode cX1_layAnew 1 = .ok (.getfield 14, 3) := by decide +kernel
theorem dX1_layAnew_4 : decode cX1_layAnew 4 = .ok (.iload_n 1, 1) := by decide +kernel
theorem dX1_layAnew_5 : decode cX1_layAnew 5 = .ok (.iload_n 2, 1) := by decide +kernel
theorem dX1_layAnew_6 : decode cX1_layAnew 6 = .ok (.iastore, 1) := by decide +kernel
theorem dX1_layAnew_7 : decode cX1_layAnew 7 = .ok (.aload_n 0, 1) := by decide +kernel
theorem dX1_layAnew_8 : decode cX1_layAnew 8 = .ok (.getfield 11, 3) := by decide +kernel
theorem dX1_layAnew_11 : decode cX1_layAnew 11 = .ok (.iload_n 1, 1) := by decide +kernel
theorem dX1_layAnew_12 : decode cX1_layAnew 12 = .ok (.aaload, 1) := by decide +kernel
theorem dX1_layAnew_13 : decode cX1_layAnew 13 = .ok (.iconst 0, 1) := by decide +kernel
theorem dX1_layAnew_14 : decode cX1_layAnew 14 = .ok (.invokestatic 77, 3) := by decide +kernel
theorem dX1_layAnew_17 : decode cX1_layAnew 17 = .ok (.return_, 1) := by decide +kernel
theorem dX1_row_0 : decode cX1_row 0 = .ok (.iload_n 1, 1) := by decide +kernel
theorem dX1_row_1 : decode cX1_row 1 = .ok (.invokestatic 83, 3) := by decide +kernel
theorem dX1_row_4 : decode cX1_row 4 = .ok (.ifCond .eq 9, 3) := by decide +kernel
theorem dX1_row_7 : decode cX1_row 7 = .ok (.iload_n 2, 1) := by decide +kernel
theorem dX1_row_8 : decode cX1_row 8 = .ok (.bipush 40, 2) := by decide +kernel
theorem dX1_row_10 : decode cX1_row 10 = .ok (.if_icmp .le 5, 3) := by decide +kernel
theorem dX1_row_13 : decode cX1_row 13 = .ok (.iconst (-1), 1) := by decide +kernel
theorem dX1_row_14 : decode cX1_row 14 = .ok (.ireturn, 1) := by decide +kernel
theorem dX1_row_15 : decode cX1_row 15 = .ok (.iload_n 2, 1) := by decide +kernel
theorem dX1_row_16 : decode cX1_row 16 = .ok (.ifCond .ge 9, 3) := by decide +kernel
theorem dX1_row_19 : decode cX1_row 19 = .ok (.aload_n 0, 1) := by decide +kernel
theorem dX1_row_20 : decode cX1_row 20 = .ok (.iconst 5, 1) := by decide +kernel
theorem dX1_row_21 : decode cX1_row 21 = .ok (.invokevirtual 87, 3) := by decide +kernel
theorem dX1_row_24 : decode cX1_row 24 = .ok (.ireturn, 1) := by decide +kernel
theorem dX1_row_25 : decode cX1_row 25 = .ok (.aload_n 0, 1) := by decide +kernel
theorem dX1_row_26 : decode cX1_row 26 = .ok (.iload_n 1, 1) := by decide +kernel
theorem dX1_row_27 : decode cX1_row 27 = .ok (.iload_n 2, 1) := by decide +kernel
theorem dX1_row_28 : decode cX1_row 28 = .ok (.invokevirtual 91, 3) := by decide +kernel
theorem dX1_row_31 : decode cX1_row 31 = .ok (.iload_n 2, 1) := by decide +kernel
theorem dX1_row_32 : decode cX1_row 32 = .ok (.ireturn, 1) := by decide +kernel
theorem dX1_refusalOfPlace_0 : decode cX1_refusalOfPlace 0 = .ok (.iload_n 1, 1) := by decide +kernel
theorem dX1_refusalOfPlace_1 : decode cX1_refusalOfPlace 1 = .ok (.invokestatic 83, 3) := by decide +kernel
theorem dX1_refusalOfPlace_4 : decode cX1_refusalOfPlace 4 = .ok (.ifCond .ne 5, 3) := by decide +kernel
theorem dX1_refusalOfPlace_7 : decode cX1_refusalOfPlace 7 = .ok (.iconst (-1), 1) := by decide +kernel
theorem dX1_refusalOfPlace_8 : decode cX1_refusalOfPlace 8 = .ok (.ireturn, 1) := by decide +kernel
theorem dX1_refusalOfPlace_9 : decode cX1_refusalOfPlace 9 = .ok (.aload_n 0, 1) := by decide +kernel
theorem dX1_refusalOfPlace_10 : decode cX1_refusalOfPlace 10 = .ok (.getfield 14, 3) := by decide +kernel
theorem dX1_refusalOfPlace_13 : decode cX1_refusalOfPlace 13 = .ok (.iload_n 1, 1) := by decide +kernel
theorem dX1_refusalOfPlace_14 : decode cX1_refusalOfPlace 14 = .ok (.iaload, 1) := by decide +kernel
theorem dX1_refusalOfPlace_15 : decode cX1_refusalOfPlace 15 = .ok (.ifCond .ge 9, 3) := by decide +kernel
theorem dX1_refusalOfPlace_18 : decode cX1_refusalOfPlace 18 = .ok (.aload_n 0, 1) := by decide +kernel
theorem dX1_refusalOfPlace_19 : decode cX1_refusalOfPlace 19 = .ok (.iconst 1, 1) := by decide +kernel
theorem dX1_refusalOfPlace_20 : decode cX1_refusalOfPlace 20 = .ok (.invokevirtual 87, 3) := by decide +kernel
theorem dX1_refusalOfPlace_23 : decode cX1_refusalOfPlace 23 = .ok (.ireturn, 1) := by decide +kernel
theorem dX1_refusalOfPlace_24 : decode cX1_refusalOfPlace 24 = .ok (.iload_n 2, 1) := by decide +kernel
theorem dX1_refusalOfPlace_25 : decode cX1_refusalOfPlace 25 = .ok (.ifCond .lt 13, 3) := by decide +kernel
theorem dX1_refusalOfPlace_28 : decode cX1_refusalOfPlace 28 = .ok (.iload_n 2, 1) := by decide +kernel
theorem dX1_refusalOfPlace_29 : decode cX1_refusalOfPlace 29 = .ok (.aload_n 0, 1) := by decide +kernel
theorem dX1_refusalOfPlace_30 : decode cX1_refusalOfPlace 30 = .ok (.getfield 14, 3) := by decide +kernel
theorem dX1_refusalOfPlace_33 : decode cX1_refusalOfPlace 33 = .ok (.iload_n 1, 1) := by decide +kernel
theorem dX1_refusalOfPlace_34 : decode cX1_refusalOfPlace 34 = .ok (.iaload, 1) := by decide +kernel
theorem dX1_refusalOfPlace_35 : decode cX1_refusalOfPlace 35 = .ok (.if_icmp .lt 11, 3) := by decide +kernel
theorem dX1_refusalOfPlace_38 : decode cX1_refusalOfPlace 38 = .ok (.aload_n 0, 1) := by decide +kernel
theorem dX1_refusalOfPlace_39 : decode cX1_refusalOfPlace 39 = .ok (.iconst 2, 1) := by decide +kernel
theorem dX1_refusalOfPlace_40 : decode cX1_refusalOfPlace 40 = .ok (.invokevirtual 87, 3) := by decide +kernel
theorem dX1_refusalOfPlace_43 : decode cX1_refusalOfPlace 43 = .ok (.goto 4, 3) := by decide +kernel
theorem dX1_refusalOfPlace_46 : decode cX1_refusalOfPlace 46 = .ok (.iconst 0, 1) := by decide +kernel
theorem dX1_refusalOfPlace_47 : decode cX1_refusalOfPlace 47 = .ok (.ireturn, 1) := by decide +kernel
theorem dX1_tell_0 : decode cX1_tell 0 = .ok (.aload_n 0, 1) := by decide +kernel
theorem dX1_tell_1 : decode cX1_tell 1 = .ok (.iload_n 1, 1) := by decide +kernel
theorem dX1_tell_2 : decode cX1_tell 2 = .ok (.putfield 52, 3) := by decide +kernel
theorem dX1_tell_5 : decode cX1_tell 5 = .ok (.iconst 1, 1) := by decide +kernel
theorem dX1_tell_6 : decode cX1_tell 6 = .ok (.ireturn, 1) := by decide +kernel
theorem dX1_lay_0 : decode cX1_lay 0 = .ok (.aload_n 0, 1) := by decide +kernel
theorem dX1_lay_1 : decode cX1_lay 1 = .ok (.iload_n 1, 1) := by decide +kernel
theorem dX1_lay_2 : decode cX1_lay 2 = .ok (.iload_n 2, 1) := by decide +kernel
theorem dX1_lay_3 : decode cX1_lay 3 = .ok (.invokevirtual 95, 3) := by decide +kernel
theorem dX1_lay_6 : decode cX1_lay 6 = .ok (.istore 4, 2) := by decide +kernel
theorem dX1_lay_8 : decode cX1_lay 8 = .ok (.iload 4, 2) := by decide +kernel
theorem dX1_lay_10 : decode cX1_lay 10 = .ok (.ifCond .eq 6, 3) := by decide +kernel
theorem dX1_lay_13 : decode cX1_lay 13 = .ok (.iload 4, 2) := by decide +kernel
theorem dX1_lay_15 : decode cX1_lay 15 = .ok (.ireturn, 1) := by decide +kernel
theorem dX1_lay_16 : decode cX1_lay 16 = .ok (.aload_n 0, 1) := by decide +kernel
theorem dX1_lay_17 : decode cX1_lay 17 = .ok (.getfield 11, 3) := by decide +kernel
theorem dX1_lay_20 : decode cX1_lay 20 = .ok (.iload_n 1, 1) := by decide +kernel
theorem dX1_lay_21 : decode cX1_lay 21 = .ok (.aaload, 1) := by decide +kernel
theorem dX1_lay_22 : decode cX1_lay 22 = .ok (.iload_n 2, 1) := by decide +kernel
theorem dX1_lay_23 : decode cX1_lay 23 = .ok (.iaload, 1) := by decide +kernel
theorem dX1_lay_24 : decode cX1_lay 24 = .ok (.istore 5, 2) := by decide +kernel
theorem dX1_lay_26 : decode cX1_lay 26 = .ok (.aload_n 0, 1) := by decide +kernel
theorem dX1_lay_27 : decode cX1_lay 27 = .ok (.getfield 11, 3) := by decide +kernel
theorem dX1_lay_30 : decode cX1_lay 30 = .ok (.iload_n 1, 1) := by decide +kernel
theorem dX1_lay_31 : decode cX1_lay 31 = .ok (.aaload, 1) := by decide +kernel
theorem dX1_lay_32 : decode cX1_lay 32 = .ok (.iload_n 2, 1) := by decide +kernel
theorem dX1_lay_33 : decode cX1_lay 33 = .ok (.iload_n 3, 1) := by decide +kernel
theorem dX1_lay_34 : decode cX1_lay 34 = .ok (.iastore, 1) := by decide +kernel
theorem dX1_lay_35 : decode cX1_lay 35 = .ok (.aload_n 0, 1) := by decide +kernel
theorem dX1_lay_36 : decode cX1_lay 36 = .ok (.iload 5, 2) := by decide +kernel
theorem dX1_lay_38 : decode cX1_lay 38 = .ok (.invokevirtual 99, 3) := by decide +kernel
theorem dX1_lay_41 : decode cX1_lay 41 = .ok (.ireturn, 1) := by decide +kernel
theorem dX1_at_0 : decode cX1_at 0 = .ok (.aload_n 0, 1) := by decide +kernel
theorem dX1_at_1 : decode cX1_at 1 = .ok (.iload_n 1, 1) := by decide +kernel
theorem dX1_at_2 : decode cX1_at 2 = .ok (.iload_n 2, 1) := by decide +kernel
theorem dX1_at_3 : decode cX1_at 3 = .ok (.invokevirtual 95, 3) := by decide +kernel
theorem dX1_at_6 : decode cX1_at 6 = .ok (.istore_n 3, 1) := by decide +kernel
theorem dX1_at_7 : decode cX1_at 7 = .ok (.iload_n 3, 1) := by decide +kernel
theorem dX1_at_8 : decode cX1_at 8 = .ok (.ifCond .eq 5, 3) := by decide +kernel
theorem dX1_at_11 : decode cX1_at 11 = .ok (.iload_n 3, 1) := by decide +kernel
theorem dX1_at_12 : decode cX1_at 12 = .ok (.ireturn, 1) := by decide +kernel
theorem dX1_at_13 : decode cX1_at 13 = .ok (.aload_n 0, 1) := by decide +kernel
theorem dX1_at_14 : decode cX1_at 14 = .ok (.aload_n 0, 1) := by decide +kernel
theorem dX1_at_15 : decode cX1_at 15 = .ok (.getfield 11, 3) := by decide +kernel
theorem dX1_at_18 : decode cX1_at 18 = .ok (.iload_n 1, 1) := by decide +kernel
theorem dX1_at_19 : decode cX1_at 19 = .ok (.aaload, 1) := by decide +kernel
theorem dX1_at_20 : decode cX1_at 20 = .ok (.iload_n 2, 1) := by decide +kernel
theorem dX1_at_21 : decode cX1_at 21 = .ok (.iaload, 1) := by decide +kernel
theorem dX1_at_22 : decode cX1_at 22 = .ok (.invokevirtual 99, 3) := by decide +kernel
theorem dX1_at_25 : decode cX1_at 25 = .ok (.ireturn, 1) := by decide +kernel
theorem dX1_tear_0 : decode cX1_tear 0 = .ok (.iload_n 1, 1) := by decide +kernel
theorem dX1_tear_1 : decode cX1_tear 1 = .ok (.invokestatic 83, 3) := by decide +kernel
theorem dX1_tear_4 : decode cX1_tear 4 = .ok (.ifCond .ne 5, 3) := by decide +kernel
theorem dX1_tear_7 : decode cX1_tear 7 = .ok (.iconst (-1), 1) := by decide +kernel
theorem dX1_tear_8 : decode cX1_tear 8 = .ok (.ireturn, 1) := by decide +kernel
theorem dX1_tear_9 : decode cX1_tear 9 = .ok (.aload_n 0, 1) := by decide +kernel
theorem dX1_tear_10 : decode cX1_tear 10 = .ok (.getfield 14, 3) := by decide +kernel
theorem dX1_tear_13 : decode cX1_tear 13 = .ok (.iload_n 1, 1) := by decide +kernel
theorem dX1_tear_14 : decode cX1_tear 14 = .ok (.iaload, 1) := by decide +kernel
theorem dX1_tear_15 : decode cX1_tear 15 = .ok (.ifCond .ge 9, 3) := by decide +kernel
theorem dX1_tear_18 : decode cX1_tear 18 = .ok (.aload_n 0, 1) := by decide +kernel
theorem dX1_tear_19 : decode cX1_tear 19 = .ok (.iconst 1, 1) := by decide +kernel
theorem dX1_tear_20 : decode cX1_tear 20 = .ok (.invokevirtual 87, 3) := by decide +kernel
theorem dX1_tear_23 : decode cX1_tear 23 = .ok (.ireturn, 1) := by decide +kernel
theorem dX1_tear_24 : decode cX1_tear 24 = .ok (.aload_n 0, 1) := by decide +kernel
theorem dX1_tear_25 : decode cX1_tear 25 = .ok (.getfield 14, 3) := by decide +kernel
theorem dX1_tear_28 : decode cX1_tear 28 = .ok (.iload_n 1, 1) := by decide +kernel
theorem dX1_tear_29 : decode cX1_tear 29 = .ok (.iconst (-1), 1) := by decide +kernel
theorem dX1_tear_30 : decode cX1_tear 30 = .ok (.iastore, 1) := by decide +kernel
theorem dX1_tear_31 : decode cX1_tear 31 = .ok (.iconst 1, 1) := by decide +kernel
theorem dX1_tear_32 : decode cX1_tear 32 = .ok (.ireturn, 1) := by decide +kernel
theorem dX1_isText_0 : decode cX1_isText 0 = .ok (.iload_n 0, 1) := by decide +kernel
theorem dX1_isText_1 : decode cX1_isText 1 = .ok (.ifCond .lt 12, 3) := by decide +kernel
theorem dX1_isText_4 : decode cX1_isText 4 = .ok (.iload_n 0, 1) := by decide +kernel
theorem dX1_isText_5 : decode cX1_isText 5 = .ok (.iconst 4, 1) := by decide +kernel
theorem dX1_isText_6 : decode cX1_isText 6 = .ok (.if_icmp .ge 7, 3) := by decide +kernel
theorem dX1_isText_9 : decode cX1_isText 9 = .ok (.iconst 1, 1) := by decide +kernel
theorem dX1_isText_10 : decode cX1_isText 10 = .ok (.goto 4, 3) := by decide +kernel
theorem dX1_isText_13 : decode cX1_isText 13 = .ok (.iconst 0, 1) := by decide +kernel
theorem dX1_isText_14 : decode cX1_isText 14 = .ok (.ireturn, 1) := by decide +kernel
theorem dX1_text_0 : decode cX1_text 0 = .ok (.iload_n 1, 1) := by decide +kernel
theorem dX1_text_1 : decode cX1_text 1 = .ok (.invokestatic 108, 3) := by decide +kernel
theorem dX1_text_4 : decode cX1_text 4 = .ok (.ifCond .eq 9, 3) := by decide +kernel
theorem dX1_text_7 : decode cX1_text 7 = .ok (.iload_n 2, 1) := by decide +kernel
theorem dX1_text_8 : decode cX1_text 8 = .ok (.bipush 60, 2) := by decide +kernel
theorem dX1_text_10 : decode cX1_text 10 = .ok (.if_icmp .le 5, 3) := by decide +kernel
theorem dX1_text_13 : decode cX1_text 13 = .ok (.iconst (-1), 1) := by decide +kernel
theorem dX1_text_14 : decode cX1_text 14 = .ok (.ireturn, 1) := by decide +kernel
theorem dX1_text_15 : decode cX1_text 15 = .ok (.iload_n 2, 1) := by decide +kernel
theorem dX1_text_16 : decode cX1_text 16 = .ok (.ifCond .ge 9, 3) := by decide +kernel
theorem dX1_text_19 : decode cX1_text 19 = .ok (.aload_n 0, 1) := by decide +kernel
theorem dX1_text_20 : decode cX1_text 20 = .ok (.iconst 5, 1) := by decide +kernel
theorem dX1_text_21 : decode cX1_text 21 = .ok (.invokevirtual 87, 3) := by decide +kernel
theorem dX1_text_24 : decode cX1_text 24 = .ok (.ireturn, 1) := by decide +kernel
theorem dX1_text_25 : decode cX1_text 25 = .ok (.aload_n 0, 1) := by decide +kernel
theorem dX1_text_26 : decode cX1_text 26 = .ok (.getfield 23, 3) := by decide +kernel
theorem dX1_text_29 : decode cX1_text 29 = .ok (.iload_n 1, 1) := by decide +kernel
theorem dX1_text_30 : decode cX1_text 30 = .ok (.iload_n 2, 1) := by decide +kernel
theorem dX1_text_31 : decode cX1_text 31 = .ok (.iastore, 1) := by decide +kernel
theorem dX1_text_32 : decode cX1_text 32 = .ok (.aload_n 0, 1) := by decide +kernel
theorem dX1_text_33 : decode cX1_text 33 = .ok (.getfield 20, 3) := by decide +kernel
theorem dX1_text_36 : decode cX1_text 36 = .ok (.iload_n 1, 1) := by decide +kernel
theorem dX1_text_37 : decode cX1_text 37 = .ok (.aaload, 1) := by decide +kernel
theorem dX1_text_38 : decode cX1_text 38 = .ok (.bipush 32, 2) := by decide +kernel
theorem dX1_text_40 : decode cX1_text 40 = .ok (.invokestatic 111, 3) := by decide +kernel
theorem dX1_text_43 : decode cX1_text 43 = .ok (.iload_n 2, 1) := by decide +kernel
theorem dX1_text_44 : decode cX1_text 44 = .ok (.ireturn, 1) := by decide +kernel
theorem dX1_put_0 : decode cX1_put 0 = .ok (.iload_n 1, 1) := by decide +kernel
theorem dX1_put_1 : decode cX1_put 1 = .ok (.invokestatic 108, 3) := by decide +kernel
theorem dX1_put_4 : decode cX1_put 4 = .ok (.ifCond .ne 5, 3) := by decide +kernel
theorem dX1_put_7 : decode cX1_put 7 = .ok (.iconst (-1), 1) := by decide +kernel
theorem dX1_put_8 : decode cX1_put 8 = .ok (.ireturn, 1) := by decide +kernel
theorem dX1_put_9 : decode cX1_put 9 = .ok (.aload_n 0, 1) := by decide +kernel
theorem dX1_put_10 : decode cX1_put 10 = .ok (.getfield 23, 3) := by decide +kernel
theorem dX1_put_13 : decode cX1_put 13 = .ok (.iload_n 1, 1) := by decide +kernel
theorem dX1_put_14 : decode cX1_put 14 = .ok (.iaload, 1) := by decide +kernel
theorem dX1_put_15 : decode cX1_put 15 = .ok (.ifCond .ge 9, 3) := by decide +kernel
theorem dX1_put_18 : decode cX1_put 18 = .ok (.aload_n 0, 1) := by decide +kernel
theorem dX1_put_19 : decode cX1_put 19 = .ok (.iconst 1, 1) := by decide +kernel
theorem dX1_put_20 : decode cX1_put 20 = .ok (.invokevirtual 87, 3) := by decide +kernel
theorem dX1_put_23 : decode cX1_put 23 = .ok (.ireturn, 1) := by decide +kernel
theorem dX1_put_24 : decode cX1_put 24 = .ok (.iload_n 2, 1) := by decide +kernel
theorem dX1_put_25 : decode cX1_put 25 = .ok (.ifCond .lt 13, 3) := by decide +kernel
theorem dX1_put_28 : decode cX1_put 28 = .ok (.iload_n 2, 1) := by decide +kernel
theorem dX1_put_29 : decode cX1_put 29 = .ok (.aload_n 0, 1) := by decide +kernel
theorem dX1_put_30 : decode cX1_put 30 = .ok (.getfield 23, 3) := by decide +kernel
theorem dX1_put_33 : decode cX1_put 33 = .ok (.iload_n 1, 1) := by decide +kernel
theorem dX1_put_34 : decode cX1_put 34 = .ok (.iaload, 1) := by decide +kernel
theorem dX1_put_35 : decode cX1_put 35 = .ok (.if_icmp .lt 9, 3) := by decide +kernel
theorem dX1_put_38 : decode cX1_put 38 = .ok (.aload_n 0, 1) := by decide +kernel
theorem dX1_put_39 : decode cX1_put 39 = .ok (.iconst 2, 1) := by decide +kernel
theorem dX1_put_40 : decode cX1_put 40 = .ok (.invokevirtual 87, 3) := by decide +kernel
theorem dX1_put_43 : decode cX1_put 43 = .ok (.ireturn, 1) := by decide +kernel
theorem dX1_put_44 : decode cX1_put 44 = .ok (.aload_n 0, 1) := by decide +kernel
theorem dX1_put_45 : decode cX1_put 45 = .ok (.getfield 20, 3) := by decide +kernel
theorem dX1_put_48 : decode cX1_put 48 = .ok (.iload_n 1, 1) := by decide +kernel
theorem dX1_put_49 : decode cX1_put 49 = .ok (.aaload, 1) := by decide +kernel
theorem dX1_put_50 : decode cX1_put 50 = .ok (.iload_n 2, 1) := by decide +kernel
theorem dX1_put_51 : decode cX1_put 51 = .ok (.baload, 1) := by decide +kernel
theorem dX1_put_52 : decode cX1_put 52 = .ok (.istore 4, 2) := by decide +kernel
theorem dX1_put_54 : decode cX1_put 54 = .ok (.aload_n 0, 1) := by decide +kernel
theorem dX1_put_55 : decode cX1_put 55 = .ok (.getfield 20, 3) := by decide +kernel
theorem dX1_put_58 : decode cX1_put 58 = .ok (.iload_n 1, 1) := by decide +kernel
theorem dX1_put_59 : decode cX1_put 59 = .ok (.aaload, 1) := by decide +kernel
theorem dX1_put_60 : decode cX1_put 60 = .ok (.iload_n 2, 1) := by decide +kernel
theorem dX1_put_61 : decode cX1_put 61 = .ok (.iload_n 3, 1) := by decide +kernel
theorem dX1_put_62 : decode cX1_put 62 = .ok (.i2b, 1) := by decide +kernel
theorem dX1_put_63 : decode cX1_put 63 = .ok (.bastore, 1) := by decide +kernel
theorem dX1_put_64 : decode cX1_put 64 = .ok (.iload 4, 2) := by decide +kernel
theorem dX1_put_66 : decode cX1_put 66 = .ok (.sipush 1000, 3) := by decide +kernel
theorem dX1_put_69 : decode cX1_put 69 = .ok (.iadd, 1) := by decide +kernel
theorem dX1_put_70 : decode cX1_put 70 = .ok (.ireturn, 1) := by decide +kernel
theorem dX1_firstNoFigure_0 : decode cX1_firstNoFigure 0 = .ok (.iload_n 2, 1) := by decide +kernel
theorem dX1_firstNoFigure_1 : decode cX1_firstNoFigure 1 = .ok (.istore 4, 2) := by decide +kernel
theorem dX1_firstNoFigure_3 : decode cX1_firstNoFigure 3 = .ok (.iload 4, 2) := by decide +kernel
theorem dX1_firstNoFigure_5 : decode cX1_firstNoFigure 5 = .ok (.iload_n 2, 1) := by decide +kernel
theorem dX1_firstNoFigure_6 : decode cX1_firstNoFigure 6 = .ok (.iload_n 3, 1) := by decide +kernel
theorem dX1_firstNoFigure_7 : decode cX1_firstNoFigure 7 = .ok (.iadd, 1) := by decide +kernel
theorem dX1_firstNoFigure_8 : decode cX1_firstNoFigure 8 = .ok (.if_icmp .ge 36, 3) := by decide +kernel
theorem dX1_firstNoFigure_11 : decode cX1_firstNoFigure 11 = .ok (.iload 4, 2) := by decide +kernel
theorem dX1_firstNoFigure_13 : decode cX1_firstNoFigure 13 = .ok (.iload_n 1, 1) := by decide +kernel
theorem dX1_firstNoFigure_14 : decode cX1_firstNoFigure 14 = .ok (.if_icmp .ge 21, 3) := by decide +kernel
theorem dX1_firstNoFigure_17 : decode cX1_firstNoFigure 17 = .ok (.aload_n 0, 1) := by decide +kernel
theorem dX1_firstNoFigure_18 : decode cX1_firstNoFigure 18 = .ok (.iload 4, 2) := by decide +kernel
theorem dX1_firstNoFigure_20 : decode cX1_firstNoFigure 20 = .ok (.baload, 1) := by decide +kernel
theorem dX1_firstNoFigure_21 : decode cX1_firstNoFigure 21 = .ok (.bipush 48, 2) := by decide +kernel
theorem dX1_firstNoFigure_23 : decode cX1_firstNoFigure 23 = .ok (.if_icmp .lt 12, 3) := by decide +kernel
theorem dX1_firstNoFigure_26 : decode cX1_firstNoFigure 26 = .ok (.aload_n 0, 1) := by decide +kernel
theorem dX1_firstNoFigure_27 : decode cX1_firstNoFigure 27 = .ok (.iload 4, 2) := by decide +kernel
theorem dX1_firstNoFigure_29 : decode cX1_firstNoFigure 29 = .ok (.baload, 1) := by decide +kernel
theorem dX1_firstNoFigure_30 : decode cX1_firstNoFigure 30 = .ok (.bipush 57, 2) := by decide +kernel
theorem dX1_firstNoFigure_32 : decode cX1_firstNoFigure 32 = .ok (.if_icmp .le 6, 3) := by decide +kernel
theorem dX1_firstNoFigure_35 : decode cX1_firstNoFigure 35 = .ok (.iload 4, 2) := by decide +kernel
theorem dX1_firstNoFigure_37 : decode cX1_firstNoFigure 37 = .ok (.ireturn, 1) := by decide +kernel
theorem dX1_firstNoFigure_38 : decode cX1_firstNoFigure 38 = .ok (.iinc 4 1, 3) := by decide +kernel
theorem dX1_firstNoFigure_41 : decode cX1_firstNoFigure 41 = .ok (.goto (-38), 3) := by decide +kernel
theorem dX1_firstNoFigure_44 : decode cX1_firstNoFigure 44 = .ok (.bipush (-9), 2) := by decide +kernel
theorem dX1_firstNoFigure_46 : decode cX1_firstNoFigure 46 = .ok (.ireturn, 1) := by decide +kernel
theorem dX1_pastBlanks_0 : decode cX1_pastBlanks 0 = .ok (.iload_n 2, 1) := by decide +kernel
theorem dX1_pastBlanks_1 : decode cX1_pastBlanks 1 = .ok (.istore_n 3, 1) := by decide +kernel
theorem dX1_pastBlanks_2 : decode cX1_pastBlanks 2 = .ok (.iload_n 3, 1) := by decide +kernel
theorem dX1_pastBlanks_3 : decode cX1_pastBlanks 3 = .ok (.iload_n 1, 1) := by decide +kernel
theorem dX1_pastBlanks_4 : decode cX1_pastBlanks 4 = .ok (.if_icmp .ge 17, 3) := by decide +kernel
theorem dX1_pastBlanks_7 : decode cX1_pastBlanks 7 = .ok (.aload_n 0, 1) := by decide +kernel
theorem dX1_pastBlanks_8 : decode cX1_pastBlanks 8 = .ok (.iload_n 3, 1) := by decide +kernel
theorem dX1_pastBlanks_9 : decode cX1_pastBlanks 9 = .ok (.baload, 1) := by decide +kernel
theorem dX1_pastBlanks_10 : decode cX1_pastBlanks 10 = .ok (.bipush 32, 2) := by decide +kernel
theorem dX1_pastBlanks_12 : decode cX1_pastBlanks 12 = .ok (.if_icmp .ne 9, 3) := by decide +kernel
theorem dX1_pastBlanks_15 : decode cX1_pastBlanks 15 = .ok (.iinc 3 1, 3) := by decide +kernel
theorem dX1_pastBlanks_18 : decode cX1_pastBlanks 18 = .ok (.goto (-16), 3) := by decide +kernel
theorem dX1_pastBlanks_21 : decode cX1_pastBlanks 21 = .ok (.iload_n 3, 1) := by decide +kernel
theorem dX1_pastBlanks_22 : decode cX1_pastBlanks 22 = .ok (.ireturn, 1) := by decide +kernel
theorem dX1_kindOf_0 : decode cX1_kindOf 0 = .ok (.iload_n 0, 1) := by decide +kernel
theorem dX1_kindOf_1 : decode cX1_kindOf 1 = .ok (.tableswitch 103 98 116 #[97, 103, 93, 95, 103, 103, 103, 103, 103, 103, 103, 103, 103, 103, 91, 101, 103, 103, 99], 91) := by decide +kernel
theorem dX1_kindOf_92 : decode cX1_kindOf 92 = .ok (.iconst 0, 1) := by decide +kernel
theorem dX1_kindOf_93 : decode cX1_kindOf 93 = .ok (.ireturn, 1) := by decide +kernel
theorem dX1_kindOf_94 : decode cX1_kindOf 94 = .ok (.iconst 1, 1) := by decide +kernel
theorem dX1_kindOf_95 : decode cX1_kindOf 95 = .ok (.ireturn, 1) := by decide +kernel
theorem dX1_kindOf_96 : decode cX1_kindOf 96 = .ok (.iconst 2, 1) := by decide +kernel
theorem dX1_kindOf_97 : decode cX1_kindOf 97 = .ok (.ireturn, 1) := by decide +kernel
theorem dX1_kindOf_98 : decode cX1_kindOf 98 = .ok (.iconst 3, 1) := by decide +kernel
theorem dX1_kindOf_99 : decode cX1_kindOf 99 = .ok (.ireturn, 1) := by decide +kernel
theorem dX1_kindOf_100 : decode cX1_kindOf 100 = .ok (.iconst 4, 1) := by decide +kernel
theorem dX1_kindOf_101 : decode cX1_kindOf 101 = .ok (.ireturn, 1) := by decide +kernel
theorem dX1_kindOf_102 : decode cX1_kindOf 102 = .ok (.iconst 5, 1) := by decide +kernel
theorem dX1_kindOf_103 : decode cX1_kindOf 103 = .ok (.ireturn, 1) := by decide +kernel
theorem dX1_kindOf_104 : decode cX1_kindOf 104 = .ok (.bipush (-9), 2) := by decide +kernel
theorem dX1_kindOf_106 : decode cX1_kindOf 106 = .ok (.ireturn, 1) := by decide +kernel
theorem dX1_readPersonAside_0 : decode cX1_readPersonAside 0 = .ok (.aload_n 1, 1) := by decide +kernel
theorem dX1_readPersonAside_1 : decode cX1_readPersonAside 1 = .ok (.iload_n 3, 1) := by decide +kernel
theorem dX1_readPersonAside_2 : decode cX1_readPersonAside 2 = .ok (.baload, 1) := by decide +kernel
theorem dX1_readPersonAside_3 : decode cX1_readPersonAside 3 = .ok (.invokestatic 275, 3) := by decide +kernel
theorem dX1_readPersonAside_6 : decode cX1_readPersonAside 6 = .ok (.istore 4, 2) := by decide +kernel
theorem dX1_readPersonAside_8 : decode cX1_readPersonAside 8 = .ok (.iload 4, 2) := by decide +kernel
theorem dX1_readPersonAside_10 : decode cX1_readPersonAside 10 = .ok (.bipush (-9), 2) := by decide +kernel
theorem dX1_readPersonAside_12 : decode cX1_readPersonAside 12 = .ok (.if_icmp .eq 15, 3) := by decide +kernel
theorem dX1_readPersonAside_15 : decode cX1_readPersonAside 15 = .ok (.aload_n 0, 1) := by decide +kernel
theorem dX1_readPersonAside_16 : decode cX1_readPersonAside 16 = .ok (.getfield 36, 3) := by decide +kernel
theorem dX1_readPersonAside_19 : decode cX1_readPersonAside 19 = .ok (.getfield 122, 3) := by decide +kernel
theorem dX1_readPersonAside_22 : decode cX1_readPersonAside 22 = .ok (.bipush 6, 2) := by decide +kernel
theorem dX1_readPersonAside_24 : decode cX1_readPersonAside 24 = .ok (.if_icmp .lt 5, 3) := by decide +kernel
theorem dX1_readPersonAside_27 : decode cX1_readPersonAside 27 = .ok (.iload_n 3, 1) := by decide +kernel
theorem dX1_readPersonAside_28 : decode cX1_readPersonAside 28 = .ok (.ireturn, 1) := by decide +kernel
theorem dX1_readPersonAside_29 : decode cX1_readPersonAside 29 = .ok (.aload_n 1, 1) := by decide +kernel
theorem dX1_readPersonAside_30 : decode cX1_readPersonAside 30 = .ok (.iload_n 2, 1) := by decide +kernel
theorem dX1_readPersonAside_31 : decode cX1_readPersonAside 31 = .ok (.iload_n 3, 1) := by decide +kernel
theorem dX1_readPersonAside_32 : decode cX1_readPersonAside 32 = .ok (.iconst 1, 1) := by decide +kernel
theorem dX1_readPersonAside_33 : decode cX1_readPersonAside 33 = .ok (.iadd, 1) := by decide +kernel
theorem dX1_readPersonAside_34 : decode cX1_readPersonAside 34 = .ok (.iconst 3, 1) := by decide +kernel
theorem dX1_readPersonAside_35 : decode cX1_readPersonAside 35 = .ok (.invokestatic 265, 3) := by decide +kernel
theorem dX1_readPersonAside_38 : decode cX1_readPersonAside 38 = .ok (.istore 5, 2) := by decide +kernel
theorem dX1_readPersonAside_40 : decode cX1_readPersonAside 40 = .ok (.iload 5, 2) := by decide +kernel
theorem dX1_readPersonAside_42 : decode cX1_readPersonAside 42 = .ok (.bipush (-9), 2) := by decide +kernel
theorem dX1_readPersonAside_44 : decode cX1_readPersonAside 44 = .ok (.if_icmp .eq 6, 3) := by decide +kernel
theorem dX1_readPersonAside_47 : decode cX1_readPersonAside 47 = .ok (.iload 5, 2) := by decide +kernel
theorem dX1_readPersonAside_49 : decode cX1_readPersonAside 49 = .ok (.ireturn, 1) := by decide +kernel
theorem dX1_readPersonAside_50 : decode cX1_readPersonAside 50 = .ok (.bipush 10, 2) := by decide +kernel
theorem dX1_readPersonAside_52 : decode cX1_readPersonAside 52 = .ok (.aload_n 1, 1) := by decide +kernel
theorem dX1_readPersonAside_53 : decode cX1_readPersonAside 53 = .ok (.iload_n 3, 1) := by decide +kernel
theorem dX1_readPersonAside_54 : decode cX1_readPersonAside 54 = .ok (.iconst 2, 1) := by decide +kernel
theorem dX1_readPersonAside_55 : decode cX1_readPersonAside 55 = .ok (.iadd, 1) := by decide +kernel
theorem dX1_readPersonAside_56 : decode cX1_readPersonAside 56 = .ok (.baload, 1) := by decide +kernel
theorem dX1_readPersonAside_57 : decode cX1_readPersonAside 57 = .ok (.bipush 48, 2) := by decide +kernel
theorem dX1_readPersonAside_59 : decode cX1_readPersonAside 59 = .ok (.isub, 1) := by decide +kernel
theorem dX1_readPersonAside_60 : decode cX1_readPersonAside 60 = .ok (.imul, 1) := by decide +kernel
theorem dX1_readPersonAside_61 : decode cX1_readPersonAside 61 = .ok (.aload_n 1, 1) := by decide +kernel
theorem dX1_readPersonAside_62 : decode cX1_readPersonAside 62 = .ok (.iload_n 3, 1) := by decide +kernel
theorem dX1_readPersonAside_63 : decode cX1_readPersonAside 63 = .ok (.iconst 3, 1) := by decide +kernel
theorem dX1_readPersonAside_64 : decode cX1_readPersonAside 64 = .ok (.iadd, 1) := by decide +kernel
theorem dX1_readPersonAside_65 : decode cX1_readPersonAside 65 = .ok (.baload, 1) := by decide +kernel
theorem dX1_readPersonAside_66 : decode cX1_readPersonAside 66 = .ok (.iadd, 1) := by decide +kernel
theorem dX1_readPersonAside_67 : decode cX1_readPersonAside 67 = .ok (.bipush 48, 2) := by decide +kernel
theorem dX1_readPersonAside_69 : decode cX1_readPersonAside 69 = .ok (.isub, 1) := by decide +kernel
theorem dX1_readPersonAside_70 : decode cX1_readPersonAside 70 = .ok (.istore 6, 2) := by decide +kernel
theorem dX1_readPersonAside_72 : decode cX1_readPersonAside 72 = .ok (.iload 6, 2) := by decide +kernel
theorem dX1_readPersonAside_74 : decode cX1_readPersonAside 74 = .ok (.bipush 20, 2) := by decide +kernel
theorem dX1_readPersonAside_76 : decode cX1_readPersonAside 76 = .ok (.if_icmp .le 7, 3) := by decide +kernel
theorem dX1_readPersonAside_79 : decode cX1_readPersonAside 79 = .ok (.iload_n 3, 1) := by decide +kernel
theorem dX1_readPersonAside_80 : decode cX1_readPersonAside 80 = .ok (.iconst 2, 1) := by decide +kernel
theorem dX1_readPersonAside_81 : decode cX1_readPersonAside 81 = .ok (.iadd, 1) := by decide +kernel
theorem dX1_readPersonAside_82 : decode cX1_readPersonAside 82 = .ok (.ireturn, 1) := by decide +kernel
theorem dX1_readPersonAside_83 : decode cX1_readPersonAside 83 = .ok (.aload_n 0, 1) := by decide +kernel
theorem dX1_readPersonAside_84 : decode cX1_readPersonAside 84 = .ok (.getfield 36, 3) := by decide +kernel
theorem dX1_readPersonAside_87 : decode cX1_readPersonAside 87 = .ok (.iload 4, 2) := by decide +kernel
theorem dX1_readPersonAside_89 : decode cX1_readPersonAside 89 = .ok (.aload_n 1, 1) := by decide +kernel
theorem dX1_readPersonAside_90 : decode cX1_readPersonAside 90 = .ok (.iload_n 3, 1) := by decide +kernel
theorem dX1_readPersonAside_91 : decode cX1_readPersonAside 91 = .ok (.iconst 1, 1) := by decide +kernel
theorem dX1_readPersonAside_92 : decode cX1_readPersonAside 92 = .ok (.iadd, 1) := by decide +kernel
theorem dX1_readPersonAside_93 : decode cX1_readPersonAside 93 = .ok (.baload, 1) := by decide +kernel
theorem dX1_readPersonAside_94 : decode cX1_readPersonAside 94 = .ok (.bipush 48, 2) := by decide +kernel
theorem dX1_readPersonAside_96 : decode cX1_readPersonAside 96 = .ok (.isub, 1) := by decide +kernel
theorem dX1_readPersonAside_97 : decode cX1_readPersonAside 97 = .ok (.iload 6, 2) := by decide +kernel
theorem dX1_readPersonAside_99 : decode cX1_readPersonAside 99 = .ok (.invokevirtual 278, 3) := by decide +kernel
theorem dX1_readPersonAside_102 : decode cX1_readPersonAside 102 = .ok (.bipush (-9), 2) := by decide +kernel
theorem dX1_readPersonAside_104 : decode cX1_readPersonAside 104 = .ok (.ireturn, 1) := by decide +kernel
theorem fl_X1_65 : FLk RX1 65 1 15 := Or.inl (in_gd (i := 108) (by decide +kernel) rfl)
theorem mt_X1_isWithin : Cond.static yX1_isWithin ∈ gd_tbl ∧ Cond.initialized yX1_isWithin.cls ∈ gd_tbl ∧ Cond.code yX1_isWithin cX1_isWithin 3 (some .boolean) ∈ gd_tbl := ⟨in_gd (i := 163) (by decide +kernel) rfl, in_gd (i := 36) (by decide +kernel) rfl, in_gd (i := 164) (by decide +kernel) rfl⟩
theorem yo_X1_isWithin : yOk yX1_isWithin 3 := ⟨by decide, by decide, by decide +kernel⟩
theorem l_X1_128 : mlS RX1 128 yX1_isWithin cX1_isWithin 3 (some .boolean) := ⟨in_gd (i := 162) (by decide +kernel) rfl, mt_X1_isWithin⟩
theorem fl_X1_62 : FLk RX1 62 1 14 := Or.inl (in_gd (i := 107) (by decide +kernel) rfl)
theorem fl_X1_14 : FLk RX1 14 1 1 := Or.inl (in_gd (i := 94) (by decide +kernel) rfl)
theorem fl_X1_11 : FLk RX1 11 1 0 := Or.inl (in_gd (i := 93) (by decide +kernel) rfl)
theorem jl_X1_77 : mlS RX1 77 yJ7_fill_53178 cJ7_fill_53178 4 none := ⟨in_gd (i := 90) (by decide +kernel) rfl, in_gd (i := 91) (by decide +kernel) rfl, in_gd (i := 38) (by decide +kernel) rfl, in_gd (i := 92) (by decide +kernel) rfl⟩
theorem mt_X1_isRow : Cond.static yX1_isRow ∈ gd_tbl ∧ Cond.initialized yX1_isRow.cls ∈ gd_tbl ∧ Cond.code yX1_isRow cX1_isRow 1 (some .boolean) ∈ gd_tbl := ⟨in_gd (i := 156) (by decide +kernel) rfl, in_gd (i := 36) (by decide +kernel) rfl, in_gd (i := 157) (by decide +kernel) rfl⟩
theorem yo_X1_isRow : yOk yX1_isRow 1 := ⟨by decide, by decide, by decide +kernel⟩
theorem l_X1_83 : mlS RX1 83 yX1_isRow cX1_isRow 1 (some .boolean) := ⟨in_gd (i := 155) (by decide +kernel) rfl, mt_X1_isRow⟩
theorem mt_X1_layAnew : (Cond.instanceMethod yX1_layAnew ∈ gd_tbl ∧ Cond.selects yX1_layAnew.cls yX1_layAnew yX1_layAnew ∈ gd_tbl) ∧ Cond.initialized yX1_layAnew.cls ∈ gd_tbl ∧ Cond.code yX1_layAnew cX1_layAnew 3 (none) ∈ gd_tbl := ⟨⟨in_gd (i := 167) (by decide +kernel) rfl, in_gd (i := 1) (by decide +kernel) rfl⟩, in_gd (i := 36) (by decide +kernel) rfl, in_gd (i := 168) (by decide +kernel) rfl⟩
theorem yo_X1_layAnew : yOk yX1_layAnew 2 := ⟨by decide, by decide, by decide +kernel⟩
theorem l_X1_91 : mlV RX1 91 yX1_layAnew cX1_layAnew 3 (none) := ⟨in_gd (i := 165) (by decide +kernel) rfl, mt_X1_layAnew⟩
theorem mt_X1_found : (Cond.instanceMethod yX1_found ∈ gd_tbl ∧ Cond.selects yX1_found.cls yX1_found yX1_found ∈ gd_tbl) ∧ Cond.initialized yX1_found.cls ∈ gd_tbl ∧ Cond.code yX1_found cX1_found 2 (some .int) ∈ gd_tbl := ⟨⟨in_gd (i := 160) (by decide +kernel) rfl, in_gd (i := 0) (by decide +kernel) rfl⟩, in_gd (i := 36) (by decide +kernel) rfl, in_gd (i := 161) (by decide +kernel) rfl⟩
theorem yo_X1_found : yOk yX1_found 1 := ⟨by decide, by decide, by decide +kernel⟩
theorem l_X1_87 : mlV RX1 87 yX1_found cX1_found 2 (some .int) := ⟨in_gd (i := 158) (by decide +kernel) rfl, mt_X1_found⟩
theorem fl_X1_52 : FLk RX1 52 1 11 := Or.inl (in_gd (i := 104) (by decide +kernel) rfl)
theorem mt_X1_refusalOfPlace : (Cond.instanceMethod yX1_refusalOfPlace ∈ gd_tbl ∧ Cond.selects yX1_refusalOfPlace.cls yX1_refusalOfPlace yX1_refusalOfPlace ∈ gd_tbl) ∧ Cond.initialized yX1_refusalOfPlace.cls ∈ gd_tbl ∧ Cond.code yX1_refusalOfPlace cX1_refusalOfPlace 3 (some .int) ∈ gd_tbl := ⟨⟨in_gd (i := 175) (by decide +kernel) rfl, in_gd (i := 2) (by decide +kernel) rfl⟩, in_gd (i := 36) (by decide +kernel) rfl, in_gd (i := 176) (by decide +kernel) rfl⟩
theorem yo_X1_refusalOfPlace : yOk yX1_refusalOfPlace 2 := ⟨by decide, by decide, by decide +kernel⟩
theorem l_X1_95 : mlV RX1 95 yX1_refusalOfPlace cX1_refusalOfPlace 3 (some .int) := ⟨in_gd (i := 173) (by decide +kernel) rfl, mt_X1_refusalOfPlace⟩
theorem mt_X1_tell : (Cond.instanceMethod yX1_tell ∈ gd_tbl ∧ Cond.selects yX1_tell.cls yX1_tell yX1_tell ∈ gd_tbl) ∧ Cond.initialized yX1_tell.cls ∈ gd_tbl ∧ Cond.code yX1_tell cX1_tell 2 (some .int) ∈ gd_tbl := ⟨⟨in_gd (i := 179) (by decide +kernel) rfl, in_gd (i := 3) (by decide +kernel) rfl⟩, in_gd (i := 36) (by decide +kernel) rfl, in_gd (i := 180) (by decide +kernel) rfl⟩
theorem yo_X1_tell : yOk yX1_tell 1 := ⟨by decide, by decide, by decide +kernel⟩
theorem l_X1_99 : mlV RX1 99 yX1_tell cX1_tell 2 (some .int) := ⟨in_gd (i := 177) (by decide +kernel) rfl, mt_X1_tell⟩
theorem fl_X1_23 : FLk RX1 23 1 3 := Or.inl (in_gd (i := 96) (by decide +kernel) rfl)
theorem fl_X1_20 : FLk RX1 20 1 2 := Or.inl (in_gd (i := 95) (by decide +kernel) rfl)
theorem mt_X1_isText : Cond.static yX1_isText ∈ gd_tbl ∧ Cond.initialized yX1_isText.cls ∈ gd_tbl ∧ Cond.code yX1_isText cX1_isText 1 (some .boolean) ∈ gd_tbl := ⟨in_gd (i := 194) (by decide +kernel) rfl, in_gd (i := 36) (by decide +kernel) rfl, in_gd (i := 195) (by decide +kernel) rfl⟩
theorem yo_X1_isText : yOk yX1_isText 1 := ⟨by decide, by decide, by decide +kernel⟩
theorem l_X1_108 : mlS RX1 108 yX1_isText cX1_isText 1 (some .boolean) := ⟨in_gd (i := 193) (by decide +kernel) rfl, mt_X1_isText⟩
theorem jl_X1_111 : mlS RX1 111 yJ7_fill_031fb cJ7_fill_031fb 4 none := ⟨in_gd (i := 524) (by decide +kernel) rfl, in_gd (i := 525) (by decide +kernel) rfl, in_gd (i := 38) (by decide +kernel) rfl, in_gd (i := 526) (by decide +kernel) rfl⟩
theorem fl_X1_36 : FLk RX1 36 1 6 := Or.inl (in_gd (i := 99) (by decide +kernel) rfl)
theorem fl_X1_122 : FLk RX1 122 0 4 := Or.inr ⟨"DareFord", in_ns (i := 68) (by decide +kernel) rfl⟩
theorem mt_X1_kindOf : Cond.static yX1_kindOf ∈ gd_tbl ∧ Cond.initialized yX1_kindOf.cls ∈ gd_tbl ∧ Cond.code yX1_kindOf cX1_kindOf 1 (some .int) ∈ gd_tbl := ⟨in_gd (i := 215) (by decide +kernel) rfl, in_gd (i := 36) (by decide +kernel) rfl, in_gd (i := 216) (by decide +kernel) rfl⟩
theorem yo_X1_kindOf : yOk yX1_kindOf 1 := ⟨by decide, by decide, by decide +kernel⟩
theorem l_X1_275 : mlS RX1 275 yX1_kindOf cX1_kindOf 1 (some .int) := ⟨in_gd (i := 214) (by decide +kernel) rfl, mt_X1_kindOf⟩
theorem mt_X1_firstNoFigure : Cond.static yX1_firstNoFigure ∈ gd_tbl ∧ Cond.initialized yX1_firstNoFigure.cls ∈ gd_tbl ∧ Cond.code yX1_firstNoFigure cX1_firstNoFigure 5 (some .int) ∈ gd_tbl := ⟨in_gd (i := 204) (by decide +kernel) rfl, in_gd (i := 36) (by decide +kernel) rfl, in_gd (i := 205) (by decide +kernel) rfl⟩
theorem yo_X1_firstNoFigure : yOk yX1_firstNoFigure 4 := ⟨by decide, by decide, by decide +kernel⟩
theorem l_X1_265 : mlS RX1 265 yX1_firstNoFigure cX1_firstNoFigure 5 (some .int) := ⟨in_gd (i := 203) (by decide +kernel) rfl, mt_X1_firstNoFigure⟩
theorem mt_X0_add : (Cond.instanceMethod yX0_add ∈ gd_tbl ∧ Cond.selects yX0_add.cls yX0_add yX0_add ∈ gd_tbl) ∧ Cond.initialized yX0_add.cls ∈ gd_tbl ∧ Cond.code yX0_add cX0_add 4 (none) ∈ gd_tbl := ⟨⟨in_gd (i := 219) (by decide +kernel) rfl, in_gd (i := 7) (by decide +kernel) rfl⟩, in_gd (i := 37) (by decide +kernel) rfl, in_gd (i := 220) (by decide +kernel) rfl⟩
theorem yo_X0_add : yOk yX0_add 3 := ⟨by decide, by decide, by decide +kernel⟩
theorem l_X1_278 : mlW RX1 278 yX0_add cX0_add 4 (none) "DareFord" := ⟨in_ns (i := 217) (by decide +kernel) rfl, mt_X0_add⟩
def fX0_daringOf_L4 (μ : Mem) (b : Nat) (p1 : Int) : Nat → Int → Int → Option Int
  | 0, _, _ => none
  | n3 + 1, x1, x2 =>
    if (μ b 4) ≤ x2 then
      some x1
    else
      mlet (fun (x4 : Int) =>
        mlet (w32 (x2 + 1)) fun x6 =>
        fX0_daringOf_L4 μ b p1 n3 x4 x6
        ) fun (K5 : Int → Option Int) =>
      if (band (bshr p1 x2) 1) = 0 then
        K5 x1
      else
        grd (0 ≤ x2 ∧ x2 < 6) <|
        mlet ((w32 (x1 + (μ (b + 3) (x2).toNat)))) fun x7 =>
        K5 x7
def fX0_daringOf (b : Nat) (p1 : Int) (μ : Mem) : Option Int :=
  fX0_daringOf_L4 μ b p1 fuel 0 0
theorem K_X0_daringOf {σ : Scr} {b : Nat} (hb : isBk b) (p1 : Int)  (μ : Mem) : Con σ yX0_daringOf cX0_daringOf 4 (some .int) 2 [.inr (.inr b), .inl p1] μ (fX0_daringOf b p1 μ) (rI μ) := by
  refine con_of (own := RX0) (by decide) rfl (Nat.le_of_ble_eq_true rfl) ?_
  show Sim σ cX0_daringOf 4 RX0 (2) (some .int) (rI μ) 0 [(0, .inr (.inr b)), (1, .inl p1)] [] μ (fX0_daringOf b p1 μ)
  unfold fX0_daringOf
  refine S_iconst dX0_daringOf_0 rfl ?_
  refine S_istore_n (lv' := [(2, .inl 0), (0, .inr (.inr b)), (1, .inl p1)]) dX0_daringOf_1 rfl rfl ?_
  refine S_iconst dX0_daringOf_2 rfl ?_
  refine S_istore_n (lv' := [(3, .inl 0), (2, .inl 0), (0, .inr (.inr b)), (1, .inl p1)]) dX0_daringOf_3 rfl rfl ?_
  have hL4 : ∀ (n3 : Nat) (x1 : Int) (x2 : Int), Sim σ cX0_daringOf 4 RX0 (2) (some .int) (rI μ) 4 [(0, .inr (.inr b)), (1, .inl p1), (2, .inl x1), (3, .inl x2)] [] μ (fX0_daringOf_L4 μ b p1 n3 x1 x2) := by
    intro n3
    induction n3 with
    | zero =>
      intro x1 x2
      exact S_none rfl
    | succ n3 ih =>
      intro x1 x2
      rw [fX0_daringOf_L4]
      refine S_iload_n dX0_daringOf_4 rfl ?_
      refine S_aload_n dX0_daringOf_5 rfl ?_
      refine S_getI dX0_daringOf_6 (kd_bk hb) fl_X0_24 rfl rfl ?_
      refine S_ic_ge (tgt := 35) dX0_daringOf_9 (by decide) (fun h9 => ?_) (fun h9 => ?_)
      · refine S_iload_n dX0_daringOf_35 rfl ?_
        exact S_iret dX0_daringOf_36 rfl rfl
      · refine S_iload_n dX0_daringOf_12 rfl ?_
        refine S_iload_n dX0_daringOf_13 rfl ?_
        refine S_ishr dX0_daringOf_14 ?_
        refine S_iconst dX0_daringOf_15 rfl ?_
        refine S_iand dX0_daringOf_16 ?_
        refine S_jn (fun (K5 : Int → Option Int) => ∀ (x4 : Int), Sim σ cX0_daringOf 4 RX0 (2) (some .int) (rI μ) 29 [(0, .inr (.inr b)), (1, .inl p1), (2, .inl x4), (3, .inl x2)] [] μ (K5 x4)) ?_ (fun K5 hK5 => ?_)
        · intro x4
          refine S_iinc (lv' := fun x6 => [(3, .inl x6), (0, .inr (.inr b)), (1, .inl p1), (2, .inl x4)]) dX0_daringOf_29 rfl rfl rfl (fun _ => rfl) (fun x6 => ?_)
          refine S_goto (tgt := 4) dX0_daringOf_32 (by decide) ?_
          exact S_sub [1, 2, 3, 0] rfl (ih x4 x6)
        refine S_if_eq (tgt := 29) dX0_daringOf_17 (by decide) (fun h8 => ?_) (fun h8 => ?_)
        · exact S_sub [0, 1, 2, 3] rfl (hK5 x1)
        · refine S_iload_n dX0_daringOf_20 rfl ?_
          refine S_aload_n dX0_daringOf_21 rfl ?_
          refine S_getR (c1 := (b + 3)) dX0_daringOf_22 (kd_bk hb) fl_X0_18 rfl rfl rfl ?_
          refine S_iload_n dX0_daringOf_25 rfl ?_
          refine S_iald (N := 6) dX0_daringOf_26 (kd_ba (k := 2) hb rfl (by decide)) (bk_lt (k := 3) hb (by decide)) rfl ?_
          refine S_iadd dX0_daringOf_27 ?_
          refine S_let (fun x7 => ?_)
          refine S_istore_n (lv' := [(2, .inl x7), (0, .inr (.inr b)), (1, .inl p1), (3, .inl x2)]) dX0_daringOf_28 rfl rfl ?_
          exact S_sub [1, 2, 0, 3] rfl (hK5 x7)
  exact S_sub [2, 3, 1, 0] rfl (hL4 fuel 0 0)
def fX0_allCrossings_L4 (μ : Mem) (b : Nat) : Nat → Int → Int → Option Int
  | 0, _, _ => none
  | n3 + 1, x1, x2 =>
    if (μ b 4) ≤ x2 then
      some x1
    else
      grd (0 ≤ x2 ∧ x2 < 6) <|
      mlet ((w32 (x1 + (μ (b + 4) (x2).toNat)))) fun x4 =>
      mlet (w32 (x2 + 1)) fun x5 =>
      fX0_allCrossings_L4 μ b n3 x4 x5
def fX0_allCrossings (b : Nat) (μ : Mem) : Option Int :=
  fX0_allCrossings_L4 μ b fuel 0 0
theorem K_X0_allCrossings {σ : Scr} {b : Nat} (hb : isBk b)   (μ : Mem) : Con σ yX0_allCrossings cX0_allCrossings 3 (some .int) 2 [.inr (.inr b)] μ (fX0_allCrossings b μ) (rI μ) := by
  refine con_of (own := RX0) (by decide) rfl (Nat.le_of_ble_eq_true rfl) ?_
  show Sim σ cX0_allCrossings 3 RX0 (2) (some .int) (rI μ) 0 [(0, .inr (.inr b))] [] μ (fX0_allCrossings b μ)
  unfold fX0_allCrossings
  refine S_iconst dX0_allCrossings_0 rfl ?_
  refine S_istore_n (lv' := [(1, .inl 0), (0, .inr (.inr b))]) dX0_allCrossings_1 rfl rfl ?_
  refine S_iconst dX0_allCrossings_2 rfl ?_
  refine S_istore_n (lv' := [(2, .inl 0), (1, .inl 0), (0, .inr (.inr b))]) dX0_allCrossings_3 rfl rfl ?_
  have hL4 : ∀ (n3 : Nat) (x1 : Int) (x2 : Int), Sim σ cX0_allCrossings 3 RX0 (2) (some .int) (rI μ) 4 [(0, .inr (.inr b)), (1, .inl x1), (2, .inl x2)] [] μ (fX0_allCrossings_L4 μ b n3 x1 x2) := by
    intro n3
    induction n3 with
    | zero =>
      intro x1 x2
      exact S_none rfl
    | succ n3 ih =>
      intro x1 x2
      rw [fX0_allCrossings_L4]
      refine S_iload_n dX0_allCrossings_4 rfl ?_
      refine S_aload_n dX0_allCrossings_5 rfl ?_
      refine S_getI dX0_allCrossings_6 (kd_bk hb) fl_X0_24 rfl rfl ?_
      refine S_ic_ge (tgt := 27) dX0_allCrossings_9 (by decide) (fun h6 => ?_) (fun h6 => ?_)
      · refine S_iload_n dX0_allCrossings_27 rfl ?_
        exact S_iret dX0_allCrossings_28 rfl rfl
      · refine S_iload_n dX0_allCrossings_12 rfl ?_
        refine S_aload_n dX0_allCrossings_13 rfl ?_
        refine S_getR (c1 := (b + 4)) dX0_allCrossings_14 (kd_bk hb) fl_X0_21 rfl rfl rfl ?_
        refine S_iload_n dX0_allCrossings_17 rfl ?_
        refine S_iald (N := 6) dX0_allCrossings_18 (kd_ba (k := 3) hb rfl (by decide)) (bk_lt (k := 4) hb (by decide)) rfl ?_
        refine S_iadd dX0_allCrossings_19 ?_
        refine S_let (fun x4 => ?_)
        refine S_istore_n (lv' := [(1, .inl x4), (0, .inr (.inr b)), (2, .inl x2)]) dX0_allCrossings_20 rfl rfl ?_
        refine S_iinc (lv' := fun x5 => [(2, .inl x5), (1, .inl x4), (0, .inr (.inr b))]) dX0_allCrossings_21 rfl rfl rfl (fun _ => rfl) (fun x5 => ?_)
        refine S_goto (tgt := 4) dX0_allCrossings_24 (by decide) ?_
        exact S_sub [2, 1, 0] rfl (ih x4 x5)
  exact S_sub [2, 1, 0] rfl (hL4 fuel 0 0)
def fX1_isWithin (p1 : Int) (p2 : Int) (p3 : Int) (μ : Mem) : Option Int :=
  mlet (
    some 0
    : Option Int) fun (K1 : Option Int) =>
  if p1 < p2 then
    K1
  else
    if p3 < p1 then
      K1
    else
      some 1
theorem K_X1_isWithin {σ : Scr}  (p1 : Int) (p2 : Int) (p3 : Int)  (μ : Mem) : Con σ yX1_isWithin cX1_isWithin 3 (some .boolean) 2 [.inl p1, .inl p2, .inl p3] μ (fX1_isWithin p1 p2 p3 μ) (rI μ) := by
  refine con_of (own := RX1) (by decide) rfl (Nat.le_of_ble_eq_true rfl) ?_
  show Sim σ cX1_isWithin 3 RX1 (2) (some .boolean) (rI μ) 0 [(0, .inl p1), (1, .inl p2), (2, .inl p3)] [] μ (fX1_isWithin p1 p2 p3 μ)
  unfold fX1_isWithin
  refine S_iload_n dX1_isWithin_0 rfl ?_
  refine S_iload_n dX1_isWithin_1 rfl ?_
  refine S_jn (fun (K1 : Option Int) => Sim σ cX1_isWithin 3 RX1 (2) (some .boolean) (rI μ) 14 [] [] μ K1) ?_ (fun K1 hK1 => ?_)
  · skip
    refine S_iconst dX1_isWithin_14 rfl ?_
    exact S_zret dX1_isWithin_15 rfl (by decide) rfl
  refine S_ic_lt (tgt := 14) dX1_isWithin_2 (by decide) (fun h3 => ?_) (fun h3 => ?_)
  · exact S_sub [] rfl (hK1)
  · refine S_iload_n dX1_isWithin_5 rfl ?_
    refine S_iload_n dX1_isWithin_6 rfl ?_
    refine S_ic_gt (tgt := 14) dX1_isWithin_7 (by decide) (fun h2 => ?_) (fun h2 => ?_)
    · exact S_sub [] rfl (hK1)
    · refine S_iconst dX1_isWithin_10 rfl ?_
      refine S_goto (tgt := 15) dX1_isWithin_11 (by decide) ?_
      exact S_zret dX1_isWithin_15 rfl (by decide) rfl
def fX1_found (p1 : Int) (μ : Mem) : Option (Int × Mem) :=
  (fX1_isWithin p1 1 5 μ).bind fun x1 =>
  if x1 = 0 then
    some ((-3), μ)
  else
    mlet (wr μ 0 14 p1) fun μ2 =>
    grd (0 ≤ p1 ∧ p1 < 6) <|
    grd (0 ≤ p1 ∧ p1 < 6) <|
    mlet (wr μ2 36 (p1).toNat (w32 ((μ2 36 (p1).toNat) + 1))) fun μ3 =>
    some ((-3), μ3)
theorem K_X1_found {σ : Scr}  (p1 : Int)  (μ : Mem) : Con σ yX1_found cX1_found 2 (some .int) 3 [.inr (.inr 0), .inl p1] μ (fX1_found p1 μ) wI := by
  refine con_of (own := RX1) (by decide) rfl (Nat.le_of_ble_eq_true rfl) ?_
  show Sim σ cX1_found 2 RX1 (3) (some .int) wI 0 [(0, .inr (.inr 0)), (1, .inl p1)] [] μ (fX1_found p1 μ)
  unfold fX1_found
  refine S_iload_n dX1_found_0 rfl ?_
  refine S_iconst dX1_found_1 rfl ?_
  refine S_iconst dX1_found_2 rfl ?_
  refine S_callS_I dX1_found_3 [.inl p1, .inl 1, .inl 5] (K_X1_isWithin p1 1 5 μ) l_X1_128 yo_X1_isWithin rfl rfl rfl (fun x1 => ?_)
  refine S_if_eq (tgt := 24) dX1_found_6 (by decide) (fun h4 => ?_) (fun h4 => ?_)
  · refine S_bipush dX1_found_24 rfl (by decide) ?_
    exact S_iret dX1_found_26 rfl rfl
  · refine S_aload_n dX1_found_9 rfl ?_
    refine S_iload_n dX1_found_10 rfl ?_
    refine S_putI dX1_found_11 rfl fl_X1_62 rfl rfl rfl rfl (fun μ2 => ?_)
    refine S_aload_n dX1_found_14 rfl ?_
    refine S_getR (c1 := 36) dX1_found_15 rfl fl_X1_65 rfl rfl rfl ?_
    refine S_iload_n dX1_found_18 rfl ?_
    refine S_dup2 dX1_found_19 rfl rfl ?_
    refine S_iald (N := 6) dX1_found_20 rfl (by decide) rfl ?_
    refine S_iconst dX1_found_21 rfl ?_
    refine S_iadd dX1_found_22 ?_
    refine S_iast (N := 6) dX1_found_23 rfl (by decide) rfl (fun μ3 => ?_)
    refine S_bipush dX1_found_24 rfl (by decide) ?_
    exact S_iret dX1_found_26 rfl rfl
def fX1_isRow (p1 : Int) (μ : Mem) : Option Int :=
  mlet (
    some 0
    : Option Int) fun (K1 : Option Int) =>
  if p1 < 0 then
    K1
  else
    if 6 ≤ p1 then
      K1
    else
      some 1
theorem K_X1_isRow {σ : Scr}  (p1 : Int)  (μ : Mem) : Con σ yX1_isRow cX1_isRow 1 (some .boolean) 2 [.inl p1] μ (fX1_isRow p1 μ) (rI μ) := by
  refine con_of (own := RX1) (by decide) rfl (Nat.le_of_ble_eq_true rfl) ?_
  show Sim σ cX1_isRow 1 RX1 (2) (some .boolean) (rI μ) 0 [(0, .inl p1)] [] μ (fX1_isRow p1 μ)
  unfold fX1_isRow
  refine S_iload_n dX1_isRow_0 rfl ?_
  refine S_jn (fun (K1 : Option Int) => Sim σ cX1_isRow 1 RX1 (2) (some .boolean) (rI μ) 14 [] [] μ K1) ?_ (fun K1 hK1 => ?_)
  · skip
    refine S_iconst dX1_isRow_14 rfl ?_
    exact S_zret dX1_isRow_15 rfl (by decide) rfl
  refine S_if_lt (tgt := 14) dX1_isRow_1 (by decide) (fun h3 => ?_) (fun h3 => ?_)
  · exact S_sub [] rfl (hK1)
  · refine S_iload_n dX1_isRow_4 rfl ?_
    refine S_bipush dX1_isRow_5 rfl (by decide) ?_
    refine S_ic_ge (tgt := 14) dX1_isRow_7 (by decide) (fun h2 => ?_) (fun h2 => ?_)
    · exact S_sub [] rfl (hK1)
    · refine S_iconst dX1_isRow_10 rfl ?_
      refine S_goto (tgt := 15) dX1_isRow_11 (by decide) ?_
      exact S_zret dX1_isRow_15 rfl (by decide) rfl
def fX1_layAnew (p1 : Int) (p2 : Int) (μ : Mem) : Option Mem :=
  grd (0 ≤ p1 ∧ p1 < 6) <|
  mlet (wr μ 8 (p1).toNat p2) fun μ1 =>
  grd (0 ≤ p1 ∧ p1 < 6) <|
  mlet (2 + (p1).toNat) fun c2 =>
  (some (filM μ1 c2 40 0)).bind fun μ3 =>
  some μ3
theorem K_X1_layAnew {σ : Scr}  (p1 : Int) (p2 : Int)  (μ : Mem) : Con σ yX1_layAnew cX1_layAnew 3 (none) 2 [.inr (.inr 0), .inl p1, .inl p2] μ (fX1_layAnew p1 p2 μ) wV := by
  refine con_of (own := RX1) (by decide) rfl (Nat.le_of_ble_eq_true rfl) ?_
  show Sim σ cX1_layAnew 3 RX1 (2) (none) wV 0 [(0, .inr (.inr 0)), (1, .inl p1), (2, .inl p2)] [] μ (fX1_layAnew p1 p2 μ)
  unfold fX1_layAnew
  refine S_aload_n dX1_layAnew_0 rfl ?_
  refine S_getR (c1 := 8) dX1_layAnew_1 rfl fl_X1_14 rfl rfl rfl ?_
  refine S_iload_n dX1_layAnew_4 rfl ?_
  refine S_iload_n dX1_layAnew_5 rfl ?_
  refine S_iast (N := 6) dX1_layAnew_6 rfl (by decide) rfl (fun μ1 => ?_)
  refine S_aload_n dX1_layAnew_7 rfl ?_
  refine S_getR (c1 := 1) dX1_layAnew_8 rfl fl_X1_11 rfl rfl rfl ?_
  refine S_iload_n dX1_layAnew_11 rfl ?_
  refine S_aald (N := 6) (c1 := 2) (c2 := 8) dX1_layAnew_12 rfl (by decide) (by decide) rfl rfl rfl (fun c2 hc2 => ?_)
  refine S_iconst dX1_layAnew_13 rfl ?_
  refine S_callS_V dX1_layAnew_14 [.inr (.inr c2), .inl 0] (K_fillI (kd_row hc2) (fam_lt hc2 (by decide)) (by decide) 0 μ1) jl_X1_77 jy_fillI rfl rfl rfl (fun μ3 => ?_)
  exact S_vret dX1_layAnew_17 rfl rfl
def fX1_row (p1 : Int) (p2 : Int) (μ : Mem) : Option (Int × Mem) :=
  (fX1_isRow p1 μ).bind fun x1 =>
  if x1 = 0 then
    some ((-1), μ)
  else
    if p2 ≤ 40 then
      if 0 ≤ p2 then
        (fX1_layAnew p1 p2 μ).bind fun μ2 =>
        some (p2, μ2)
      else
        bnd2 (fX1_found 5 μ) fun x3 μ4 =>
        some (x3, μ4)
    else
      some ((-1), μ)
theorem K_X1_row {σ : Scr}  (p1 : Int) (p2 : Int)  (μ : Mem) : Con σ yX1_row cX1_row 3 (some .int) 4 [.inr (.inr 0), .inl p1, .inl p2] μ (fX1_row p1 p2 μ) wI := by
  refine con_of (own := RX1) (by decide) rfl (Nat.le_of_ble_eq_true rfl) ?_
  show Sim σ cX1_row 3 RX1 (4) (some .int) wI 0 [(0, .inr (.inr 0)), (1, .inl p1), (2, .inl p2)] [] μ (fX1_row p1 p2 μ)
  unfold fX1_row
  refine S_iload_n dX1_row_0 rfl ?_
  refine S_callS_I dX1_row_1 [.inl p1] (K_X1_isRow p1 μ) l_X1_83 yo_X1_isRow rfl rfl rfl (fun x1 => ?_)
  refine S_if_eq (tgt := 13) dX1_row_4 (by decide) (fun h7 => ?_) (fun h7 => ?_)
  · refine S_iconst dX1_row_13 rfl ?_
    exact S_iret dX1_row_14 rfl rfl
  · refine S_iload_n dX1_row_7 rfl ?_
    refine S_bipush dX1_row_8 rfl (by decide) ?_
    refine S_ic_le (tgt := 15) dX1_row_10 (by decide) (fun h6 => ?_) (fun h6 => ?_)
    · refine S_iload_n dX1_row_15 rfl ?_
      refine S_if_ge (tgt := 25) dX1_row_16 (by decide) (fun h5 => ?_) (fun h5 => ?_)
      · refine S_aload_n dX1_row_25 rfl ?_
        refine S_iload_n dX1_row_26 rfl ?_
        refine S_iload_n dX1_row_27 rfl ?_
        refine S_callV_V dX1_row_28 [.inl p1, .inl p2] (K_X1_layAnew p1 p2 μ) l_X1_91 yo_X1_layAnew rfl rfl rfl rfl rfl (fun μ2 => ?_)
        refine S_iload_n dX1_row_31 rfl ?_
        exact S_iret dX1_row_32 rfl rfl
      · refine S_aload_n dX1_row_19 rfl ?_
        refine S_iconst dX1_row_20 rfl ?_
        refine S_callV_M2 dX1_row_21 [.inl 5] (K_X1_found 5 μ) l_X1_87 yo_X1_found rfl rfl rfl rfl rfl (fun x3 μ4 => ?_)
        exact S_iret dX1_row_24 rfl rfl
    · refine S_iconst dX1_row_13 rfl ?_
      exact S_iret dX1_row_14 rfl rfl
def fX1_refusalOfPlace (p1 : Int) (p2 : Int) (μ : Mem) : Option (Int × Mem) :=
  (fX1_isRow p1 μ).bind fun x1 =>
  if ¬ x1 = 0 then
    grd (0 ≤ p1 ∧ p1 < 6) <|
    if 0 ≤ (μ 8 (p1).toNat) then
      mlet (
        bnd2 (fX1_found 2 μ) fun x3 μ4 =>
        some (x3, μ4)
        : Option (Int × Mem)) fun (K2 : Option (Int × Mem)) =>
      if p2 < 0 then
        K2
      else
        grd (0 ≤ p1 ∧ p1 < 6) <|
        if p2 < (μ 8 (p1).toNat) then
          some (0, μ)
        else
          K2
    else
      bnd2 (fX1_found 1 μ) fun x7 μ8 =>
      some (x7, μ8)
  else
    some ((-1), μ)
theorem K_X1_refusalOfPlace {σ : Scr}  (p1 : Int) (p2 : Int)  (μ : Mem) : Con σ yX1_refusalOfPlace cX1_refusalOfPlace 3 (some .int) 4 [.inr (.inr 0), .inl p1, .inl p2] μ (fX1_refusalOfPlace p1 p2 μ) wI := by
  refine con_of (own := RX1) (by decide) rfl (Nat.le_of_ble_eq_true rfl) ?_
  show Sim σ cX1_refusalOfPlace 3 RX1 (4) (some .int) wI 0 [(0, .inr (.inr 0)), (1, .inl p1), (2, .inl p2)] [] μ (fX1_refusalOfPlace p1 p2 μ)
  unfold fX1_refusalOfPlace
  refine S_iload_n dX1_refusalOfPlace_0 rfl ?_
  refine S_callS_I dX1_refusalOfPlace_1 [.inl p1] (K_X1_isRow p1 μ) l_X1_83 yo_X1_isRow rfl rfl rfl (fun x1 => ?_)
  refine S_if_ne (tgt := 9) dX1_refusalOfPlace_4 (by decide) (fun h10 => ?_) (fun h10 => ?_)
  · refine S_aload_n dX1_refusalOfPlace_9 rfl ?_
    refine S_getR (c1 := 8) dX1_refusalOfPlace_10 rfl fl_X1_14 rfl rfl rfl ?_
    refine S_iload_n dX1_refusalOfPlace_13 rfl ?_
    refine S_iald (N := 6) dX1_refusalOfPlace_14 rfl (by decide) rfl ?_
    refine S_if_ge (tgt := 24) dX1_refusalOfPlace_15 (by decide) (fun h9 => ?_) (fun h9 => ?_)
    · refine S_iload_n dX1_refusalOfPlace_24 rfl ?_
      refine S_jn (fun (K2 : Option (Int × Mem)) => Sim σ cX1_refusalOfPlace 3 RX1 (4) (some .int) wI 38 [(0, .inr (.inr 0))] [] μ K2) ?_ (fun K2 hK2 => ?_)
      · skip
        refine S_aload_n dX1_refusalOfPlace_38 rfl ?_
        refine S_iconst dX1_refusalOfPlace_39 rfl ?_
        refine S_callV_M2 dX1_refusalOfPlace_40 [.inl 2] (K_X1_found 2 μ) l_X1_87 yo_X1_found rfl rfl rfl rfl rfl (fun x3 μ4 => ?_)
        refine S_goto (tgt := 47) dX1_refusalOfPlace_43 (by decide) ?_
        exact S_iret dX1_refusalOfPlace_47 rfl rfl
      refine S_if_lt (tgt := 38) dX1_refusalOfPlace_25 (by decide) (fun h6 => ?_) (fun h6 => ?_)
      · exact S_sub [0] rfl (hK2)
      · refine S_iload_n dX1_refusalOfPlace_28 rfl ?_
        refine S_aload_n dX1_refusalOfPlace_29 rfl ?_
        refine S_getR (c1 := 8) dX1_refusalOfPlace_30 rfl fl_X1_14 rfl rfl rfl ?_
        refine S_iload_n dX1_refusalOfPlace_33 rfl ?_
        refine S_iald (N := 6) dX1_refusalOfPlace_34 rfl (by decide) rfl ?_
        refine S_ic_lt (tgt := 46) dX1_refusalOfPlace_35 (by decide) (fun h5 => ?_) (fun h5 => ?_)
        · refine S_iconst dX1_refusalOfPlace_46 rfl ?_
          exact S_iret dX1_refusalOfPlace_47 rfl rfl
        · exact S_sub [0] rfl (hK2)
    · refine S_aload_n dX1_refusalOfPlace_18 rfl ?_
      refine S_iconst dX1_refusalOfPlace_19 rfl ?_
      refine S_callV_M2 dX1_refusalOfPlace_20 [.inl 1] (K_X1_found 1 μ) l_X1_87 yo_X1_found rfl rfl rfl rfl rfl (fun x7 μ8 => ?_)
      exact S_iret dX1_refusalOfPlace_23 rfl rfl
  · refine S_iconst dX1_refusalOfPlace_7 rfl ?_
    exact S_iret dX1_refusalOfPlace_8 rfl rfl
def fX1_tell (p1 : Int) (μ : Mem) : Option (Int × Mem) :=
  mlet (wr μ 0 11 p1) fun μ1 =>
  some (1, μ1)
theorem K_X1_tell {σ : Scr}  (p1 : Int)  (μ : Mem) : Con σ yX1_tell cX1_tell 2 (some .int) 2 [.inr (.inr 0), .inl p1] μ (fX1_tell p1 μ) wI := by
  refine con_of (own := RX1) (by decide) rfl (Nat.le_of_ble_eq_true rfl) ?_
  show Sim σ cX1_tell 2 RX1 (2) (some .int) wI 0 [(0, .inr (.inr 0)), (1, .inl p1)] [] μ (fX1_tell p1 μ)
  unfold fX1_tell
  refine S_aload_n dX1_tell_0 rfl ?_
  refine S_iload_n dX1_tell_1 rfl ?_
  refine S_putI dX1_tell_2 rfl fl_X1_52 rfl rfl rfl rfl (fun μ1 => ?_)
  refine S_iconst dX1_tell_5 rfl ?_
  exact S_iret dX1_tell_6 rfl rfl
def fX1_lay (p1 : Int) (p2 : Int) (p3 : Int) (μ : Mem) : Option (Int × Mem) :=
  bnd2 (fX1_refusalOfPlace p1 p2 μ) fun x1 μ2 =>
  if x1 = 0 then
    grd (0 ≤ p1 ∧ p1 < 6) <|
    mlet (2 + (p1).toNat) fun c3 =>
    grd (0 ≤ p2 ∧ p2 < 40) <|
    mlet ((μ2 c3 (p2).toNat)) fun x4 =>
    grd (0 ≤ p1 ∧ p1 < 6) <|
    mlet (2 + (p1).toNat) fun c5 =>
    grd (0 ≤ p2 ∧ p2 < 40) <|
    mlet (wr μ2 c5 (p2).toNat p3) fun μ6 =>
    bnd2 (fX1_tell x4 μ6) fun x7 μ8 =>
    some (x7, μ8)
  else
    some (x1, μ2)
theorem K_X1_lay {σ : Scr}  (p1 : Int) (p2 : Int) (p3 : Int)  (μ : Mem) : Con σ yX1_lay cX1_lay 6 (some .int) 5 [.inr (.inr 0), .inl p1, .inl p2, .inl p3] μ (fX1_lay p1 p2 p3 μ) wI := by
  refine con_of (own := RX1) (by decide) rfl (Nat.le_of_ble_eq_true rfl) ?_
  show Sim σ cX1_lay 6 RX1 (5) (some .int) wI 0 [(0, .inr (.inr 0)), (1, .inl p1), (2, .inl p2), (3, .inl p3)] [] μ (fX1_lay p1 p2 p3 μ)
  unfold fX1_lay
  refine S_aload_n dX1_lay_0 rfl ?_
  refine S_iload_n dX1_lay_1 rfl ?_
  refine S_iload_n dX1_lay_2 rfl ?_
  refine S_callV_M2 dX1_lay_3 [.inl p1, .inl p2] (K_X1_refusalOfPlace p1 p2 μ) l_X1_95 yo_X1_refusalOfPlace rfl rfl rfl rfl rfl (fun x1 μ2 => ?_)
  refine S_istore (lv' := [(4, .inl x1), (0, .inr (.inr 0)), (1, .inl p1), (2, .inl p2), (3, .inl p3)]) dX1_lay_6 rfl rfl ?_
  refine S_iload dX1_lay_8 rfl ?_
  refine S_if_eq (tgt := 16) dX1_lay_10 (by decide) (fun h9 => ?_) (fun h9 => ?_)
  · refine S_aload_n dX1_lay_16 rfl ?_
    refine S_getR (c1 := 1) dX1_lay_17 rfl fl_X1_11 rfl rfl rfl ?_
    refine S_iload_n dX1_lay_20 rfl ?_
    refine S_aald (N := 6) (c1 := 2) (c2 := 8) dX1_lay_21 rfl (by decide) (by decide) rfl rfl rfl (fun c3 hc3 => ?_)
    refine S_iload_n dX1_lay_22 rfl ?_
    refine S_iald (N := 40) dX1_lay_23 (kd_row hc3) (fam_lt hc3 (by decide)) rfl ?_
    refine S_let (fun x4 => ?_)
    refine S_istore (lv' := [(5, .inl x4), (4, .inl x1), (0, .inr (.inr 0)), (1, .inl p1), (2, .inl p2), (3, .inl p3)]) dX1_lay_24 rfl rfl ?_
    refine S_aload_n dX1_lay_26 rfl ?_
    refine S_getR (c1 := 1) dX1_lay_27 rfl fl_X1_11 rfl rfl rfl ?_
    refine S_iload_n dX1_lay_30 rfl ?_
    refine S_aald (N := 6) (c1 := 2) (c2 := 8) dX1_lay_31 rfl (by decide) (by decide) rfl rfl rfl (fun c5 hc5 => ?_)
    refine S_iload_n dX1_lay_32 rfl ?_
    refine S_iload_n dX1_lay_33 rfl ?_
    refine S_iast (N := 40) dX1_lay_34 (kd_row hc5) (fam_lt hc5 (by decide)) rfl (fun μ6 => ?_)
    refine S_aload_n dX1_lay_35 rfl ?_
    refine S_iload dX1_lay_36 rfl ?_
    refine S_callV_M2 dX1_lay_38 [.inl x4] (K_X1_tell x4 μ6) l_X1_99 yo_X1_tell rfl rfl rfl rfl rfl (fun x7 μ8 => ?_)
    exact S_iret dX1_lay_41 rfl rfl
  · refine S_iload dX1_lay_13 rfl ?_
    exact S_iret dX1_lay_15 rfl rfl
def fX1_at (p1 : Int) (p2 : Int) (μ : Mem) : Option (Int × Mem) :=
  bnd2 (fX1_refusalOfPlace p1 p2 μ) fun x1 μ2 =>
  if x1 = 0 then
    grd (0 ≤ p1 ∧ p1 < 6) <|
    mlet (2 + (p1).toNat) fun c3 =>
    grd (0 ≤ p2 ∧ p2 < 40) <|
    bnd2 (fX1_tell (μ2 c3 (p2).toNat) μ2) fun x4 μ5 =>
    some (x4, μ5)
  else
    some (x1, μ2)
theorem K_X1_at {σ : Scr}  (p1 : Int) (p2 : Int)  (μ : Mem) : Con σ yX1_at cX1_at 4 (some .int) 5 [.inr (.inr 0), .inl p1, .inl p2] μ (fX1_at p1 p2 μ) wI := by
  refine con_of (own := RX1) (by decide) rfl (Nat.le_of_ble_eq_true rfl) ?_
  show Sim σ cX1_at 4 RX1 (5) (some .int) wI 0 [(0, .inr (.inr 0)), (1, .inl p1), (2, .inl p2)] [] μ (fX1_at p1 p2 μ)
  unfold fX1_at
  refine S_aload_n dX1_at_0 rfl ?_
  refine S_iload_n dX1_at_1 rfl ?_
  refine S_iload_n dX1_at_2 rfl ?_
  refine S_callV_M2 dX1_at_3 [.inl p1, .inl p2] (K_X1_refusalOfPlace p1 p2 μ) l_X1_95 yo_X1_refusalOfPlace rfl rfl rfl rfl rfl (fun x1 μ2 => ?_)
  refine S_istore_n (lv' := [(3, .inl x1), (0, .inr (.inr 0)), (1, .inl p1), (2, .inl p2)]) dX1_at_6 rfl rfl ?_
  refine S_iload_n dX1_at_7 rfl ?_
  refine S_if_eq (tgt := 13) dX1_at_8 (by decide) (fun h6 => ?_) (fun h6 => ?_)
  · refine S_aload_n dX1_at_13 rfl ?_
    refine S_aload_n dX1_at_14 rfl ?_
    refine S_getR (c1 := 1) dX1_at_15 rfl fl_X1_11 rfl rfl rfl ?_
    refine S_iload_n dX1_at_18 rfl ?_
    refine S_aald (N := 6) (c1 := 2) (c2 := 8) dX1_at_19 rfl (by decide) (by decide) rfl rfl rfl (fun c3 hc3 => ?_)
    refine S_iload_n dX1_at_20 rfl ?_
    refine S_iald (N := 40) dX1_at_21 (kd_row hc3) (fam_lt hc3 (by decide)) rfl ?_
    refine S_callV_M2 dX1_at_22 [.inl (μ2 c3 (p2).toNat)] (K_X1_tell (μ2 c3 (p2).toNat) μ2) l_X1_99 yo_X1_tell rfl rfl rfl rfl rfl (fun x4 μ5 => ?_)
    exact S_iret dX1_at_25 rfl rfl
  · refine S_iload_n dX1_at_11 rfl ?_
    exact S_iret dX1_at_12 rfl rfl
def fX1_tear (p1 : Int) (μ : Mem) : Option (Int × Mem) :=
  (fX1_isRow p1 μ).bind fun x1 =>
  if ¬ x1 = 0 then
    grd (0 ≤ p1 ∧ p1 < 6) <|
    if 0 ≤ (μ 8 (p1).toNat) then
      grd (0 ≤ p1 ∧ p1 < 6) <|
      mlet (wr μ 8 (p1).toNat (-1)) fun μ2 =>
      some (1, μ2)
    else
      bnd2 (fX1_found 1 μ) fun x3 μ4 =>
      some (x3, μ4)
  else
    some ((-1), μ)
theorem K_X1_tear {σ : Scr}  (p1 : Int)  (μ : Mem) : Con σ yX1_tear cX1_tear 2 (some .int) 4 [.inr (.inr 0), .inl p1] μ (fX1_tear p1 μ) wI := by
  refine con_of (own := RX1) (by decide) rfl (Nat.le_of_ble_eq_true rfl) ?_
  show Sim σ cX1_tear 2 RX1 (4) (some .int) wI 0 [(0, .inr (.inr 0)), (1, .inl p1)] [] μ (fX1_tear p1 μ)
  unfold fX1_tear
  refine S_iload_n dX1_tear_0 rfl ?_
  refine S_callS_I dX1_tear_1 [.inl p1] (K_X1_isRow p1 μ) l_X1_83 yo_X1_isRow rfl rfl rfl (fun x1 => ?_)
  refine S_if_ne (tgt := 9) dX1_tear_4 (by decide) (fun h6 => ?_) (fun h6 => ?_)
  · refine S_aload_n dX1_tear_9 rfl ?_
    refine S_getR (c1 := 8) dX1_tear_10 rfl fl_X1_14 rfl rfl rfl ?_
    refine S_iload_n dX1_tear_13 rfl ?_
    refine S_iald (N := 6) dX1_tear_14 rfl (by decide) rfl ?_
    refine S_if_ge (tgt := 24) dX1_tear_15 (by decide) (fun h5 => ?_) (fun h5 => ?_)
    · refine S_aload_n dX1_tear_24 rfl ?_
      refine S_getR (c1 := 8) dX1_tear_25 rfl fl_X1_14 rfl rfl rfl ?_
      refine S_iload_n dX1_tear_28 rfl ?_
      refine S_iconst dX1_tear_29 rfl ?_
      refine S_iast (N := 6) dX1_tear_30 rfl (by decide) rfl (fun μ2 => ?_)
      refine S_iconst dX1_tear_31 rfl ?_
      exact S_iret dX1_tear_32 rfl rfl
    · refine S_aload_n dX1_tear_18 rfl ?_
      refine S_iconst dX1_tear_19 rfl ?_
      refine S_callV_M2 dX1_tear_20 [.inl 1] (K_X1_found 1 μ) l_X1_87 yo_X1_found rfl rfl rfl rfl rfl (fun x3 μ4 => ?_)
      exact S_iret dX1_tear_23 rfl rfl
  · refine S_iconst dX1_tear_7 rfl ?_
    exact S_iret dX1_tear_8 rfl rfl
def fX1_isText (p1 : Int) (μ : Mem) : Option Int :=
  mlet (
    some 0
    : Option Int) fun (K1 : Option Int) =>
  if p1 < 0 then
    K1
  else
    if 4 ≤ p1 then
      K1
    else
      some 1
theorem K_X1_isText {σ : Scr}  (p1 : Int)  (μ : Mem) : Con σ yX1_isText cX1_isText 1 (some .boolean) 2 [.inl p1] μ (fX1_isText p1 μ) (rI μ) := by
  refine con_of (own := RX1) (by decide) rfl (Nat.le_of_ble_eq_true rfl) ?_
  show Sim σ cX1_isText 1 RX1 (2) (some .boolean) (rI μ) 0 [(0, .inl p1)] [] μ (fX1_isText p1 μ)
  unfold fX1_isText
  refine S_iload_n dX1_isText_0 rfl ?_
  refine S_jn (fun (K1 : Option Int) => Sim σ cX1_isText 1 RX1 (2) (some .boolean) (rI μ) 13 [] [] μ K1) ?_ (fun K1 hK1 => ?_)
  · skip
    refine S_iconst dX1_isText_13 rfl ?_
    exact S_zret dX1_isText_14 rfl (by decide) rfl
  refine S_if_lt (tgt := 13) dX1_isText_1 (by decide) (fun h3 => ?_) (fun h3 => ?_)
  · exact S_sub [] rfl (hK1)
  · refine S_iload_n dX1_isText_4 rfl ?_
    refine S_iconst dX1_isText_5 rfl ?_
    refine S_ic_ge (tgt := 13) dX1_isText_6 (by decide) (fun h2 => ?_) (fun h2 => ?_)
    · exact S_sub [] rfl (hK1)
    · refine S_iconst dX1_isText_9 rfl ?_
      refine S_goto (tgt := 14) dX1_isText_10 (by decide) ?_
      exact S_zret dX1_isText_14 rfl (by decide) rfl
def fX1_text (p1 : Int) (p2 : Int) (μ : Mem) : Option (Int × Mem) :=
  (fX1_isText p1 μ).bind fun x1 =>
  if x1 = 0 then
    some ((-1), μ)
  else
    if p2 ≤ 60 then
      if 0 ≤ p2 then
        grd (0 ≤ p1 ∧ p1 < 4) <|
        mlet (wr μ 14 (p1).toNat p2) fun μ2 =>
        grd (0 ≤ p1 ∧ p1 < 4) <|
        mlet (10 + (p1).toNat) fun c3 =>
        (some (filM μ2 c3 60 (w8 32))).bind fun μ4 =>
        some (p2, μ4)
      else
        bnd2 (fX1_found 5 μ) fun x5 μ6 =>
        some (x5, μ6)
    else
      some ((-1), μ)
theorem K_X1_text {σ : Scr}  (p1 : Int) (p2 : Int)  (μ : Mem) : Con σ yX1_text cX1_text 3 (some .int) 4 [.inr (.inr 0), .inl p1, .inl p2] μ (fX1_text p1 p2 μ) wI := by
  refine con_of (own := RX1) (by decide) rfl (Nat.le_of_ble_eq_true rfl) ?_
  show Sim σ cX1_text 3 RX1 (4) (some .int) wI 0 [(0, .inr (.inr 0)), (1, .inl p1), (2, .inl p2)] [] μ (fX1_text p1 p2 μ)
  unfold fX1_text
  refine S_iload_n dX1_text_0 rfl ?_
  refine S_callS_I dX1_text_1 [.inl p1] (K_X1_isText p1 μ) l_X1_108 yo_X1_isText rfl rfl rfl (fun x1 => ?_)
  refine S_if_eq (tgt := 13) dX1_text_4 (by decide) (fun h9 => ?_) (fun h9 => ?_)
  · refine S_iconst dX1_text_13 rfl ?_
    exact S_iret dX1_text_14 rfl rfl
  · refine S_iload_n dX1_text_7 rfl ?_
    refine S_bipush dX1_text_8 rfl (by decide) ?_
    refine S_ic_le (tgt := 15) dX1_text_10 (by decide) (fun h8 => ?_) (fun h8 => ?_)
    · refine S_iload_n dX1_text_15 rfl ?_
      refine S_if_ge (tgt := 25) dX1_text_16 (by decide) (fun h7 => ?_) (fun h7 => ?_)
      · refine S_aload_n dX1_text_25 rfl ?_
        refine S_getR (c1 := 14) dX1_text_26 rfl fl_X1_23 rfl rfl rfl ?_
        refine S_iload_n dX1_text_29 rfl ?_
        refine S_iload_n dX1_text_30 rfl ?_
        refine S_iast (N := 4) dX1_text_31 rfl (by decide) rfl (fun μ2 => ?_)
        refine S_aload_n dX1_text_32 rfl ?_
        refine S_getR (c1 := 9) dX1_text_33 rfl fl_X1_20 rfl rfl rfl ?_
        refine S_iload_n dX1_text_36 rfl ?_
        refine S_aald (N := 4) (c1 := 10) (c2 := 14) dX1_text_37 rfl (by decide) (by decide) rfl rfl rfl (fun c3 hc3 => ?_)
        refine S_bipush dX1_text_38 rfl (by decide) ?_
        refine S_callS_V dX1_text_40 [.inr (.inr c3), .inl 32] (K_fillB (kd_text hc3) (fam_lt hc3 (by decide)) (by decide) 32 μ2) jl_X1_111 jy_fillB rfl rfl rfl (fun μ4 => ?_)
        refine S_iload_n dX1_text_43 rfl ?_
        exact S_iret dX1_text_44 rfl rfl
      · refine S_aload_n dX1_text_19 rfl ?_
        refine S_iconst dX1_text_20 rfl ?_
        refine S_callV_M2 dX1_text_21 [.inl 5] (K_X1_found 5 μ) l_X1_87 yo_X1_found rfl rfl rfl rfl rfl (fun x5 μ6 => ?_)
        exact S_iret dX1_text_24 rfl rfl
    · refine S_iconst dX1_text_13 rfl ?_
      exact S_iret dX1_text_14 rfl rfl
def fX1_put (p1 : Int) (p2 : Int) (p3 : Int) (μ : Mem) : Option (Int × Mem) :=
  (fX1_isText p1 μ).bind fun x1 =>
  if ¬ x1 = 0 then
    grd (0 ≤ p1 ∧ p1 < 4) <|
    if 0 ≤ (μ 14 (p1).toNat) then
      mlet (
        bnd2 (fX1_found 2 μ) fun x3 μ4 =>
        some (x3, μ4)
        : Option (Int × Mem)) fun (K2 : Option (Int × Mem)) =>
      if p2 < 0 then
        K2
      else
        grd (0 ≤ p1 ∧ p1 < 4) <|
        if p2 < (μ 14 (p1).toNat) then
          grd (0 ≤ p1 ∧ p1 < 4) <|
          mlet (10 + (p1).toNat) fun c5 =>
          grd (0 ≤ p2 ∧ p2 < 60) <|
          mlet ((μ c5 (p2).toNat)) fun x6 =>
          grd (0 ≤ p1 ∧ p1 < 4) <|
          mlet (10 + (p1).toNat) fun c7 =>
          grd (0 ≤ p2 ∧ p2 < 60) <|
          mlet (wr μ c7 (p2).toNat (w8 (w8 p3))) fun μ8 =>
          some ((w32 (x6 + 1000)), μ8)
        else
          K2
    else
      bnd2 (fX1_found 1 μ) fun x11 μ12 =>
      some (x11, μ12)
  else
    some ((-1), μ)
theorem K_X1_put {σ : Scr}  (p1 : Int) (p2 : Int) (p3 : Int)  (μ : Mem) : Con σ yX1_put cX1_put 5 (some .int) 4 [.inr (.inr 0), .inl p1, .inl p2, .inl p3] μ (fX1_put p1 p2 p3 μ) wI := by
  refine con_of (own := RX1) (by decide) rfl (Nat.le_of_ble_eq_true rfl) ?_
  show Sim σ cX1_put 5 RX1 (4) (some .int) wI 0 [(0, .inr (.inr 0)), (1, .inl p1), (2, .inl p2), (3, .inl p3)] [] μ (fX1_put p1 p2 p3 μ)
  unfold fX1_put
  refine S_iload_n dX1_put_0 rfl ?_
  refine S_callS_I dX1_put_1 [.inl p1] (K_X1_isText p1 μ) l_X1_108 yo_X1_isText rfl rfl rfl (fun x1 => ?_)
  refine S_if_ne (tgt := 9) dX1_put_4 (by decide) (fun h14 => ?_) (fun h14 => ?_)
  · refine S_aload_n dX1_put_9 rfl ?_
    refine S_getR (c1 := 14) dX1_put_10 rfl fl_X1_23 rfl rfl rfl ?_
    refine S_iload_n dX1_put_13 rfl ?_
    refine S_iald (N := 4) dX1_put_14 rfl (by decide) rfl ?_
    refine S_if_ge (tgt := 24) dX1_put_15 (by decide) (fun h13 => ?_) (fun h13 => ?_)
    · refine S_iload_n dX1_put_24 rfl ?_
      refine S_jn (fun (K2 : Option (Int × Mem)) => Sim σ cX1_put 5 RX1 (4) (some .int) wI 38 [(0, .inr (.inr 0))] [] μ K2) ?_ (fun K2 hK2 => ?_)
      · skip
        refine S_aload_n dX1_put_38 rfl ?_
        refine S_iconst dX1_put_39 rfl ?_
        refine S_callV_M2 dX1_put_40 [.inl 2] (K_X1_found 2 μ) l_X1_87 yo_X1_found rfl rfl rfl rfl rfl (fun x3 μ4 => ?_)
        exact S_iret dX1_put_43 rfl rfl
      refine S_if_lt (tgt := 38) dX1_put_25 (by decide) (fun h10 => ?_) (fun h10 => ?_)
      · exact S_sub [0] rfl (hK2)
      · refine S_iload_n dX1_put_28 rfl ?_
        refine S_aload_n dX1_put_29 rfl ?_
        refine S_getR (c1 := 14) dX1_put_30 rfl fl_X1_23 rfl rfl rfl ?_
        refine S_iload_n dX1_put_33 rfl ?_
        refine S_iald (N := 4) dX1_put_34 rfl (by decide) rfl ?_
        refine S_ic_lt (tgt := 44) dX1_put_35 (by decide) (fun h9 => ?_) (fun h9 => ?_)
        · refine S_aload_n dX1_put_44 rfl ?_
          refine S_getR (c1 := 9) dX1_put_45 rfl fl_X1_20 rfl rfl rfl ?_
          refine S_iload_n dX1_put_48 rfl ?_
          refine S_aald (N := 4) (c1 := 10) (c2 := 14) dX1_put_49 rfl (by decide) (by decide) rfl rfl rfl (fun c5 hc5 => ?_)
          refine S_iload_n dX1_put_50 rfl ?_
          refine S_bald (N := 60) dX1_put_51 (kd_text hc5) (fam_lt hc5 (by decide)) rfl ?_
          refine S_let (fun x6 => ?_)
          refine S_istore (lv' := [(4, .inl x6), (0, .inr (.inr 0)), (1, .inl p1), (2, .inl p2), (3, .inl p3)]) dX1_put_52 rfl rfl ?_
          refine S_aload_n dX1_put_54 rfl ?_
          refine S_getR (c1 := 9) dX1_put_55 rfl fl_X1_20 rfl rfl rfl ?_
          refine S_iload_n dX1_put_58 rfl ?_
          refine S_aald (N := 4) (c1 := 10) (c2 := 14) dX1_put_59 rfl (by decide) (by decide) rfl rfl rfl (fun c7 hc7 => ?_)
          refine S_iload_n dX1_put_60 rfl ?_
          refine S_iload_n dX1_put_61 rfl ?_
          refine S_i2b dX1_put_62 ?_
          refine S_bast (N := 60) dX1_put_63 (kd_text hc7) (fam_lt hc7 (by decide)) rfl (fun μ8 => ?_)
          refine S_iload dX1_put_64 rfl ?_
          refine S_sipush dX1_put_66 rfl (by decide) ?_
          refine S_iadd dX1_put_69 ?_
          exact S_iret dX1_put_70 rfl rfl
        · exact S_sub [0] rfl (hK2)
    · refine S_aload_n dX1_put_18 rfl ?_
      refine S_iconst dX1_put_19 rfl ?_
      refine S_callV_M2 dX1_put_20 [.inl 1] (K_X1_found 1 μ) l_X1_87 yo_X1_found rfl rfl rfl rfl rfl (fun x11 μ12 => ?_)
      exact S_iret dX1_put_23 rfl rfl
  · refine S_iconst dX1_put_7 rfl ?_
    exact S_iret dX1_put_8 rfl rfl
def fX1_firstNoFigure_L3 (p3 : Int) (p4 : Int) (p2 : Int) (μ : Mem) (p1 : Nat) : Nat → Int → Option Int
  | 0, _ => none
  | n2 + 1, x1 =>
    if (w32 (p3 + p4)) ≤ x1 then
      some (-9)
    else
      if p2 ≤ x1 then
        some x1
      else
        grd (0 ≤ x1 ∧ x1 < 60) <|
        if (μ p1 (x1).toNat) < 48 then
          some x1
        else
          grd (0 ≤ x1 ∧ x1 < 60) <|
          if (μ p1 (x1).toNat) ≤ 57 then
            mlet (w32 (x1 + 1)) fun x3 =>
            fX1_firstNoFigure_L3 p3 p4 p2 μ p1 n2 x3
          else
            some x1
def fX1_firstNoFigure (p1 : Nat) (p2 : Int) (p3 : Int) (p4 : Int) (μ : Mem) : Option Int :=
  fX1_firstNoFigure_L3 p3 p4 p2 μ p1 fuel p3
theorem K_X1_firstNoFigure {σ : Scr} {p1 : Nat} (hp1 : isTx p1) (p2 : Int) (p3 : Int) (p4 : Int)  (μ : Mem) : Con σ yX1_firstNoFigure cX1_firstNoFigure 5 (some .int) 2 [.inr (.inr p1), .inl p2, .inl p3, .inl p4] μ (fX1_firstNoFigure p1 p2 p3 p4 μ) (rI μ) := by
  refine con_of (own := RX1) (by decide) rfl (Nat.le_of_ble_eq_true rfl) ?_
  show Sim σ cX1_firstNoFigure 5 RX1 (2) (some .int) (rI μ) 0 [(0, .inr (.inr p1)), (1, .inl p2), (2, .inl p3), (3, .inl p4)] [] μ (fX1_firstNoFigure p1 p2 p3 p4 μ)
  unfold fX1_firstNoFigure
  refine S_iload_n dX1_firstNoFigure_0 rfl ?_
  refine S_istore (lv' := [(4, .inl p3), (0, .inr (.inr p1)), (1, .inl p2), (2, .inl p3), (3, .inl p4)]) dX1_firstNoFigure_1 rfl rfl ?_
  have hL3 : ∀ (n2 : Nat) (x1 : Int), Sim σ cX1_firstNoFigure 5 RX1 (2) (some .int) (rI μ) 3 [(0, .inr (.inr p1)), (1, .inl p2), (2, .inl p3), (3, .inl p4), (4, .inl x1)] [] μ (fX1_firstNoFigure_L3 p3 p4 p2 μ p1 n2 x1) := by
    intro n2
    induction n2 with
    | zero =>
      intro x1
      exact S_none rfl
    | succ n2 ih =>
      intro x1
      rw [fX1_firstNoFigure_L3]
      refine S_iload dX1_firstNoFigure_3 rfl ?_
      refine S_iload_n dX1_firstNoFigure_5 rfl ?_
      refine S_iload_n dX1_firstNoFigure_6 rfl ?_
      refine S_iadd dX1_firstNoFigure_7 ?_
      refine S_ic_ge (tgt := 44) dX1_firstNoFigure_8 (by decide) (fun h7 => ?_) (fun h7 => ?_)
      · refine S_bipush dX1_firstNoFigure_44 rfl (by decide) ?_
        exact S_iret dX1_firstNoFigure_46 rfl rfl
      · refine S_iload dX1_firstNoFigure_11 rfl ?_
        refine S_iload_n dX1_firstNoFigure_13 rfl ?_
        refine S_ic_ge (tgt := 35) dX1_firstNoFigure_14 (by decide) (fun h6 => ?_) (fun h6 => ?_)
        · refine S_iload dX1_firstNoFigure_35 rfl ?_
          exact S_iret dX1_firstNoFigure_37 rfl rfl
        · refine S_aload_n dX1_firstNoFigure_17 rfl ?_
          refine S_iload dX1_firstNoFigure_18 rfl ?_
          refine S_bald (N := 60) dX1_firstNoFigure_20 (kd_text hp1) (tx_lt hp1) rfl ?_
          refine S_bipush dX1_firstNoFigure_21 rfl (by decide) ?_
          refine S_ic_lt (tgt := 35) dX1_firstNoFigure_23 (by decide) (fun h5 => ?_) (fun h5 => ?_)
          · refine S_iload dX1_firstNoFigure_35 rfl ?_
            exact S_iret dX1_firstNoFigure_37 rfl rfl
          · refine S_aload_n dX1_firstNoFigure_26 rfl ?_
            refine S_iload dX1_firstNoFigure_27 rfl ?_
            refine S_bald (N := 60) dX1_firstNoFigure_29 (kd_text hp1) (tx_lt hp1) rfl ?_
            refine S_bipush dX1_firstNoFigure_30 rfl (by decide) ?_
            refine S_ic_le (tgt := 38) dX1_firstNoFigure_32 (by decide) (fun h4 => ?_) (fun h4 => ?_)
            · refine S_iinc (lv' := fun x3 => [(4, .inl x3), (0, .inr (.inr p1)), (1, .inl p2), (2, .inl p3), (3, .inl p4)]) dX1_firstNoFigure_38 rfl rfl rfl (fun _ => rfl) (fun x3 => ?_)
              refine S_goto (tgt := 3) dX1_firstNoFigure_41 (by decide) ?_
              exact S_sub [1, 2, 3, 4, 0] rfl (ih x3)
            · refine S_iload dX1_firstNoFigure_35 rfl ?_
              exact S_iret dX1_firstNoFigure_37 rfl rfl
  exact S_sub [1, 2, 3, 4, 0] rfl (hL3 fuel p3)
def fX1_pastBlanks_L2 (p2 : Int) (μ : Mem) (p1 : Nat) : Nat → Int → Option Int
  | 0, _ => none
  | n2 + 1, x1 =>
    if p2 ≤ x1 then
      some x1
    else
      grd (0 ≤ x1 ∧ x1 < 60) <|
      if ¬ (μ p1 (x1).toNat) = 32 then
        some x1
      else
        mlet (w32 (x1 + 1)) fun x3 =>
        fX1_pastBlanks_L2 p2 μ p1 n2 x3
def fX1_pastBlanks (p1 : Nat) (p2 : Int) (p3 : Int) (μ : Mem) : Option Int :=
  fX1_pastBlanks_L2 p2 μ p1 fuel p3
theorem K_X1_pastBlanks {σ : Scr} {p1 : Nat} (hp1 : isTx p1) (p2 : Int) (p3 : Int)  (μ : Mem) : Con σ yX1_pastBlanks cX1_pastBlanks 4 (some .int) 2 [.inr (.inr p1), .inl p2, .inl p3] μ (fX1_pastBlanks p1 p2 p3 μ) (rI μ) := by
  refine con_of (own := RX1) (by decide) rfl (Nat.le_of_ble_eq_true rfl) ?_
  show Sim σ cX1_pastBlanks 4 RX1 (2) (some .int) (rI μ) 0 [(0, .inr (.inr p1)), (1, .inl p2), (2, .inl p3)] [] μ (fX1_pastBlanks p1 p2 p3 μ)
  unfold fX1_pastBlanks
  refine S_iload_n dX1_pastBlanks_0 rfl ?_
  refine S_istore_n (lv' := [(3, .inl p3), (0, .inr (.inr p1)), (1, .inl p2), (2, .inl p3)]) dX1_pastBlanks_1 rfl rfl ?_
  have hL2 : ∀ (n2 : Nat) (x1 : Int), Sim σ cX1_pastBlanks 4 RX1 (2) (some .int) (rI μ) 2 [(0, .inr (.inr p1)), (1, .inl p2), (3, .inl x1)] [] μ (fX1_pastBlanks_L2 p2 μ p1 n2 x1) := by
    intro n2
    induction n2 with
    | zero =>
      intro x1
      exact S_none rfl
    | succ n2 ih =>
      intro x1
      rw [fX1_pastBlanks_L2]
      refine S_iload_n dX1_pastBlanks_2 rfl ?_
      refine S_iload_n dX1_pastBlanks_3 rfl ?_
      refine S_ic_ge (tgt := 21) dX1_pastBlanks_4 (by decide) (fun h5 => ?_) (fun h5 => ?_)
      · refine S_iload_n dX1_pastBlanks_21 rfl ?_
        exact S_iret dX1_pastBlanks_22 rfl rfl
      · refine S_aload_n dX1_pastBlanks_7 rfl ?_
        refine S_iload_n dX1_pastBlanks_8 rfl ?_
        refine S_bald (N := 60) dX1_pastBlanks_9 (kd_text hp1) (tx_lt hp1) rfl ?_
        refine S_bipush dX1_pastBlanks_10 rfl (by decide) ?_
        refine S_ic_ne (tgt := 21) dX1_pastBlanks_12 (by decide) (fun h4 => ?_) (fun h4 => ?_)
        · refine S_iload_n dX1_pastBlanks_21 rfl ?_
          exact S_iret dX1_pastBlanks_22 rfl rfl
        · refine S_iinc (lv' := fun x3 => [(3, .inl x3), (0, .inr (.inr p1)), (1, .inl p2)]) dX1_pastBlanks_15 rfl rfl rfl (fun _ => rfl) (fun x3 => ?_)
          refine S_goto (tgt := 2) dX1_pastBlanks_18 (by decide) ?_
          exact S_sub [1, 2, 0] rfl (ih x3)
  exact S_sub [1, 2, 0] rfl (hL2 fuel p3)
def fX1_kindOf (p1 : Int) (μ : Mem) : Option Int :=
  if p1 = 98 then
    some 3
  else
    if p1 = 100 then
      some 1
    else
      if p1 = 101 then
        some 2
      else
        if p1 = 112 then
          some 0
        else
          if p1 = 113 then
            some 5
          else
            if p1 = 116 then
              some 4
            else
              some (-9)
theorem K_X1_kindOf {σ : Scr}  (p1 : Int)  (μ : Mem) : Con σ yX1_kindOf cX1_kindOf 1 (some .int) 2 [.inl p1] μ (fX1_kindOf p1 μ) (rI μ) := by
  refine con_of (own := RX1) (by decide) rfl (Nat.le_of_ble_eq_true rfl) ?_
  show Sim σ cX1_kindOf 1 RX1 (2) (some .int) (rI μ) 0 [(0, .inl p1)] [] μ (fX1_kindOf p1 μ)
  unfold fX1_kindOf
  refine S_iload_n dX1_kindOf_0 rfl ?_
  refine S_if (fun h1 => ?_) (fun h1 => ?_)
  · refine S_tsIn (n := 98) (tgt := 98) dX1_kindOf_1 h1 (by decide) (by decide) rfl (by decide) ?_
    refine S_iconst dX1_kindOf_98 rfl ?_
    exact S_iret dX1_kindOf_99 rfl rfl
  · refine S_if (fun h2 => ?_) (fun h2 => ?_)
    · refine S_tsIn (n := 100) (tgt := 94) dX1_kindOf_1 h2 (by decide) (by decide) rfl (by decide) ?_
      refine S_iconst dX1_kindOf_94 rfl ?_
      exact S_iret dX1_kindOf_95 rfl rfl
    · refine S_if (fun h3 => ?_) (fun h3 => ?_)
      · refine S_tsIn (n := 101) (tgt := 96) dX1_kindOf_1 h3 (by decide) (by decide) rfl (by decide) ?_
        refine S_iconst dX1_kindOf_96 rfl ?_
        exact S_iret dX1_kindOf_97 rfl rfl
      · refine S_if (fun h4 => ?_) (fun h4 => ?_)
        · refine S_tsIn (n := 112) (tgt := 92) dX1_kindOf_1 h4 (by decide) (by decide) rfl (by decide) ?_
          refine S_iconst dX1_kindOf_92 rfl ?_
          exact S_iret dX1_kindOf_93 rfl rfl
        · refine S_if (fun h5 => ?_) (fun h5 => ?_)
          · refine S_tsIn (n := 113) (tgt := 102) dX1_kindOf_1 h5 (by decide) (by decide) rfl (by decide) ?_
            refine S_iconst dX1_kindOf_102 rfl ?_
            exact S_iret dX1_kindOf_103 rfl rfl
          · refine S_if (fun h6 => ?_) (fun h6 => ?_)
            · refine S_tsIn (n := 116) (tgt := 100) dX1_kindOf_1 h6 (by decide) (by decide) rfl (by decide) ?_
              refine S_iconst dX1_kindOf_100 rfl ?_
              exact S_iret dX1_kindOf_101 rfl rfl
            · refine S_tsD (tgt := 104) [98, 100, 101, 112, 113, 116] dX1_kindOf_1 (by decide) (by decide) (by intro v9 h9 e9; simp only [List.mem_cons, List.not_mem_nil, or_false] at h9; omega) ?_
              refine S_bipush dX1_kindOf_104 rfl (by decide) ?_
              exact S_iret dX1_kindOf_106 rfl rfl
def fX1_readPersonAside (p1 : Nat) (p2 : Int) (p3 : Int) (μ : Mem) : Option (Int × Mem) :=
  grd (0 ≤ p3 ∧ p3 < 60) <|
  (fX1_kindOf (μ p1 (p3).toNat) μ).bind fun x1 =>
  if x1 = (-9) then
    some (p3, μ)
  else
    if (μ 25 4) < 6 then
      (fX1_firstNoFigure p1 p2 (w32 (p3 + 1)) 3 μ).bind fun x2 =>
      if x2 = (-9) then
        grd (0 ≤ (w32 (p3 + 2)) ∧ (w32 (p3 + 2)) < 60) <|
        grd (0 ≤ (w32 (p3 + 3)) ∧ (w32 (p3 + 3)) < 60) <|
        mlet ((w32 ((w32 ((w32 (10 * (w32 ((μ p1 ((w32 (p3 + 2))).toNat) - 48)))) + (μ p1 ((w32 (p3 + 3))).toNat))) - 48))) fun x3 =>
        if x3 ≤ 20 then
          grd (0 ≤ (w32 (p3 + 1)) ∧ (w32 (p3 + 1)) < 60) <|
          (fX0_add 25 x1 (w32 ((μ p1 ((w32 (p3 + 1))).toNat) - 48)) x3 μ).bind fun μ4 =>
          some ((-9), μ4)
        else
          some ((w32 (p3 + 2)), μ)
      else
        some (x2, μ)
    else
      some (p3, μ)
theorem K_X1_readPersonAside {σ : Scr} {p1 : Nat} (hp1 : isTx p1) (p2 : Int) (p3 : Int)  (μ : Mem) : Con σ yX1_readPersonAside cX1_readPersonAside 7 (some .int) 3 [.inr (.inr 0), .inr (.inr p1), .inl p2, .inl p3] μ (fX1_readPersonAside p1 p2 p3 μ) wI := by
  refine con_of (own := RX1) (by decide) rfl (Nat.le_of_ble_eq_true rfl) ?_
  show Sim σ cX1_readPersonAside 7 RX1 (3) (some .int) wI 0 [(0, .inr (.inr 0)), (1, .inr (.inr p1)), (2, .inl p2), (3, .inl p3)] [] μ (fX1_readPersonAside p1 p2 p3 μ)
  unfold fX1_readPersonAside
  refine S_aload_n dX1_readPersonAside_0 rfl ?_
  refine S_iload_n dX1_readPersonAside_1 rfl ?_
  refine S_bald (N := 60) dX1_readPersonAside_2 (kd_text hp1) (tx_lt hp1) rfl ?_
  refine S_callS_I dX1_readPersonAside_3 [.inl (μ p1 (p3).toNat)] (K_X1_kindOf (μ p1 (p3).toNat) μ) l_X1_275 yo_X1_kindOf rfl rfl rfl (fun x1 => ?_)
  refine S_istore (lv' := [(4, .inl x1), (0, .inr (.inr 0)), (1, .inr (.inr p1)), (2, .inl p2), (3, .inl p3)]) dX1_readPersonAside_6 rfl rfl ?_
  refine S_iload dX1_readPersonAside_8 rfl ?_
  refine S_bipush dX1_readPersonAside_10 rfl (by decide) ?_
  refine S_ic_eq (tgt := 27) dX1_readPersonAside_12 (by decide) (fun h8 => ?_) (fun h8 => ?_)
  · refine S_iload_n dX1_readPersonAside_27 rfl ?_
    exact S_iret dX1_readPersonAside_28 rfl rfl
  · refine S_aload_n dX1_readPersonAside_15 rfl ?_
    refine S_getR (c1 := 25) dX1_readPersonAside_16 rfl fl_X1_36 rfl rfl rfl ?_
    refine S_getI dX1_readPersonAside_19 rfl fl_X1_122 rfl rfl ?_
    refine S_bipush dX1_readPersonAside_22 rfl (by decide) ?_
    refine S_ic_lt (tgt := 29) dX1_readPersonAside_24 (by decide) (fun h7 => ?_) (fun h7 => ?_)
    · refine S_aload_n dX1_readPersonAside_29 rfl ?_
      refine S_iload_n dX1_readPersonAside_30 rfl ?_
      refine S_iload_n dX1_readPersonAside_31 rfl ?_
      refine S_iconst dX1_readPersonAside_32 rfl ?_
      refine S_iadd dX1_readPersonAside_33 ?_
      refine S_iconst dX1_readPersonAside_34 rfl ?_
      refine S_callS_I dX1_readPersonAside_35 [.inr (.inr p1), .inl p2, .inl (w32 (p3 + 1)), .inl 3] (K_X1_firstNoFigure hp1 p2 (w32 (p3 + 1)) 3 μ) l_X1_265 yo_X1_firstNoFigure rfl rfl rfl (fun x2 => ?_)
      refine S_istore (lv' := [(5, .inl x2), (4, .inl x1), (0, .inr (.inr 0)), (1, .inr (.inr p1)), (2, .inl p2), (3, .inl p3)]) dX1_readPersonAside_38 rfl rfl ?_
      refine S_iload dX1_readPersonAside_40 rfl ?_
      refine S_bipush dX1_readPersonAside_42 rfl (by decide) ?_
      refine S_ic_eq (tgt := 50) dX1_readPersonAside_44 (by decide) (fun h6 => ?_) (fun h6 => ?_)
      · refine S_bipush dX1_readPersonAside_50 rfl (by decide) ?_
        refine S_aload_n dX1_readPersonAside_52 rfl ?_
        refine S_iload_n dX1_readPersonAside_53 rfl ?_
        refine S_iconst dX1_readPersonAside_54 rfl ?_
        refine S_iadd dX1_readPersonAside_55 ?_
        refine S_bald (N := 60) dX1_readPersonAside_56 (kd_text hp1) (tx_lt hp1) rfl ?_
        refine S_bipush dX1_readPersonAside_57 rfl (by decide) ?_
        refine S_isub dX1_readPersonAside_59 ?_
        refine S_imul dX1_readPersonAside_60 ?_
        refine S_aload_n dX1_readPersonAside_61 rfl ?_
        refine S_iload_n dX1_readPersonAside_62 rfl ?_
        refine S_iconst dX1_readPersonAside_63 rfl ?_
        refine S_iadd dX1_readPersonAside_64 ?_
        refine S_bald (N := 60) dX1_readPersonAside_65 (kd_text hp1) (tx_lt hp1) rfl ?_
        refine S_iadd dX1_readPersonAside_66 ?_
        refine S_bipush dX1_readPersonAside_67 rfl (by decide) ?_
        refine S_isub dX1_readPersonAside_69 ?_
        refine S_let (fun x3 => ?_)
        refine S_istore (lv' := [(6, .inl x3), (5, .inl x2), (4, .inl x1), (0, .inr (.inr 0)), (1, .inr (.inr p1)), (2, .inl p2), (3, .inl p3)]) dX1_readPersonAside_70 rfl rfl ?_
        refine S_iload dX1_readPersonAside_72 rfl ?_
        refine S_bipush dX1_readPersonAside_74 rfl (by decide) ?_
        refine S_ic_le (tgt := 83) dX1_readPersonAside_76 (by decide) (fun h5 => ?_) (fun h5 => ?_)
        · refine S_aload_n dX1_readPersonAside_83 rfl ?_
          refine S_getR (c1 := 25) dX1_readPersonAside_84 rfl fl_X1_36 rfl rfl rfl ?_
          refine S_iload dX1_readPersonAside_87 rfl ?_
          refine S_aload_n dX1_readPersonAside_89 rfl ?_
          refine S_iload_n dX1_readPersonAside_90 rfl ?_
          refine S_iconst dX1_readPersonAside_91 rfl ?_
          refine S_iadd dX1_readPersonAside_92 ?_
          refine S_bald (N := 60) dX1_readPersonAside_93 (kd_text hp1) (tx_lt hp1) rfl ?_
          refine S_bipush dX1_readPersonAside_94 rfl (by decide) ?_
          refine S_isub dX1_readPersonAside_96 ?_
          refine S_iload dX1_readPersonAside_97 rfl ?_
          refine S_callW_V dX1_readPersonAside_99 [.inl x1, .inl (w32 ((μ p1 ((w32 (p3 + 1))).toNat) - 48)), .inl x3] (K_X0_add (by unfold isBk; decide) x1 (w32 ((μ p1 ((w32 (p3 + 1))).toNat) - 48)) x3 μ) l_X1_278 yo_X0_add rfl rfl rfl rfl rfl (fun μ4 => ?_)
          refine S_bipush dX1_readPersonAside_102 rfl (by decide) ?_
          exact S_iret dX1_readPersonAside_104 rfl rfl
        · refine S_iload_n dX1_readPersonAside_79 rfl ?_
          refine S_iconst dX1_readPersonAside_80 rfl ?_
          refine S_iadd dX1_readPersonAside_81 ?_
          exact S_iret dX1_readPersonAside_82 rfl rfl
      · refine S_iload dX1_readPersonAside_47 rfl ?_
        exact S_iret dX1_readPersonAside_49 rfl rfl
    · refine S_iload_n dX1_readPersonAside_27 rfl ?_
      exact S_iret dX1_readPersonAside_28 rfl rfl
