theorem dX2_dares_0 : decode cX2_dares 0 = .ok (.aload_n 0, 1) := by decide +kernel
theorem dX2_dares_1 : decode cX2_dares 1 = .ok (.iload_n 1, 1) := by decide +kernel
theorem dX2_dares_2 : decode cX2_dares 2 = .ok (.invokevirtual 162, 3) := by decide +kernel
theorem dX2_dares_5 : decode cX2_dares 5 = .ok (.ifCond .eq 56, 3) := by decide +kernel
theorem dX2_dares_8 : decode cX2_dares 8 = .ok (.iload_n 2, 1) := by decide +kernel
theorem dX2_dares_9 : decode cX2_dares 9 = .ok (.i2l, 1) := by decide +kernel
theorem dX2_dares_10 : decode cX2_dares 10 = .ok (.lconst 0, 1) := by decide +kernel
theorem dX2_dares_11 : decode cX2_dares 11 = .ok (.ldc2_w 180, 3) := by decide +kernel
theorem dX2_dares_14 : decode cX2_dares 14 = .ok (.invokestatic 59, 3) := by decide +kernel
theorem dX2_dares_17 : decode cX2_dares 17 = .ok (.ifCond .eq 44, 3) := by decide +kernel
theorem dX2_dares_20 : decode cX2_dares 20 = .ok (.iload_n 3, 1) := by decide +kernel
theorem dX2_dares_21 : decode cX2_dares 21 = .ok (.i2l, 1) := by decide +kernel
theorem dX2_dares_22 : decode cX2_dares 22 = .ok (.lconst 0, 1) := by decide +kernel
theorem dX2_dares_23 : decode cX2_dares 23 = .ok (.ldc2_w 192, 3) := by decide +kernel
theorem dX2_dares_26 : decode cX2_dares 26 = .ok (.invokestatic 59, 3) := by decide +kernel
theorem dX2_dares_29 : decode cX2_dares 29 = .ok (.ifCond .eq 32, 3) := by decide +kernel
theorem dX2_dares_32 : decode cX2_dares 32 = .ok (.iload 4, 2) := by decide +kernel
theorem dX2_dares_34 : decode cX2_dares 34 = .ok (.i2l, 1) := by decide +kernel
theorem dX2_dares_35 : decode cX2_dares 35 = .ok (.lconst 0, 1) := by decide +kernel
theorem dX2_dares_36 : decode cX2_dares 36 = .ok (.ldc2_w 182, 3) := by decide +kernel
theorem dX2_dares_39 : decode cX2_dares 39 = .ok (.invokestatic 59, 3) := by decide +kernel
theorem dX2_dares_42 : decode cX2_dares 42 = .ok (.ifCond .eq 19, 3) := by decide +kernel
theorem dX2_dares_45 : decode cX2_dares 45 = .ok (.aload_n 0, 1) := by decide +kernel
theorem dX2_dares_46 : decode cX2_dares 46 = .ok (.getfield 13, 3) := by decide +kernel
theorem dX2_dares_49 : decode cX2_dares 49 = .ok (.iload_n 1, 1) := by decide +kernel
theorem dX2_dares_50 : decode cX2_dares 50 = .ok (.iaload, 1) := by decide +kernel
theorem dX2_dares_51 : decode cX2_dares 51 = .ok (.iload_n 2, 1) := by decide +kernel
theorem dX2_dares_52 : decode cX2_dares 52 = .ok (.iload_n 3, 1) := by decide +kernel
theorem dX2_dares_53 : decode cX2_dares 53 = .ok (.iload 4, 2) := by decide +kernel
theorem dX2_dares_55 : decode cX2_dares 55 = .ok (.invokestatic 145, 3) := by decide +kernel
theorem dX2_dares_58 : decode cX2_dares 58 = .ok (.goto 4, 3) := by decide +kernel
theorem dX2_dares_61 : decode cX2_dares 61 = .ok (.iconst (-1), 1) := by decide +kernel
theorem dX2_dares_62 : decode cX2_dares 62 = .ok (.ireturn, 1) := by decide +kernel
theorem dX2_where_0 : decode cX2_where 0 = .ok (.iload_n 1, 1) := by decide +kernel
theorem dX2_where_1 : decode cX2_where 1 = .ok (.i2l, 1) := by decide +kernel
theorem dX2_where_2 : decode cX2_where 2 = .ok (.lconst 0, 1) := by decide +kernel
theorem dX2_where_3 : decode cX2_where 3 = .ok (.ldc2_w 194, 3) := by decide +kernel
theorem dX2_where_6 : decode cX2_where 6 = .ok (.invokestatic 59, 3) := by decide +kernel
theorem dX2_where_9 : decode cX2_where 9 = .ok (.ifCond .ne 5, 3) := by decide +kernel
theorem dX2_where_12 : decode cX2_where 12 = .ok (.iconst (-1), 1) := by decide +kernel
theorem dX2_where_13 : decode cX2_where 13 = .ok (.ireturn, 1) := by decide +kernel
theorem dX2_where_14 : decode cX2_where 14 = .ok (.aload_n 0, 1) := by decide +kernel
theorem dX2_where_15 : decode cX2_where 15 = .ok (.getfield 136, 3) := by decide +kernel
theorem dX2_where_18 : decode cX2_where 18 = .ok (.ifCond .ne 6, 3) := by decide +kernel
theorem dX2_where_21 : decode cX2_where 21 = .ok (.bipush (-4), 2) := by decide +kernel
theorem dX2_where_23 : decode cX2_where 23 = .ok (.ireturn, 1) := by decide +kernel
theorem dX2_where_24 : decode cX2_where 24 = .ok (.aload_n 0, 1) := by decide +kernel
theorem dX2_where_25 : decode cX2_where 25 = .ok (.invokevirtual 196, 3) := by decide +kernel
theorem dX2_where_28 : decode cX2_where 28 = .ok (.aload_n 0, 1) := by decide +kernel
theorem dX2_where_29 : decode cX2_where 29 = .ok (.bipush (-9), 2) := by decide +kernel
theorem dX2_where_31 : decode cX2_where 31 = .ok (.putfield 54, 3) := by decide +kernel
theorem dX2_where_34 : decode cX2_where 34 = .ok (.iconst 0, 1) := by decide +kernel
theorem dX2_where_35 : decode cX2_where 35 = .ok (.istore_n 2, 1) := by decide +kernel
theorem dX2_where_36 : decode cX2_where 36 = .ok (.iload_n 2, 1) := by decide +kernel
theorem dX2_where_37 : decode cX2_where 37 = .ok (.iload_n 1, 1) := by decide +kernel
theorem dX2_where_38 : decode cX2_where 38 = .ok (.if_icmp .ge 20, 3) := by decide +kernel
theorem dX2_where_41 : decode cX2_where 41 = .ok (.aload_n 0, 1) := by decide +kernel
theorem dX2_where_42 : decode cX2_where 42 = .ok (.aload_n 0, 1) := by decide +kernel
theorem dX2_where_43 : decode cX2_where 43 = .ok (.sipush 3284, 3) := by decide +kernel
theorem dX2_where_46 : decode cX2_where 46 = .ok (.invokevirtual 177, 3) := by decide +kernel
theorem dX2_where_49 : decode cX2_where 49 = .ok (.putfield 54, 3) := by decide +kernel
theorem dX2_where_52 : decode cX2_where 52 = .ok (.iinc 2 1, 3) := by decide +kernel
theorem dX2_where_55 : decode cX2_where 55 = .ok (.goto (-19), 3) := by decide +kernel
theorem dX2_where_58 : decode cX2_where 58 = .ok (.aload_n 0, 1) := by decide +kernel
theorem dX2_where_59 : decode cX2_where 59 = .ok (.getfield 7, 3) := by decide +kernel
theorem dX2_where_62 : decode cX2_where 62 = .ok (.sipush 3286, 3) := by decide +kernel
theorem dX2_where_65 : decode cX2_where 65 = .ok (.iaload, 1) := by decide +kernel
theorem dX2_where_66 : decode cX2_where 66 = .ok (.ireturn, 1) := by decide +kernel
theorem dX2_crosses_0 : decode cX2_crosses 0 = .ok (.aload_n 0, 1) := by decide +kernel
theorem dX2_crosses_1 : decode cX2_crosses 1 = .ok (.iload_n 1, 1) := by decide +kernel
theorem dX2_crosses_2 : decode cX2_crosses 2 = .ok (.invokevirtual 162, 3) := by decide +kernel
theorem dX2_crosses_5 : decode cX2_crosses 5 = .ok (.ifCond .eq 15, 3) := by decide +kernel
theorem dX2_crosses_8 : decode cX2_crosses 8 = .ok (.iload_n 2, 1) := by decide +kernel
theorem dX2_crosses_9 : decode cX2_crosses 9 = .ok (.i2l, 1) := by decide +kernel
theorem dX2_crosses_10 : decode cX2_crosses 10 = .ok (.lconst 0, 1) := by decide +kernel
theorem dX2_crosses_11 : decode cX2_crosses 11 = .ok (.ldc2_w 194, 3) := by decide +kernel
theorem dX2_crosses_14 : decode cX2_crosses 14 = .ok (.invokestatic 59, 3) := by decide +kernel
theorem dX2_crosses_17 : decode cX2_crosses 17 = .ok (.ifCond .ne 5, 3) := by decide +kernel
theorem dX2_crosses_20 : decode cX2_crosses 20 = .ok (.iconst (-1), 1) := by decide +kernel
theorem dX2_crosses_21 : decode cX2_crosses 21 = .ok (.ireturn, 1) := by decide +kernel
theorem dX2_crosses_22 : decode cX2_crosses 22 = .ok (.aload_n 0, 1) := by decide +kernel
theorem dX2_crosses_23 : decode cX2_crosses 23 = .ok (.invokevirtual 196, 3) := by decide +kernel
theorem dX2_crosses_26 : decode cX2_crosses 26 = .ok (.iconst 0, 1) := by decide +kernel
theorem dX2_crosses_27 : decode cX2_crosses 27 = .ok (.istore_n 3, 1) := by decide +kernel
theorem dX2_crosses_28 : decode cX2_crosses 28 = .ok (.iload_n 3, 1) := by decide +kernel
theorem dX2_crosses_29 : decode cX2_crosses 29 = .ok (.iload_n 2, 1) := by decide +kernel
theorem dX2_crosses_30 : decode cX2_crosses 30 = .ok (.if_icmp .ge 17, 3) := by decide +kernel
theorem dX2_crosses_33 : decode cX2_crosses 33 = .ok (.aload_n 0, 1) := by decide +kernel
theorem dX2_crosses_34 : decode cX2_crosses 34 = .ok (.sipush 3284, 3) := by decide +kernel
theorem dX2_crosses_37 : decode cX2_crosses 37 = .ok (.invokevirtual 177, 3) := by decide +kernel
theorem dX2_crosses_40 : decode cX2_crosses 40 = .ok (.pop, 1) := by decide +kernel
theorem dX2_crosses_41 : decode cX2_crosses 41 = .ok (.iinc 3 1, 3) := by decide +kernel
theorem dX2_crosses_44 : decode cX2_crosses 44 = .ok (.goto (-16), 3) := by decide +kernel
theorem dX2_crosses_47 : decode cX2_crosses 47 = .ok (.aload_n 0, 1) := by decide +kernel
theorem dX2_crosses_48 : decode cX2_crosses 48 = .ok (.getfield 7, 3) := by decide +kernel
theorem dX2_crosses_51 : decode cX2_crosses 51 = .ok (.sipush 3299, 3) := by decide +kernel
theorem dX2_crosses_54 : decode cX2_crosses 54 = .ok (.iload_n 1, 1) := by decide +kernel
theorem dX2_crosses_55 : decode cX2_crosses 55 = .ok (.iadd, 1) := by decide +kernel
theorem dX2_crosses_56 : decode cX2_crosses 56 = .ok (.iaload, 1) := by decide +kernel
theorem dX2_crosses_57 : decode cX2_crosses 57 = .ok (.aload_n 0, 1) := by decide +kernel
theorem dX2_crosses_58 : decode cX2_crosses 58 = .ok (.getfield 7, 3) := by decide +kernel
theorem dX2_crosses_61 : decode cX2_crosses 61 = .ok (.bipush 15, 2) := by decide +kernel
theorem dX2_crosses_63 : decode cX2_crosses 63 = .ok (.iload_n 1, 1) := by decide +kernel
theorem dX2_crosses_64 : decode cX2_crosses 64 = .ok (.iadd, 1) := by decide +kernel
theorem dX2_crosses_65 : decode cX2_crosses 65 = .ok (.iaload, 1) := by decide +kernel
theorem dX2_crosses_66 : decode cX2_crosses 66 = .ok (.isub, 1) := by decide +kernel
theorem dX2_crosses_67 : decode cX2_crosses 67 = .ok (.ireturn, 1) := by decide +kernel
theorem dX2_first_0 : decode cX2_first 0 = .ok (.aload_n 0, 1) := by decide +kernel
theorem dX2_first_1 : decode cX2_first 1 = .ok (.iload_n 1, 1) := by decide +kernel
theorem dX2_first_2 : decode cX2_first 2 = .ok (.invokevirtual 162, 3) := by decide +kernel
theorem dX2_first_5 : decode cX2_first 5 = .ok (.ifCond .ne 5, 3) := by decide +kernel
theorem dX2_first_8 : decode cX2_first 8 = .ok (.iconst (-1), 1) := by decide +kernel
theorem dX2_first_9 : decode cX2_first 9 = .ok (.ireturn, 1) := by decide +kernel
theorem dX2_first_10 : decode cX2_first 10 = .ok (.aload_n 0, 1) := by decide +kernel
theorem dX2_first_11 : decode cX2_first 11 = .ok (.invokevirtual 196, 3) := by decide +kernel
theorem dX2_first_14 : decode cX2_first 14 = .ok (.iconst 1, 1) := by decide +kernel
theorem dX2_first_15 : decode cX2_first 15 = .ok (.istore_n 2, 1) := by decide +kernel
theorem dX2_first_16 : decode cX2_first 16 = .ok (.iload_n 2, 1) := by decide +kernel
theorem dX2_first_17 : decode cX2_first 17 = .ok (.bipush 41, 2) := by decide +kernel
theorem dX2_first_19 : decode cX2_first 19 = .ok (.if_icmp .ge 22, 3) := by decide +kernel
theorem dX2_first_22 : decode cX2_first 22 = .ok (.aload_n 0, 1) := by decide +kernel
theorem dX2_first_23 : decode cX2_first 23 = .ok (.sipush 3284, 3) := by decide +kernel
theorem dX2_first_26 : decode cX2_first 26 = .ok (.invokevirtual 177, 3) := by decide +kernel
theorem dX2_first_29 : decode cX2_first 29 = .ok (.iload_n 1, 1) := by decide +kernel
theorem dX2_first_30 : decode cX2_first 30 = .ok (.if_icmp .ne 5, 3) := by decide +kernel
theorem dX2_first_33 : decode cX2_first 33 = .ok (.iload_n 2, 1) := by decide +kernel
theorem dX2_first_34 : decode cX2_first 34 = .ok (.ireturn, 1) := by decide +kernel
theorem dX2_first_35 : decode cX2_first 35 = .ok (.iinc 2 1, 3) := by decide +kernel
theorem dX2_first_38 : decode cX2_first 38 = .ok (.goto (-22), 3) := by decide +kernel
theorem dX2_first_41 : decode cX2_first 41 = .ok (.bipush (-9), 2) := by decide +kernel
theorem dX2_first_43 : decode cX2_first 43 = .ok (.ireturn, 1) := by decide +kernel
theorem dX2_hasBy_0 : decode cX2_hasBy 0 = .ok (.aload_n 0, 1) := by decide +kernel
theorem dX2_hasBy_1 : decode cX2_hasBy 1 = .ok (.invokevirtual 196, 3) := by decide +kernel
theorem dX2_hasBy_4 : decode cX2_hasBy 4 = .ok (.aload_n 0, 1) := by decide +kernel
theorem dX2_hasBy_5 : decode cX2_hasBy 5 = .ok (.getfield 7, 3) := by decide +kernel
theorem dX2_hasBy_8 : decode cX2_hasBy 8 = .ok (.sipush 3293, 3) := by decide +kernel
theorem dX2_hasBy_11 : decode cX2_hasBy 11 = .ok (.iload_n 1, 1) := by decide +kernel
theorem dX2_hasBy_12 : decode cX2_hasBy 12 = .ok (.iadd, 1) := by decide +kernel
theorem dX2_hasBy_13 : decode cX2_hasBy 13 = .ok (.iload_n 2, 1) := by decide +kernel
theorem dX2_hasBy_14 : decode cX2_hasBy 14 = .ok (.iastore, 1) := by decide +kernel
theorem dX2_hasBy_15 : decode cX2_hasBy 15 = .ok (.bipush (-9), 2) := by decide +kernel
theorem dX2_hasBy_17 : decode cX2_hasBy 17 = .ok (.istore 4, 2) := by decide +kernel
theorem dX2_hasBy_19 : decode cX2_hasBy 19 = .ok (.iconst 0, 1) := by decide +kernel
theorem dX2_hasBy_20 : decode cX2_hasBy 20 = .ok (.istore 5, 2) := by decide +kernel
theorem dX2_hasBy_22 : decode cX2_hasBy 22 = .ok (.iload 5, 2) := by decide +kernel
theorem dX2_hasBy_24 : decode cX2_hasBy 24 = .ok (.iload_n 3, 1) := by decide +kernel
theorem dX2_hasBy_25 : decode cX2_hasBy 25 = .ok (.if_icmp .ge 18, 3) := by decide +kernel
theorem dX2_hasBy_28 : decode cX2_hasBy 28 = .ok (.aload_n 0, 1) := by decide +kernel
theorem dX2_hasBy_29 : decode cX2_hasBy 29 = .ok (.sipush 3284, 3) := by decide +kernel
theorem dX2_hasBy_32 : decode cX2_hasBy 32 = .ok (.invokevirtual 177, 3) := by decide +kernel
theorem dX2_hasBy_35 : decode cX2_hasBy 35 = .ok (.istore 4, 2) := by decide +kernel
theorem dX2_hasBy_37 : decode cX2_hasBy 37 = .ok (.iinc 5 1, 3) := by decide +kernel
theorem dX2_hasBy_40 : decode cX2_hasBy 40 = .ok (.goto (-18), 3) := by decide +kernel
theorem dX2_hasBy_43 : decode cX2_hasBy 43 = .ok (.iload 4, 2) := by decide +kernel
theorem dX2_hasBy_45 : decode cX2_hasBy 45 = .ok (.ireturn, 1) := by decide +kernel
theorem dX2_lift_0 : decode cX2_lift 0 = .ok (.aload_n 0, 1) := by decide +kernel
theorem dX2_lift_1 : decode cX2_lift 1 = .ok (.iload_n 1, 1) := by decide +kernel
theorem dX2_lift_2 : decode cX2_lift 2 = .ok (.invokevirtual 162, 3) := by decide +kernel
theorem dX2_lift_5 : decode cX2_lift 5 = .ok (.ifCond .eq 15, 3) := by decide +kernel
theorem dX2_lift_8 : decode cX2_lift 8 = .ok (.iload_n 2, 1) := by decide +kernel
theorem dX2_lift_9 : decode cX2_lift 9 = .ok (.i2l, 1) := by decide +kernel
theorem dX2_lift_10 : decode cX2_lift 10 = .ok (.lconst 1, 1) := by decide +kernel
theorem dX2_lift_11 : decode cX2_lift 11 = .ok (.ldc2_w 180, 3) := by decide +kernel
theorem dX2_lift_14 : decode cX2_lift 14 = .ok (.invokestatic 59, 3) := by decide +kernel
theorem dX2_lift_17 : decode cX2_lift 17 = .ok (.ifCond .ne 5, 3) := by decide +kernel
theorem dX2_lift_20 : decode cX2_lift 20 = .ok (.iconst (-1), 1) := by decide +kernel
theorem dX2_lift_21 : decode cX2_lift 21 = .ok (.ireturn, 1) := by decide +kernel
theorem dX2_lift_22 : decode cX2_lift 22 = .ok (.iconst 0, 1) := by decide +kernel
theorem dX2_lift_23 : decode cX2_lift 23 = .ok (.istore_n 3, 1) := by decide +kernel
theorem dX2_lift_24 : decode cX2_lift 24 = .ok (.aload_n 0, 1) := by decide +kernel
theorem dX2_lift_25 : decode cX2_lift 25 = .ok (.getfield 7, 3) := by decide +kernel
theorem dX2_lift_28 : decode cX2_lift 28 = .ok (.bipush 9, 2) := by decide +kernel
theorem dX2_lift_30 : decode cX2_lift 30 = .ok (.iload_n 1, 1) := by decide +kernel
theorem dX2_lift_31 : decode cX2_lift 31 = .ok (.iadd, 1) := by decide +kernel
theorem dX2_lift_32 : decode cX2_lift 32 = .ok (.iaload, 1) := by decide +kernel
theorem dX2_lift_33 : decode cX2_lift 33 = .ok (.iload_n 3, 1) := by decide +kernel
theorem dX2_lift_34 : decode cX2_lift 34 = .ok (.iadd, 1) := by decide +kernel
theorem dX2_lift_35 : decode cX2_lift 35 = .ok (.bipush 21, 2) := by decide +kernel
theorem dX2_lift_37 : decode cX2_lift 37 = .ok (.if_icmp .ge 32, 3) := by decide +kernel
theorem dX2_lift_40 : decode cX2_lift 40 = .ok (.aload_n 0, 1) := by decide +kernel
theorem dX2_lift_41 : decode cX2_lift 41 = .ok (.iload_n 1, 1) := by decide +kernel
theorem dX2_lift_42 : decode cX2_lift 42 = .ok (.aload_n 0, 1) := by decide +kernel
theorem dX2_lift_43 : decode cX2_lift 43 = .ok (.getfield 7, 3) := by decide +kernel
theorem dX2_lift_46 : decode cX2_lift 46 = .ok (.bipush 9, 2) := by decide +kernel
theorem dX2_lift_48 : decode cX2_lift 48 = .ok (.iload_n 1, 1) := by decide +kernel
theorem dX2_lift_49 : decode cX2_lift 49 = .ok (.iadd, 1) := by decide +kernel
theorem dX2_lift_50 : decode cX2_lift 50 = .ok (.iaload, 1) := by decide +kernel
theorem dX2_lift_51 : decode cX2_lift 51 = .ok (.iload_n 3, 1) := by decide +kernel
theorem dX2_lift_52 : decode cX2_lift 52 = .ok (.iadd, 1) := by decide +kernel
theorem dX2_lift_53 : decode cX2_lift 53 = .ok (.iload_n 2, 1) := by decide +kernel
theorem dX2_lift_54 : decode cX2_lift 54 = .ok (.invokevirtual 199, 3) := by decide +kernel
theorem dX2_lift_57 : decode cX2_lift 57 = .ok (.iload_n 1, 1) := by decide +kernel
theorem dX2_lift_58 : decode cX2_lift 58 = .ok (.if_icmp .ne 5, 3) := by decide +kernel
theorem dX2_lift_61 : decode cX2_lift 61 = .ok (.iload_n 3, 1) := by decide +kernel
theorem dX2_lift_62 : decode cX2_lift 62 = .ok (.ireturn, 1) := by decide +kernel
theorem dX2_lift_63 : decode cX2_lift 63 = .ok (.iinc 3 1, 3) := by decide +kernel
theorem dX2_lift_66 : decode cX2_lift 66 = .ok (.goto (-42), 3) := by decide +kernel
theorem dX2_lift_69 : decode cX2_lift 69 = .ok (.bipush (-9), 2) := by decide +kernel
theorem dX2_lift_71 : decode cX2_lift 71 = .ok (.ireturn, 1) := by decide +kernel
theorem dX2_isAhead_0 : decode cX2_isAhead 0 = .ok (.aload_n 0, 1) := by decide +kernel
theorem dX2_isAhead_1 : decode cX2_isAhead 1 = .ok (.getfield 13, 3) := by decide +kernel
theorem dX2_isAhead_4 : decode cX2_isAhead 4 = .ok (.iload_n 3, 1) := by decide +kernel
theorem dX2_isAhead_5 : decode cX2_isAhead 5 = .ok (.iaload, 1) := by decide +kernel
theorem dX2_isAhead_6 : decode cX2_isAhead 6 = .ok (.iload 4, 2) := by decide +kernel
theorem dX2_isAhead_8 : decode cX2_isAhead 8 = .ok (.aload_n 0, 1) := by decide +kernel
theorem dX2_isAhead_9 : decode cX2_isAhead 9 = .ok (.getfield 7, 3) := by decide +kernel
theorem dX2_isAhead_12 : decode cX2_isAhead 12 = .ok (.iconst 1, 1) := by decide +kernel
theorem dX2_isAhead_13 : decode cX2_isAhead 13 = .ok (.iaload, 1) := by decide +kernel
theorem dX2_isAhead_14 : decode cX2_isAhead 14 = .ok (.aload_n 0, 1) := by decide +kernel
theorem dX2_isAhead_15 : decode cX2_isAhead 15 = .ok (.iconst 0, 1) := by decide +kernel
theorem dX2_isAhead_16 : decode cX2_isAhead 16 = .ok (.iload_n 3, 1) := by decide +kernel
theorem dX2_isAhead_17 : decode cX2_isAhead 17 = .ok (.invokevirtual 142, 3) := by decide +kernel
theorem dX2_isAhead_20 : decode cX2_isAhead 20 = .ok (.invokestatic 145, 3) := by decide +kernel
theorem dX2_isAhead_23 : decode cX2_isAhead 23 = .ok (.istore 5, 2) := by decide +kernel
theorem dX2_isAhead_25 : decode cX2_isAhead 25 = .ok (.aload_n 0, 1) := by decide +kernel
theorem dX2_isAhead_26 : decode cX2_isAhead 26 = .ok (.iconst 0, 1) := by decide +kernel
theorem dX2_isAhead_27 : decode cX2_isAhead 27 = .ok (.iload_n 1, 1) := by decide +kernel
theorem dX2_isAhead_28 : decode cX2_isAhead 28 = .ok (.invokevirtual 142, 3) := by decide +kernel
theorem dX2_isAhead_31 : decode cX2_isAhead 31 = .ok (.aload_n 0, 1) := by decide +kernel
theorem dX2_isAhead_32 : decode cX2_isAhead 32 = .ok (.iconst 0, 1) := by decide +kernel
theorem dX2_isAhead_33 : decode cX2_isAhead 33 = .ok (.iload_n 3, 1) := by decide +kernel
theorem dX2_isAhead_34 : decode cX2_isAhead 34 = .ok (.invokevirtual 142, 3) := by decide +kernel
theorem dX2_isAhead_37 : decode cX2_isAhead 37 = .ok (.if_icmp .lt 23, 3) := by decide +kernel
theorem dX2_isAhead_40 : decode cX2_isAhead 40 = .ok (.aload_n 0, 1) := by decide +kernel
theorem dX2_isAhead_41 : decode cX2_isAhead 41 = .ok (.iconst 0, 1) := by decide +kernel
theorem dX2_isAhead_42 : decode cX2_isAhead 42 = .ok (.iload_n 1, 1) := by decide +kernel
theorem dX2_isAhead_43 : decode cX2_isAhead 43 = .ok (.invokevirtual 142, 3) := by decide +kernel
theorem dX2_isAhead_46 : decode cX2_isAhead 46 = .ok (.aload_n 0, 1) := by decide +kernel
theorem dX2_isAhead_47 : decode cX2_isAhead 47 = .ok (.iconst 0, 1) := by decide +kernel
theorem dX2_isAhead_48 : decode cX2_isAhead 48 = .ok (.iload_n 3, 1) := by decide +kernel
theorem dX2_isAhead_49 : decode cX2_isAhead 49 = .ok (.invokevirtual 142, 3) := by decide +kernel
theorem dX2_isAhead_52 : decode cX2_isAhead 52 = .ok (.if_icmp .ne 12, 3) := by decide +kernel
theorem dX2_isAhead_55 : decode cX2_isAhead 55 = .ok (.iload_n 1, 1) := by decide +kernel
theorem dX2_isAhead_56 : decode cX2_isAhead 56 = .ok (.iload_n 3, 1) := by decide +kernel
theorem dX2_isAhead_57 : decode cX2_isAhead 57 = .ok (.if_icmp .ge 7, 3) := by decide +kernel
theorem dX2_isAhead_60 : decode cX2_isAhead 60 = .ok (.iconst 1, 1) := by decide +kernel
theorem dX2_isAhead_61 : decode cX2_isAhead 61 = .ok (.goto 4, 3) := by decide +kernel
theorem dX2_isAhead_64 : decode cX2_isAhead 64 = .ok (.iconst 0, 1) := by decide +kernel
theorem dX2_isAhead_65 : decode cX2_isAhead 65 = .ok (.istore 6, 2) := by decide +kernel
theorem dX2_isAhead_67 : decode cX2_isAhead 67 = .ok (.iload 5, 2) := by decide +kernel
theorem dX2_isAhead_69 : decode cX2_isAhead 69 = .ok (.iload_n 2, 1) := by decide +kernel
theorem dX2_isAhead_70 : decode cX2_isAhead 70 = .ok (.if_icmp .lt 14, 3) := by decide +kernel
theorem dX2_isAhead_73 : decode cX2_isAhead 73 = .ok (.iload 5, 2) := by decide +kernel
theorem dX2_isAhead_75 : decode cX2_isAhead 75 = .ok (.iload_n 2, 1) := by decide +kernel
theorem dX2_isAhead_76 : decode cX2_isAhead 76 = .ok (.if_icmp .ne 12, 3) := by decide +kernel
theorem dX2_isAhead_79 : decode cX2_isAhead 79 = .ok (.iload 6, 2) := by decide +kernel
theorem dX2_isAhead_81 : decode cX2_isAhead 81 = .ok (.ifCond .eq 7, 3) := by decide +kernel
theorem dX2_isAhead_84 : decode cX2_isAhead 84 = .ok (.iconst 1, 1) := by decide +kernel
theorem dX2_isAhead_85 : decode cX2_isAhead 85 = .ok (.goto 4, 3) := by decide +kernel
theorem dX2_isAhead_88 : decode cX2_isAhead 88 = .ok (.iconst 0, 1) := by decide +kernel
theorem dX2_isAhead_89 : decode cX2_isAhead 89 = .ok (.ireturn, 1) := by decide +kernel
theorem dX2_shamed_0 : decode cX2_shamed 0 = .ok (.iconst 0, 1) := by decide +kernel
theorem dX2_shamed_1 : decode cX2_shamed 1 = .ok (.istore 4, 2) := by decide +kernel
theorem dX2_shamed_3 : decode cX2_shamed 3 = .ok (.iload 4, 2) := by decide +kernel
theorem dX2_shamed_5 : decode cX2_shamed 5 = .ok (.aload_n 0, 1) := by decide +kernel
theorem dX2_shamed_6 : decode cX2_shamed 6 = .ok (.getfield 7, 3) := by decide +kernel
theorem dX2_shamed_9 : decode cX2_shamed 9 = .ok (.bipush 9, 2) := by decide +kernel
theorem dX2_shamed_11 : decode cX2_shamed 11 = .ok (.iload_n 3, 1) := by decide +kernel
theorem dX2_shamed_12 : decode cX2_shamed 12 = .ok (.iadd, 1) := by decide +kernel
theorem dX2_shamed_13 : decode cX2_shamed 13 = .ok (.iaload, 1) := by decide +kernel
theorem dX2_shamed_14 : decode cX2_shamed 14 = .ok (.if_icmp .gt 34, 3) := by decide +kernel
theorem dX2_shamed_17 : decode cX2_shamed 17 = .ok (.aload_n 0, 1) := by decide +kernel
theorem dX2_shamed_18 : decode cX2_shamed 18 = .ok (.iload_n 1, 1) := by decide +kernel
theorem dX2_shamed_19 : decode cX2_shamed 19 = .ok (.iload_n 2, 1) := by decide +kernel
theorem dX2_shamed_20 : decode cX2_shamed 20 = .ok (.iload_n 3, 1) := by decide +kernel
theorem dX2_shamed_21 : decode cX2_shamed 21 = .ok (.aload_n 0, 1) := by decide +kernel
theorem dX2_shamed_22 : decode cX2_shamed 22 = .ok (.getfield 7, 3) := by decide +kernel
theorem dX2_shamed_25 : decode cX2_shamed 25 = .ok (.bipush 9, 2) := by decide +kernel
theorem dX2_shamed_27 : decode cX2_shamed 27 = .ok (.iload_n 3, 1) := by decide +kernel
theorem dX2_shamed_28 : decode cX2_shamed 28 = .ok (.iadd, 1) := by decide +kernel
theorem dX2_shamed_29 : decode cX2_shamed 29 = .ok (.iaload, 1) := by decide +kernel
theorem dX2_shamed_30 : decode cX2_shamed 30 = .ok (.iload 4, 2) := by decide +kernel
theorem dX2_shamed_32 : decode cX2_shamed 32 = .ok (.isub, 1) := by decide +kernel
theorem dX2_shamed_33 : decode cX2_shamed 33 = .ok (.invokevirtual 203, 3) := by decide +kernel
theorem dX2_shamed_36 : decode cX2_shamed 36 = .ok (.ifCond .eq 6, 3) := by decide +kernel
theorem dX2_shamed_39 : decode cX2_shamed 39 = .ok (.iload 4, 2) := by decide +kernel
theorem dX2_shamed_41 : decode cX2_shamed 41 = .ok (.ireturn, 1) := by decide +kernel
theorem dX2_shamed_42 : decode cX2_shamed 42 = .ok (.iinc 4 1, 3) := by decide +kernel
theorem dX2_shamed_45 : decode cX2_shamed 45 = .ok (.goto (-42), 3) := by decide +kernel
theorem dX2_shamed_48 : decode cX2_shamed 48 = .ok (.bipush (-9), 2) := by decide +kernel
theorem dX2_shamed_50 : decode cX2_shamed 50 = .ok (.ireturn, 1) := by decide +kernel
theorem dX2_together_0 : decode cX2_together 0 = .ok (.aload_n 0, 1) := by decide +kernel
theorem dX2_together_1 : decode cX2_together 1 = .ok (.getfield 13, 3) := by decide +kernel
theorem dX2_together_4 : decode cX2_together 4 = .ok (.iload_n 1, 1) := by decide +kernel
theorem dX2_together_5 : decode cX2_together 5 = .ok (.iaload, 1) := by decide +kernel
theorem dX2_together_6 : decode cX2_together 6 = .ok (.aload_n 0, 1) := by decide +kernel
theorem dX2_together_7 : decode cX2_together 7 = .ok (.getfield 7, 3) := by decide +kernel
theorem dX2_together_10 : decode cX2_together 10 = .ok (.bipush 9, 2) := by decide +kernel
theorem dX2_together_12 : decode cX2_together 12 = .ok (.iload_n 1, 1) := by decide +kernel
theorem dX2_together_13 : decode cX2_together 13 = .ok (.iadd, 1) := by decide +kernel
theorem dX2_together_14 : decode cX2_together 14 = .ok (.iaload, 1) := by decide +kernel
theorem dX2_together_15 : decode cX2_together 15 = .ok (.iload_n 2, 1) := by decide +kernel
theorem dX2_together_16 : decode cX2_together 16 = .ok (.iadd, 1) := by decide +kernel
theorem dX2_together_17 : decode cX2_together 17 = .ok (.aload_n 0, 1) := by decide +kernel
theorem dX2_together_18 : decode cX2_together 18 = .ok (.getfield 7, 3) := by decide +kernel
theorem dX2_together_21 : decode cX2_together 21 = .ok (.iconst 1, 1) := by decide +kernel
theorem dX2_together_22 : decode cX2_together 22 = .ok (.iaload, 1) := by decide +kernel
theorem dX2_together_23 : decode cX2_together 23 = .ok (.aload_n 0, 1) := by decide +kernel
theorem dX2_together_24 : decode cX2_together 24 = .ok (.iconst 0, 1) := by decide +kernel
theorem dX2_together_25 : decode cX2_together 25 = .ok (.iload_n 1, 1) := by decide +kernel
theorem dX2_together_26 : decode cX2_together 26 = .ok (.invokevirtual 142, 3) := by decide +kernel
theorem dX2_together_29 : decode cX2_together 29 = .ok (.invokestatic 145, 3) := by decide +kernel
theorem dX2_together_32 : decode cX2_together 32 = .ok (.istore_n 3, 1) := by decide +kernel
theorem dX2_together_33 : decode cX2_together 33 = .ok (.iload_n 2, 1) := by decide +kernel
theorem dX2_together_34 : decode cX2_together 34 = .ok (.istore 4, 2) := by decide +kernel
theorem dX2_together_36 : decode cX2_together 36 = .ok (.iconst 0, 1) := by decide +kernel
theorem dX2_together_37 : decode cX2_together 37 = .ok (.istore 5, 2) := by decide +kernel
theorem dX2_together_39 : decode cX2_together 39 = .ok (.iload 5, 2) := by decide +kernel
theorem dX2_together_41 : decode cX2_together 41 = .ok (.aload_n 0, 1) := by decide +kernel
theorem dX2_together_42 : decode cX2_together 42 = .ok (.getfield 136, 3) := by decide +kernel
theorem dX2_together_45 : decode cX2_together 45 = .ok (.if_icmp .ge 73, 3) := by decide +kernel
theorem dX2_together_48 : decode cX2_together 48 = .ok (.aload_n 0, 1) := by decide +kernel
theorem dX2_together_49 : decode cX2_together 49 = .ok (.getfield 38, 3) := by decide +kernel
theorem dX2_together_52 : decode cX2_together 52 = .ok (.iload 5, 2) := by decide +kernel
theorem dX2_together_54 : decode cX2_together 54 = .ok (.iload 5, 2) := by decide +kernel
theorem dX2_together_56 : decode cX2_together 56 = .ok (.iload_n 1, 1) := by decide +kernel
theorem dX2_together_57 : decode cX2_together 57 = .ok (.if_icmp .ne 7, 3) := by decide +kernel
theorem dX2_together_60 : decode cX2_together 60 = .ok (.iload_n 2, 1) := by decide +kernel
theorem dX2_together_61 : decode cX2_together 61 = .ok (.goto 11, 3) := by decide +kernel
theorem dX2_together_64 : decode cX2_together 64 = .ok (.aload_n 0, 1) := by decide +kernel
theorem dX2_together_65 : decode cX2_together 65 = .ok (.iload_n 1, 1) := by decide +kernel
theorem dX2_together_66 : decode cX2_together 66 = .ok (.iload_n 3, 1) := by decide +kernel
theorem dX2_together_67 : decode cX2_together 67 = .ok (.iload 5, 2) := by decide +kernel
theorem dX2_together_69 : decode cX2_together 69 = .ok (.invokevirtual 207, 3) := by decide +kernel
theorem dX2_together_72 : decode cX2_together 72 = .ok (.iastore, 1) := by decide +kernel
theorem dX2_together_73 : decode cX2_together 73 = .ok (.iload 4, 2) := by decide +kernel
theorem dX2_together_75 : decode cX2_together 75 = .ok (.aload_n 0, 1) := by decide +kernel
theorem dX2_together_76 : decode cX2_together 76 = .ok (.getfield 38, 3) := by decide +kernel
theorem dX2_together_79 : decode cX2_together 79 = .ok (.iload 5, 2) := by decide +kernel
theorem dX2_together_81 : decode cX2_together 81 = .ok (.iaload, 1) := by decide +kernel
theorem dX2_together_82 : decode cX2_together 82 = .ok (.bipush (-9), 2) := by decide +kernel
theorem dX2_together_84 : decode cX2_together 84 = .ok (.if_icmp .ne 8, 3) := by decide +kernel
theorem dX2_together_87 : decode cX2_together 87 = .ok (.ldc 210, 2) := by decide +kernel
theorem dX2_together_89 : decode cX2_together 89 = .ok (.goto 20, 3) := by decide +kernel
theorem dX2_together_92 : decode cX2_together 92 = .ok (.iload 5, 2) := by decide +kernel
theorem dX2_together_94 : decode cX2_together 94 = .ok (.iload_n 1, 1) := by decide +kernel
theorem dX2_together_95 : decode cX2_together 95 = .ok (.if_icmp .ne 7, 3) := by decide +kernel
theorem dX2_together_98 : decode cX2_together 98 = .ok (.iconst 0, 1) := by decide +kernel
theorem dX2_together_99 : decode cX2_together 99 = .ok (.goto 10, 3) := by decide +kernel
theorem dX2_together_102 : decode cX2_together 102 = .ok (.aload_n 0, 1) := by decide +kernel
theorem dX2_together_103 : decode cX2_together 103 = .ok (.getfield 38, 3) := by decide +kernel
theorem dX2_together_106 : decode cX2_together 106 = .ok (.iload 5, 2) := by decide +kernel
theorem dX2_together_108 : decode cX2_together 108 = .ok (.iaload, 1) := by decide +kernel
theorem dX2_together_109 : decode cX2_together 109 = .ok (.iadd, 1) := by decide +kernel
theorem dX2_together_110 : decode cX2_together 110 = .ok (.istore 4, 2) := by decide +kernel
theorem dX2_together_112 : decode cX2_together 112 = .ok (.iinc 5 1, 3) := by decide +kernel
theorem dX2_together_115 : decode cX2_together 115 = .ok (.goto (-76), 3) := by decide +kernel
theorem dX2_together_118 : decode cX2_together 118 = .ok (.iload_n 3, 1) := by decide +kernel
theorem dX2_together_119 : decode cX2_together 119 = .ok (.ifCond .le 8, 3) := by decide +kernel
theorem dX2_together_122 : decode cX2_together 122 = .ok (.iload 4, 2) := by decide +kernel
theorem dX2_together_124 : decode cX2_together 124 = .ok (.goto 5, 3) := by decide +kernel
theorem dX2_together_127 : decode cX2_together 127 = .ok (.ldc 210, 2) := by decide +kernel
theorem dX2_together_129 : decode cX2_together 129 = .ok (.ireturn, 1) := by decide +kernel
theorem dX2_cheap_0 : decode cX2_cheap 0 = .ok (.aload_n 0, 1) := by decide +kernel
theorem dX2_cheap_1 : decode cX2_cheap 1 = .ok (.iload_n 1, 1) := by decide +kernel
theorem dX2_cheap_2 : decode cX2_cheap 2 = .ok (.invokevirtual 162, 3) := by decide +kernel
theorem dX2_cheap_5 : decode cX2_cheap 5 = .ok (.ifCond .eq 10, 3) := by decide +kernel
theorem dX2_cheap_8 : decode cX2_cheap 8 = .ok (.iload_n 2, 1) := by decide +kernel
theorem dX2_cheap_9 : decode cX2_cheap 9 = .ok (.invokestatic 65, 3) := by decide +kernel
theorem dX2_cheap_12 : decode cX2_cheap 12 = .ok (.ifCond .ne 5, 3) := by decide +kernel
theorem dX2_cheap_15 : decode cX2_cheap 15 = .ok (.iconst (-1), 1) := by decide +kernel
theorem dX2_cheap_16 : decode cX2_cheap 16 = .ok (.ireturn, 1) := by decide +kernel
theorem dX2_cheap_17 : decode cX2_cheap 17 = .ok (.ldc 210, 2) := by decide +kernel
theorem dX2_cheap_19 : decode cX2_cheap 19 = .ok (.istore_n 3, 1) := by decide +kernel
theorem dX2_cheap_20 : decode cX2_cheap 20 = .ok (.iconst 0, 1) := by decide +kernel
theorem dX2_cheap_21 : decode cX2_cheap 21 = .ok (.istore 4, 2) := by decide +kernel
theorem dX2_cheap_23 : decode cX2_cheap 23 = .ok (.aload_n 0, 1) := by decide +kernel
theorem dX2_cheap_24 : decode cX2_cheap 24 = .ok (.getfield 7, 3) := by decide +kernel
theorem dX2_cheap_27 : decode cX2_cheap 27 = .ok (.bipush 9, 2) := by decide +kernel
theorem dX2_cheap_29 : decode cX2_cheap 29 = .ok (.iload_n 1, 1) := by decide +kernel
theorem dX2_cheap_30 : decode cX2_cheap 30 = .ok (.iadd, 1) := by decide +kernel
theorem dX2_cheap_31 : decode cX2_cheap 31 = .ok (.iaload, 1) := by decide +kernel
theorem dX2_cheap_32 : decode cX2_cheap 32 = .ok (.iload 4, 2) := by decide +kernel
theorem dX2_cheap_34 : decode cX2_cheap 34 = .ok (.iadd, 1) := by decide +kernel
theorem dX2_cheap_35 : decode cX2_cheap 35 = .ok (.bipush 21, 2) := by decide +kernel
theorem dX2_cheap_37 : decode cX2_cheap 37 = .ok (.if_icmp .ge 59, 3) := by decide +kernel
theorem dX2_cheap_40 : decode cX2_cheap 40 = .ok (.aload_n 0, 1) := by decide +kernel
theorem dX2_cheap_41 : decode cX2_cheap 41 = .ok (.iload_n 1, 1) := by decide +kernel
theorem dX2_cheap_42 : decode cX2_cheap 42 = .ok (.iload 4, 2) := by decide +kernel
theorem dX2_cheap_44 : decode cX2_cheap 44 = .ok (.invokevirtual 211, 3) := by decide +kernel
theorem dX2_cheap_47 : decode cX2_cheap 47 = .ok (.istore 5, 2) := by decide +kernel
theorem dX2_cheap_49 : decode cX2_cheap 49 = .ok (.iload 5, 2) := by decide +kernel
theorem dX2_cheap_51 : decode cX2_cheap 51 = .ok (.iload_n 3, 1) := by decide +kernel
theorem dX2_cheap_52 : decode cX2_cheap 52 = .ok (.if_icmp .ge 38, 3) := by decide +kernel
theorem dX2_cheap_55 : decode cX2_cheap 55 = .ok (.iload 5, 2) := by decide +kernel
theorem dX2_cheap_57 : decode cX2_cheap 57 = .ok (.istore_n 3, 1) := by decide +kernel
theorem dX2_cheap_58 : decode cX2_cheap 58 = .ok (.iconst 0, 1) := by decide +kernel
theorem dX2_cheap_59 : decode cX2_cheap 59 = .ok (.istore 6, 2) := by decide +kernel
theorem dX2_cheap_61 : decode cX2_cheap 61 = .ok (.iload 6, 2) := by decide +kernel
theorem dX2_cheap_63 : decode cX2_cheap 63 = .ok (.aload_n 0, 1) := by decide +kernel
theorem dX2_cheap_64 : decode cX2_cheap 64 = .ok (.getfield 136, 3) := by decide +kernel
theorem dX2_cheap_67 : decode cX2_cheap 67 = .ok (.if_icmp .ge 23, 3) := by decide +kernel
theorem dX2_cheap_70 : decode cX2_cheap 70 = .ok (.aload_n 0, 1) := by decide +kernel
theorem dX2_cheap_71 : decode cX2_cheap 71 = .ok (.getfield 41, 3) := by decide +kernel
theorem dX2_cheap_74 : decode cX2_cheap 74 = .ok (.iload 6, 2) := by decide +kernel
theorem dX2_cheap_76 : decode cX2_cheap 76 = .ok (.aload_n 0, 1) := by decide +kernel
theorem dX2_cheap_77 : decode cX2_cheap 77 = .ok (.getfield 38, 3) := by decide +kernel
theorem dX2_cheap_80 : decode cX2_cheap 80 = .ok (.iload 6, 2) := by decide +kernel
theorem dX2_cheap_82 : decode cX2_cheap 82 = .ok (.iaload, 1) := by decide +kernel
theorem dX2_cheap_83 : decode cX2_cheap 83 = .ok (.iastore, 1) := by decide +kernel
theorem dX2_cheap_84 : decode cX2_cheap 84 = .ok (.iinc 6 1, 3) := by decide +kernel
theorem dX2_cheap_87 : decode cX2_cheap 87 = .ok (.goto (-26), 3) := by decide +kernel
theorem dX2_cheap_90 : decode cX2_cheap 90 = .ok (.iinc 4 1, 3) := by decide +kernel
theorem dX2_cheap_93 : decode cX2_cheap 93 = .ok (.goto (-70), 3) := by decide +kernel
theorem dX2_cheap_96 : decode cX2_cheap 96 = .ok (.iload_n 3, 1) := by decide +kernel
theorem dX2_cheap_97 : decode cX2_cheap 97 = .ok (.ldc 210, 2) := by decide +kernel
theorem dX2_cheap_99 : decode cX2_cheap 99 = .ok (.if_icmp .ne 6, 3) := by decide +kernel
theorem dX2_cheap_102 : decode cX2_cheap 102 = .ok (.bipush (-9), 2) := by decide +kernel
theorem dX2_cheap_104 : decode cX2_cheap 104 = .ok (.ireturn, 1) := by decide +kernel
theorem dX2_cheap_105 : decode cX2_cheap 105 = .ok (.aload_n 0, 1) := by decide +kernel
theorem dX2_cheap_106 : decode cX2_cheap 106 = .ok (.iload_n 2, 1) := by decide +kernel
theorem dX2_cheap_107 : decode cX2_cheap 107 = .ok (.aload_n 0, 1) := by decide +kernel
theorem dX2_cheap_108 : decode cX2_cheap 108 = .ok (.getfield 136, 3) := by decide +kernel
theorem dX2_cheap_111 : decode cX2_cheap 111 = .ok (.invokevirtual 73, 3) := by decide +kernel
theorem dX2_cheap_114 : decode cX2_cheap 114 = .ok (.iconst 0, 1) := by decide +kernel
theorem dX2_cheap_115 : decode cX2_cheap 115 = .ok (.istore 4, 2) := by decide +kernel
theorem dX2_cheap_117 : decode cX2_cheap 117 = .ok (.iload 4, 2) := by decide +kernel
theorem dX2_cheap_119 : decode cX2_cheap 119 = .ok (.aload_n 0, 1) := by decide +kernel
theorem dX2_cheap_120 : decode cX2_cheap 120 = .ok (.getfield 136, 3) := by decide +kernel
theorem dX2_cheap_123 : decode cX2_cheap 123 = .ok (.if_icmp .ge 28, 3) := by decide +kernel
theorem dX2_cheap_126 : decode cX2_cheap 126 = .ok (.aload_n 0, 1) := by decide +kernel
theorem dX2_cheap_127 : decode cX2_cheap 127 = .ok (.getfield 19, 3) := by decide +kernel
theorem dX2_cheap_130 : decode cX2_cheap 130 = .ok (.bipush 40, 2) := by decide +kernel
theorem dX2_cheap_132 : decode cX2_cheap 132 = .ok (.iload_n 2, 1) := by decide +kernel
theorem dX2_cheap_133 : decode cX2_cheap 133 = .ok (.imul, 1) := by decide +kernel
theorem dX2_cheap_134 : decode cX2_cheap 134 = .ok (.iload 4, 2) := by decide +kernel
theorem dX2_cheap_136 : decode cX2_cheap 136 = .ok (.iadd, 1) := by decide +kernel
theorem dX2_cheap_137 : decode cX2_cheap 137 = .ok (.aload_n 0, 1) := by decide +kernel
theorem dX2_cheap_138 : decode cX2_cheap 138 = .ok (.getfield 41, 3) := by decide +kernel
theorem dX2_cheap_141 : decode cX2_cheap 141 = .ok (.iload 4, 2) := by decide +kernel
theorem dX2_cheap_143 : decode cX2_cheap 143 = .ok (.iaload, 1) := by decide +kernel
theorem dX2_cheap_144 : decode cX2_cheap 144 = .ok (.iastore, 1) := by decide +kernel
theorem dX2_cheap_145 : decode cX2_cheap 145 = .ok (.iinc 4 1, 3) := by decide +kernel
theorem dX2_cheap_148 : decode cX2_cheap 148 = .ok (.goto (-31), 3) := by decide +kernel
theorem dX2_cheap_151 : decode cX2_cheap 151 = .ok (.iload_n 3, 1) := by decide +kernel
theorem dX2_cheap_152 : decode cX2_cheap 152 = .ok (.ireturn, 1) := by decide +kernel
theorem k_X2_192 : Cond.constantLong RX2 192 (Int64.ofInt 99) ∈ gd_tbl := in_gd (i := 887) (by decide +kernel) rfl
theorem k_X2_194 : Cond.constantLong RX2 194 (Int64.ofInt 40) ∈ gd_tbl := in_gd (i := 892) (by decide +kernel) rfl
theorem mt_X2_layTried : (Cond.instanceMethod yX2_layTried ∈ gd_tbl ∧ Cond.selects yX2_layTried.cls yX2_layTried yX2_layTried ∈ gd_tbl) ∧ Cond.initialized yX2_layTried.cls ∈ gd_tbl ∧ Cond.code yX2_layTried cX2_layTried 2 (none) ∈ gd_tbl := ⟨⟨in_gd (i := 895) (by decide +kernel) rfl, in_gd (i := 61) (by decide +kernel) rfl⟩, in_gd (i := 87) (by decide +kernel) rfl, in_gd (i := 896) (by decide +kernel) rfl⟩
theorem yo_X2_layTried : yOk yX2_layTried 0 := ⟨by decide, by decide, by decide +kernel⟩
theorem l_X2_196 : mlV RX2 196 yX2_layTried cX2_layTried 2 (none) := ⟨in_gd (i := 893) (by decide +kernel) rfl, mt_X2_layTried⟩
theorem mt_X2_hasBy : (Cond.instanceMethod yX2_hasBy ∈ gd_tbl ∧ Cond.selects yX2_hasBy.cls yX2_hasBy yX2_hasBy ∈ gd_tbl) ∧ Cond.initialized yX2_hasBy.cls ∈ gd_tbl ∧ Cond.code yX2_hasBy cX2_hasBy 6 (some .int) ∈ gd_tbl := ⟨⟨in_gd (i := 911) (by decide +kernel) rfl, in_gd (i := 62) (by decide +kernel) rfl⟩, in_gd (i := 87) (by decide +kernel) rfl, in_gd (i := 912) (by decide +kernel) rfl⟩
theorem yo_X2_hasBy : yOk yX2_hasBy 3 := ⟨by decide, by decide, by decide +kernel⟩
theorem l_X2_199 : mlV RX2 199 yX2_hasBy cX2_hasBy 6 (some .int) := ⟨in_gd (i := 909) (by decide +kernel) rfl, mt_X2_hasBy⟩
theorem mt_X2_isAhead : (Cond.instanceMethod yX2_isAhead ∈ gd_tbl ∧ Cond.selects yX2_isAhead.cls yX2_isAhead yX2_isAhead ∈ gd_tbl) ∧ Cond.initialized yX2_isAhead.cls ∈ gd_tbl ∧ Cond.code yX2_isAhead cX2_isAhead 7 (some .boolean) ∈ gd_tbl := ⟨⟨in_gd (i := 928) (by decide +kernel) rfl, in_gd (i := 65) (by decide +kernel) rfl⟩, in_gd (i := 87) (by decide +kernel) rfl, in_gd (i := 929) (by decide +kernel) rfl⟩
theorem yo_X2_isAhead : yOk yX2_isAhead 4 := ⟨by decide, by decide, by decide +kernel⟩
theorem l_X2_203 : mlV RX2 203 yX2_isAhead cX2_isAhead 7 (some .boolean) := ⟨in_gd (i := 926) (by decide +kernel) rfl, mt_X2_isAhead⟩
theorem fl_X2_38 : FLk RX2 38 2 18 := Or.inl (in_gd (i := 631) (by decide +kernel) rfl)
theorem k_X2_210 : Cond.constant RX2 210 (Int32.ofInt 99999) ∈ gd_tbl := in_gd (i := 917) (by decide +kernel) rfl
theorem mt_X2_shamed : (Cond.instanceMethod yX2_shamed ∈ gd_tbl ∧ Cond.selects yX2_shamed.cls yX2_shamed yX2_shamed ∈ gd_tbl) ∧ Cond.initialized yX2_shamed.cls ∈ gd_tbl ∧ Cond.code yX2_shamed cX2_shamed 5 (some .int) ∈ gd_tbl := ⟨⟨in_gd (i := 924) (by decide +kernel) rfl, in_gd (i := 64) (by decide +kernel) rfl⟩, in_gd (i := 87) (by decide +kernel) rfl, in_gd (i := 925) (by decide +kernel) rfl⟩
theorem yo_X2_shamed : yOk yX2_shamed 3 := ⟨by decide, by decide, by decide +kernel⟩
theorem l_X2_207 : mlV RX2 207 yX2_shamed cX2_shamed 5 (some .int) := ⟨in_gd (i := 922) (by decide +kernel) rfl, mt_X2_shamed⟩
theorem fl_X2_41 : FLk RX2 41 2 19 := Or.inl (in_gd (i := 632) (by decide +kernel) rfl)
theorem mt_X2_together : (Cond.instanceMethod yX2_together ∈ gd_tbl ∧ Cond.selects yX2_together.cls yX2_together yX2_together ∈ gd_tbl) ∧ Cond.initialized yX2_together.cls ∈ gd_tbl ∧ Cond.code yX2_together cX2_together 6 (some .int) ∈ gd_tbl := ⟨⟨in_gd (i := 920) (by decide +kernel) rfl, in_gd (i := 63) (by decide +kernel) rfl⟩, in_gd (i := 87) (by decide +kernel) rfl, in_gd (i := 921) (by decide +kernel) rfl⟩
theorem yo_X2_together : yOk yX2_together 2 := ⟨by decide, by decide, by decide +kernel⟩
theorem l_X2_211 : mlV RX2 211 yX2_together cX2_together 6 (some .int) := ⟨in_gd (i := 918) (by decide +kernel) rfl, mt_X2_together⟩
def fX2_dares (p1 : Int) (p2 : Int) (p3 : Int) (p4 : Int) (μ : Mem) : Option Int :=
  (fX2_isOne p1 μ).bind fun x1 =>
  mlet (
    some (-1)
    : Option Int) fun (K2 : Option Int) =>
  if x1 = 0 then
    K2
  else
    (fX2_in p2 0 20 μ).bind fun x3 =>
    if x3 = 0 then
      K2
    else
      (fX2_in p3 0 99 μ).bind fun x4 =>
      if x4 = 0 then
        K2
      else
        (fX2_in p4 0 9 μ).bind fun x5 =>
        if x5 = 0 then
          K2
        else
          grd (0 ≤ p1 ∧ p1 < 6) <|
          (fX2_daresBy (μ 62 (p1).toNat) p2 p3 p4 μ).bind fun x6 =>
          some x6
theorem K_X2_dares  (p1 : Int) (p2 : Int) (p3 : Int) (p4 : Int)  (μ : Mem) : Con yX2_dares cX2_dares 5 (some .int) 4 [.inr (.inr 60), .inl p1, .inl p2, .inl p3, .inl p4] μ (fX2_dares p1 p2 p3 p4 μ) (rI μ) := by
  refine con_of (own := RX2) (by decide) rfl (Nat.le_of_ble_eq_true rfl) ?_
  show Sim cX2_dares 5 RX2 (4) (some .int) (rI μ) 0 [(0, .inr (.inr 60)), (1, .inl p1), (2, .inl p2), (3, .inl p3), (4, .inl p4)] [] μ (fX2_dares p1 p2 p3 p4 μ)
  unfold fX2_dares
  refine S_aload_n dX2_dares_0 rfl ?_
  refine S_iload_n dX2_dares_1 rfl ?_
  refine S_callV_I dX2_dares_2 [.inl p1] (K_X2_isOne p1 μ) l_X2_162 yo_X2_isOne rfl rfl rfl rfl rfl (fun x1 => ?_)
  refine S_jn (fun (K2 : Option Int) => Sim cX2_dares 5 RX2 (4) (some .int) (rI μ) 61 [] [] μ K2) ?_ (fun K2 hK2 => ?_)
  · skip
    refine S_iconst dX2_dares_61 rfl ?_
    exact S_iret dX2_dares_62 rfl rfl
  refine S_if_eq (tgt := 61) dX2_dares_5 (by decide) (fun h10 => ?_) (fun h10 => ?_)
  · exact S_sub [] rfl (hK2)
  · refine S_iload_n dX2_dares_8 rfl ?_
    refine S_i2l dX2_dares_9 ?_
    refine S_lconst (n := 0) dX2_dares_10 (by decide) rfl ?_
    refine S_ldc2 dX2_dares_11 rfl k_X2_180 ?_
    refine S_callS_I dX2_dares_14 [.inr (.inl p2), .inr (.inl 0), .inr (.inl 20)] (K_X2_in p2 0 20 μ) l_X2_59 yo_X2_in rfl rfl rfl (fun x3 => ?_)
    refine S_if_eq (tgt := 61) dX2_dares_17 (by decide) (fun h9 => ?_) (fun h9 => ?_)
    · exact S_sub [] rfl (hK2)
    · refine S_iload_n dX2_dares_20 rfl ?_
      refine S_i2l dX2_dares_21 ?_
      refine S_lconst (n := 0) dX2_dares_22 (by decide) rfl ?_
      refine S_ldc2 dX2_dares_23 rfl k_X2_192 ?_
      refine S_callS_I dX2_dares_26 [.inr (.inl p3), .inr (.inl 0), .inr (.inl 99)] (K_X2_in p3 0 99 μ) l_X2_59 yo_X2_in rfl rfl rfl (fun x4 => ?_)
      refine S_if_eq (tgt := 61) dX2_dares_29 (by decide) (fun h8 => ?_) (fun h8 => ?_)
      · exact S_sub [] rfl (hK2)
      · refine S_iload dX2_dares_32 rfl ?_
        refine S_i2l dX2_dares_34 ?_
        refine S_lconst (n := 0) dX2_dares_35 (by decide) rfl ?_
        refine S_ldc2 dX2_dares_36 rfl k_X2_182 ?_
        refine S_callS_I dX2_dares_39 [.inr (.inl p4), .inr (.inl 0), .inr (.inl 9)] (K_X2_in p4 0 9 μ) l_X2_59 yo_X2_in rfl rfl rfl (fun x5 => ?_)
        refine S_if_eq (tgt := 61) dX2_dares_42 (by decide) (fun h7 => ?_) (fun h7 => ?_)
        · exact S_sub [] rfl (hK2)
        · refine S_aload_n dX2_dares_45 rfl ?_
          refine S_getR (c1 := 62) dX2_dares_46 rfl fl_X2_13 rfl rfl rfl ?_
          refine S_iload_n dX2_dares_49 rfl ?_
          refine S_iald (N := 6) dX2_dares_50 rfl (by decide) rfl ?_
          refine S_iload_n dX2_dares_51 rfl ?_
          refine S_iload_n dX2_dares_52 rfl ?_
          refine S_iload dX2_dares_53 rfl ?_
          refine S_callS_I dX2_dares_55 [.inl (μ 62 (p1).toNat), .inl p2, .inl p3, .inl p4] (K_X2_daresBy (μ 62 (p1).toNat) p2 p3 p4 μ) l_X2_145 yo_X2_daresBy rfl rfl rfl (fun x6 => ?_)
          refine S_goto (tgt := 62) dX2_dares_58 (by decide) ?_
          exact S_iret dX2_dares_62 rfl rfl
def fX2_where_L36 (p1 : Int) (K5 : Mem → Option (Int × Mem)) : Nat → Int → Mem → Option (Int × Mem)
  | 0, _, _ => none
  | n8 + 1, x6, μ7 =>
    if p1 ≤ x6 then
      K5 μ7
    else
      bnd2 (fX2_passes 3284 μ7) fun x9 μ10 =>
      mlet (wr μ10 60 7 x9) fun μ11 =>
      mlet (w32 (x6 + 1)) fun x12 =>
      fX2_where_L36 p1 K5 n8 x12 μ11
def fX2_where (p1 : Int) (μ : Mem) : Option (Int × Mem) :=
  (fX2_in p1 0 40 μ).bind fun x1 =>
  if ¬ x1 = 0 then
    if ¬ (μ 60 1) = 0 then
      (fX2_layTried μ).bind fun μ2 =>
      mlet (wr μ2 60 7 (-9)) fun μ3 =>
      mlet (fun (μ4 : Mem) =>
        some ((μ4 61 3286), μ4)
        ) fun (K5 : Mem → Option (Int × Mem)) =>
      fX2_where_L36 p1 K5 fuel 0 μ3
    else
      some ((-4), μ)
  else
    some ((-1), μ)
theorem K_X2_where  (p1 : Int)  (μ : Mem) : Con yX2_where cX2_where 3 (some .int) 7 [.inr (.inr 60), .inl p1] μ (fX2_where p1 μ) wI := by
  refine con_of (own := RX2) (by decide) rfl (Nat.le_of_ble_eq_true rfl) ?_
  show Sim cX2_where 3 RX2 (7) (some .int) wI 0 [(0, .inr (.inr 60)), (1, .inl p1)] [] μ (fX2_where p1 μ)
  unfold fX2_where
  refine S_iload_n dX2_where_0 rfl ?_
  refine S_i2l dX2_where_1 ?_
  refine S_lconst (n := 0) dX2_where_2 (by decide) rfl ?_
  refine S_ldc2 dX2_where_3 rfl k_X2_194 ?_
  refine S_callS_I dX2_where_6 [.inr (.inl p1), .inr (.inl 0), .inr (.inl 40)] (K_X2_in p1 0 40 μ) l_X2_59 yo_X2_in rfl rfl rfl (fun x1 => ?_)
  refine S_if_ne (tgt := 14) dX2_where_9 (by decide) (fun h15 => ?_) (fun h15 => ?_)
  · refine S_aload_n dX2_where_14 rfl ?_
    refine S_getI dX2_where_15 rfl fl_X2_136 rfl rfl ?_
    refine S_if_ne (tgt := 24) dX2_where_18 (by decide) (fun h14 => ?_) (fun h14 => ?_)
    · refine S_aload_n dX2_where_24 rfl ?_
      refine S_callV_V dX2_where_25 [] (K_X2_layTried μ) l_X2_196 yo_X2_layTried rfl rfl rfl rfl rfl (fun μ2 => ?_)
      refine S_aload_n dX2_where_28 rfl ?_
      refine S_bipush dX2_where_29 rfl (by decide) ?_
      refine S_putI dX2_where_31 rfl fl_X2_54 rfl rfl rfl rfl (fun μ3 => ?_)
      refine S_iconst dX2_where_34 rfl ?_
      refine S_istore_n (lv' := [(2, .inl 0), (0, .inr (.inr 60)), (1, .inl p1)]) dX2_where_35 rfl rfl ?_
      refine S_jn (fun (K5 : Mem → Option (Int × Mem)) => ∀ (μ4 : Mem), Sim cX2_where 3 RX2 (7) (some .int) wI 58 [(0, .inr (.inr 60))] [] μ4 (K5 μ4)) ?_ (fun K5 hK5 => ?_)
      · intro μ4
        refine S_aload_n dX2_where_58 rfl ?_
        refine S_getR (c1 := 61) dX2_where_59 rfl fl_X2_7 rfl rfl rfl ?_
        refine S_sipush dX2_where_62 rfl (by decide) ?_
        refine S_ialdK (k := 3286) dX2_where_65 rfl (by decide) (by decide) ?_
        exact S_iret dX2_where_66 rfl rfl
      have hL36 : ∀ (n8 : Nat) (x6 : Int) (μ7 : Mem), Sim cX2_where 3 RX2 (7) (some .int) wI 36 [(0, .inr (.inr 60)), (1, .inl p1), (2, .inl x6)] [] μ7 (fX2_where_L36 p1 K5 n8 x6 μ7) := by
        intro n8
        induction n8 with
        | zero =>
          intro x6 μ7
          exact S_none rfl
        | succ n8 ih =>
          intro x6 μ7
          rw [fX2_where_L36]
          refine S_iload_n dX2_where_36 rfl ?_
          refine S_iload_n dX2_where_37 rfl ?_
          refine S_ic_ge (tgt := 58) dX2_where_38 (by decide) (fun h13 => ?_) (fun h13 => ?_)
          · exact S_sub [0] rfl (hK5 μ7)
          · refine S_aload_n dX2_where_41 rfl ?_
            refine S_aload_n dX2_where_42 rfl ?_
            refine S_sipush dX2_where_43 rfl (by decide) ?_
            refine S_callV_M2 dX2_where_46 [.inl 3284] (K_X2_passes 3284 μ7) l_X2_177 yo_X2_passes rfl rfl rfl rfl rfl (fun x9 μ10 => ?_)
            refine S_putI dX2_where_49 rfl fl_X2_54 rfl rfl rfl rfl (fun μ11 => ?_)
            refine S_iinc (lv' := fun x12 => [(2, .inl x12), (0, .inr (.inr 60)), (1, .inl p1)]) dX2_where_52 rfl rfl rfl (fun _ => rfl) (fun x12 => ?_)
            refine S_goto (tgt := 36) dX2_where_55 (by decide) ?_
            exact S_sub [1, 2, 0] rfl (ih x12 μ11)
      exact S_sub [1, 2, 0] rfl (hL36 fuel 0 μ3)
    · refine S_bipush dX2_where_21 rfl (by decide) ?_
      exact S_iret dX2_where_23 rfl rfl
  · refine S_iconst dX2_where_12 rfl ?_
    exact S_iret dX2_where_13 rfl rfl
def fX2_crosses_L28 (p2 : Int) (K5 : Mem → Option (Int × Mem)) : Nat → Int → Mem → Option (Int × Mem)
  | 0, _, _ => none
  | n8 + 1, x6, μ7 =>
    if p2 ≤ x6 then
      K5 μ7
    else
      bnd2 (fX2_passes 3284 μ7) fun x9 μ10 =>
      mlet (w32 (x6 + 1)) fun x11 =>
      fX2_crosses_L28 p2 K5 n8 x11 μ10
def fX2_crosses (p1 : Int) (p2 : Int) (μ : Mem) : Option (Int × Mem) :=
  (fX2_isOne p1 μ).bind fun x1 =>
  if x1 = 0 then
    some ((-1), μ)
  else
    (fX2_in p2 0 40 μ).bind fun x2 =>
    if ¬ x2 = 0 then
      (fX2_layTried μ).bind fun μ3 =>
      mlet (fun (μ4 : Mem) =>
        grd (0 ≤ (w32 (3299 + p1)) ∧ (w32 (3299 + p1)) < 3305) <|
        grd (0 ≤ (w32 (15 + p1)) ∧ (w32 (15 + p1)) < 3305) <|
        some ((w32 ((μ4 61 ((w32 (3299 + p1))).toNat) - (μ4 61 ((w32 (15 + p1))).toNat))), μ4)
        ) fun (K5 : Mem → Option (Int × Mem)) =>
      fX2_crosses_L28 p2 K5 fuel 0 μ3
    else
      some ((-1), μ)
theorem K_X2_crosses  (p1 : Int) (p2 : Int)  (μ : Mem) : Con yX2_crosses cX2_crosses 4 (some .int) 7 [.inr (.inr 60), .inl p1, .inl p2] μ (fX2_crosses p1 p2 μ) wI := by
  refine con_of (own := RX2) (by decide) rfl (Nat.le_of_ble_eq_true rfl) ?_
  show Sim cX2_crosses 4 RX2 (7) (some .int) wI 0 [(0, .inr (.inr 60)), (1, .inl p1), (2, .inl p2)] [] μ (fX2_crosses p1 p2 μ)
  unfold fX2_crosses
  refine S_aload_n dX2_crosses_0 rfl ?_
  refine S_iload_n dX2_crosses_1 rfl ?_
  refine S_callV_I dX2_crosses_2 [.inl p1] (K_X2_isOne p1 μ) l_X2_162 yo_X2_isOne rfl rfl rfl rfl rfl (fun x1 => ?_)
  refine S_if_eq (tgt := 20) dX2_crosses_5 (by decide) (fun h14 => ?_) (fun h14 => ?_)
  · refine S_iconst dX2_crosses_20 rfl ?_
    exact S_iret dX2_crosses_21 rfl rfl
  · refine S_iload_n dX2_crosses_8 rfl ?_
    refine S_i2l dX2_crosses_9 ?_
    refine S_lconst (n := 0) dX2_crosses_10 (by decide) rfl ?_
    refine S_ldc2 dX2_crosses_11 rfl k_X2_194 ?_
    refine S_callS_I dX2_crosses_14 [.inr (.inl p2), .inr (.inl 0), .inr (.inl 40)] (K_X2_in p2 0 40 μ) l_X2_59 yo_X2_in rfl rfl rfl (fun x2 => ?_)
    refine S_if_ne (tgt := 22) dX2_crosses_17 (by decide) (fun h13 => ?_) (fun h13 => ?_)
    · refine S_aload_n dX2_crosses_22 rfl ?_
      refine S_callV_V dX2_crosses_23 [] (K_X2_layTried μ) l_X2_196 yo_X2_layTried rfl rfl rfl rfl rfl (fun μ3 => ?_)
      refine S_iconst dX2_crosses_26 rfl ?_
      refine S_istore_n (lv' := [(3, .inl 0), (0, .inr (.inr 60)), (1, .inl p1), (2, .inl p2)]) dX2_crosses_27 rfl rfl ?_
      refine S_jn (fun (K5 : Mem → Option (Int × Mem)) => ∀ (μ4 : Mem), Sim cX2_crosses 4 RX2 (7) (some .int) wI 47 [(0, .inr (.inr 60)), (1, .inl p1)] [] μ4 (K5 μ4)) ?_ (fun K5 hK5 => ?_)
      · intro μ4
        refine S_aload_n dX2_crosses_47 rfl ?_
        refine S_getR (c1 := 61) dX2_crosses_48 rfl fl_X2_7 rfl rfl rfl ?_
        refine S_sipush dX2_crosses_51 rfl (by decide) ?_
        refine S_iload_n dX2_crosses_54 rfl ?_
        refine S_iadd dX2_crosses_55 ?_
        refine S_iald (N := 3305) dX2_crosses_56 rfl (by decide) rfl ?_
        refine S_aload_n dX2_crosses_57 rfl ?_
        refine S_getR (c1 := 61) dX2_crosses_58 rfl fl_X2_7 rfl rfl rfl ?_
        refine S_bipush dX2_crosses_61 rfl (by decide) ?_
        refine S_iload_n dX2_crosses_63 rfl ?_
        refine S_iadd dX2_crosses_64 ?_
        refine S_iald (N := 3305) dX2_crosses_65 rfl (by decide) rfl ?_
        refine S_isub dX2_crosses_66 ?_
        exact S_iret dX2_crosses_67 rfl rfl
      have hL28 : ∀ (n8 : Nat) (x6 : Int) (μ7 : Mem), Sim cX2_crosses 4 RX2 (7) (some .int) wI 28 [(0, .inr (.inr 60)), (1, .inl p1), (2, .inl p2), (3, .inl x6)] [] μ7 (fX2_crosses_L28 p2 K5 n8 x6 μ7) := by
        intro n8
        induction n8 with
        | zero =>
          intro x6 μ7
          exact S_none rfl
        | succ n8 ih =>
          intro x6 μ7
          rw [fX2_crosses_L28]
          refine S_iload_n dX2_crosses_28 rfl ?_
          refine S_iload_n dX2_crosses_29 rfl ?_
          refine S_ic_ge (tgt := 47) dX2_crosses_30 (by decide) (fun h12 => ?_) (fun h12 => ?_)
          · exact S_sub [0, 1] rfl (hK5 μ7)
          · refine S_aload_n dX2_crosses_33 rfl ?_
            refine S_sipush dX2_crosses_34 rfl (by decide) ?_
            refine S_callV_M2 dX2_crosses_37 [.inl 3284] (K_X2_passes 3284 μ7) l_X2_177 yo_X2_passes rfl rfl rfl rfl rfl (fun x9 μ10 => ?_)
            refine S_pop dX2_crosses_40 rfl ?_
            refine S_iinc (lv' := fun x11 => [(3, .inl x11), (0, .inr (.inr 60)), (1, .inl p1), (2, .inl p2)]) dX2_crosses_41 rfl rfl rfl (fun _ => rfl) (fun x11 => ?_)
            refine S_goto (tgt := 28) dX2_crosses_44 (by decide) ?_
            exact S_sub [1, 2, 3, 0] rfl (ih x11 μ10)
      exact S_sub [1, 2, 3, 0] rfl (hL28 fuel 0 μ3)
    · refine S_iconst dX2_crosses_20 rfl ?_
      exact S_iret dX2_crosses_21 rfl rfl
def fX2_first_L16 (p1 : Int) : Nat → Int → Mem → Option (Int × Mem)
  | 0, _, _ => none
  | n5 + 1, x3, μ4 =>
    if 41 ≤ x3 then
      some ((-9), μ4)
    else
      bnd2 (fX2_passes 3284 μ4) fun x6 μ7 =>
      if ¬ x6 = p1 then
        mlet (w32 (x3 + 1)) fun x8 =>
        fX2_first_L16 p1 n5 x8 μ7
      else
        some (x3, μ7)
def fX2_first (p1 : Int) (μ : Mem) : Option (Int × Mem) :=
  (fX2_isOne p1 μ).bind fun x1 =>
  if ¬ x1 = 0 then
    (fX2_layTried μ).bind fun μ2 =>
    fX2_first_L16 p1 fuel 1 μ2
  else
    some ((-1), μ)
theorem K_X2_first  (p1 : Int)  (μ : Mem) : Con yX2_first cX2_first 3 (some .int) 7 [.inr (.inr 60), .inl p1] μ (fX2_first p1 μ) wI := by
  refine con_of (own := RX2) (by decide) rfl (Nat.le_of_ble_eq_true rfl) ?_
  show Sim cX2_first 3 RX2 (7) (some .int) wI 0 [(0, .inr (.inr 60)), (1, .inl p1)] [] μ (fX2_first p1 μ)
  unfold fX2_first
  refine S_aload_n dX2_first_0 rfl ?_
  refine S_iload_n dX2_first_1 rfl ?_
  refine S_callV_I dX2_first_2 [.inl p1] (K_X2_isOne p1 μ) l_X2_162 yo_X2_isOne rfl rfl rfl rfl rfl (fun x1 => ?_)
  refine S_if_ne (tgt := 10) dX2_first_5 (by decide) (fun h11 => ?_) (fun h11 => ?_)
  · refine S_aload_n dX2_first_10 rfl ?_
    refine S_callV_V dX2_first_11 [] (K_X2_layTried μ) l_X2_196 yo_X2_layTried rfl rfl rfl rfl rfl (fun μ2 => ?_)
    refine S_iconst dX2_first_14 rfl ?_
    refine S_istore_n (lv' := [(2, .inl 1), (0, .inr (.inr 60)), (1, .inl p1)]) dX2_first_15 rfl rfl ?_
    have hL16 : ∀ (n5 : Nat) (x3 : Int) (μ4 : Mem), Sim cX2_first 3 RX2 (7) (some .int) wI 16 [(0, .inr (.inr 60)), (1, .inl p1), (2, .inl x3)] [] μ4 (fX2_first_L16 p1 n5 x3 μ4) := by
      intro n5
      induction n5 with
      | zero =>
        intro x3 μ4
        exact S_none rfl
      | succ n5 ih =>
        intro x3 μ4
        rw [fX2_first_L16]
        refine S_iload_n dX2_first_16 rfl ?_
        refine S_bipush dX2_first_17 rfl (by decide) ?_
        refine S_ic_ge (tgt := 41) dX2_first_19 (by decide) (fun h10 => ?_) (fun h10 => ?_)
        · refine S_bipush dX2_first_41 rfl (by decide) ?_
          exact S_iret dX2_first_43 rfl rfl
        · refine S_aload_n dX2_first_22 rfl ?_
          refine S_sipush dX2_first_23 rfl (by decide) ?_
          refine S_callV_M2 dX2_first_26 [.inl 3284] (K_X2_passes 3284 μ4) l_X2_177 yo_X2_passes rfl rfl rfl rfl rfl (fun x6 μ7 => ?_)
          refine S_iload_n dX2_first_29 rfl ?_
          refine S_ic_ne (tgt := 35) dX2_first_30 (by decide) (fun h9 => ?_) (fun h9 => ?_)
          · refine S_iinc (lv' := fun x8 => [(2, .inl x8), (0, .inr (.inr 60)), (1, .inl p1)]) dX2_first_35 rfl rfl rfl (fun _ => rfl) (fun x8 => ?_)
            refine S_goto (tgt := 16) dX2_first_38 (by decide) ?_
            exact S_sub [1, 2, 0] rfl (ih x8 μ7)
          · refine S_iload_n dX2_first_33 rfl ?_
            exact S_iret dX2_first_34 rfl rfl
    exact S_sub [1, 2, 0] rfl (hL16 fuel 1 μ2)
  · refine S_iconst dX2_first_8 rfl ?_
    exact S_iret dX2_first_9 rfl rfl
def fX2_hasBy_L22 (p3 : Int) : Nat → Int → Int → Mem → Option (Int × Mem)
  | 0, _, _, _ => none
  | n6 + 1, x3, x4, μ5 =>
    if p3 ≤ x4 then
      some (x3, μ5)
    else
      bnd2 (fX2_passes 3284 μ5) fun x7 μ8 =>
      mlet (w32 (x4 + 1)) fun x9 =>
      fX2_hasBy_L22 p3 n6 x7 x9 μ8
def fX2_hasBy (p1 : Int) (p2 : Int) (p3 : Int) (μ : Mem) : Option (Int × Mem) :=
  (fX2_layTried μ).bind fun μ1 =>
  grd (0 ≤ (w32 (3293 + p1)) ∧ (w32 (3293 + p1)) < 3305) <|
  mlet (wr μ1 61 ((w32 (3293 + p1))).toNat p2) fun μ2 =>
  fX2_hasBy_L22 p3 fuel (-9) 0 μ2
theorem K_X2_hasBy  (p1 : Int) (p2 : Int) (p3 : Int)  (μ : Mem) : Con yX2_hasBy cX2_hasBy 6 (some .int) 7 [.inr (.inr 60), .inl p1, .inl p2, .inl p3] μ (fX2_hasBy p1 p2 p3 μ) wI := by
  refine con_of (own := RX2) (by decide) rfl (Nat.le_of_ble_eq_true rfl) ?_
  show Sim cX2_hasBy 6 RX2 (7) (some .int) wI 0 [(0, .inr (.inr 60)), (1, .inl p1), (2, .inl p2), (3, .inl p3)] [] μ (fX2_hasBy p1 p2 p3 μ)
  unfold fX2_hasBy
  refine S_aload_n dX2_hasBy_0 rfl ?_
  refine S_callV_V dX2_hasBy_1 [] (K_X2_layTried μ) l_X2_196 yo_X2_layTried rfl rfl rfl rfl rfl (fun μ1 => ?_)
  refine S_aload_n dX2_hasBy_4 rfl ?_
  refine S_getR (c1 := 61) dX2_hasBy_5 rfl fl_X2_7 rfl rfl rfl ?_
  refine S_sipush dX2_hasBy_8 rfl (by decide) ?_
  refine S_iload_n dX2_hasBy_11 rfl ?_
  refine S_iadd dX2_hasBy_12 ?_
  refine S_iload_n dX2_hasBy_13 rfl ?_
  refine S_iast (N := 3305) dX2_hasBy_14 rfl (by decide) rfl (fun μ2 => ?_)
  refine S_bipush dX2_hasBy_15 rfl (by decide) ?_
  refine S_istore (lv' := [(4, .inl (-9)), (0, .inr (.inr 60)), (1, .inl p1), (2, .inl p2), (3, .inl p3)]) dX2_hasBy_17 rfl rfl ?_
  refine S_iconst dX2_hasBy_19 rfl ?_
  refine S_istore (lv' := [(5, .inl 0), (4, .inl (-9)), (0, .inr (.inr 60)), (1, .inl p1), (2, .inl p2), (3, .inl p3)]) dX2_hasBy_20 rfl rfl ?_
  have hL22 : ∀ (n6 : Nat) (x3 : Int) (x4 : Int) (μ5 : Mem), Sim cX2_hasBy 6 RX2 (7) (some .int) wI 22 [(0, .inr (.inr 60)), (3, .inl p3), (4, .inl x3), (5, .inl x4)] [] μ5 (fX2_hasBy_L22 p3 n6 x3 x4 μ5) := by
    intro n6
    induction n6 with
    | zero =>
      intro x3 x4 μ5
      exact S_none rfl
    | succ n6 ih =>
      intro x3 x4 μ5
      rw [fX2_hasBy_L22]
      refine S_iload dX2_hasBy_22 rfl ?_
      refine S_iload_n dX2_hasBy_24 rfl ?_
      refine S_ic_ge (tgt := 43) dX2_hasBy_25 (by decide) (fun h10 => ?_) (fun h10 => ?_)
      · refine S_iload dX2_hasBy_43 rfl ?_
        exact S_iret dX2_hasBy_45 rfl rfl
      · refine S_aload_n dX2_hasBy_28 rfl ?_
        refine S_sipush dX2_hasBy_29 rfl (by decide) ?_
        refine S_callV_M2 dX2_hasBy_32 [.inl 3284] (K_X2_passes 3284 μ5) l_X2_177 yo_X2_passes rfl rfl rfl rfl rfl (fun x7 μ8 => ?_)
        refine S_istore (lv' := [(4, .inl x7), (0, .inr (.inr 60)), (3, .inl p3), (5, .inl x4)]) dX2_hasBy_35 rfl rfl ?_
        refine S_iinc (lv' := fun x9 => [(5, .inl x9), (4, .inl x7), (0, .inr (.inr 60)), (3, .inl p3)]) dX2_hasBy_37 rfl rfl rfl (fun _ => rfl) (fun x9 => ?_)
        refine S_goto (tgt := 22) dX2_hasBy_40 (by decide) ?_
        exact S_sub [2, 3, 1, 0] rfl (ih x7 x9 μ8)
  exact S_sub [2, 5, 1, 0] rfl (hL22 fuel (-9) 0 μ2)
def fX2_lift_L24 (p1 : Int) (p2 : Int) : Nat → Int → Mem → Option (Int × Mem)
  | 0, _, _ => none
  | n5 + 1, x3, μ4 =>
    grd (0 ≤ (w32 (9 + p1)) ∧ (w32 (9 + p1)) < 3305) <|
    if 21 ≤ (w32 ((μ4 61 ((w32 (9 + p1))).toNat) + x3)) then
      some ((-9), μ4)
    else
      grd (0 ≤ (w32 (9 + p1)) ∧ (w32 (9 + p1)) < 3305) <|
      bnd2 (fX2_hasBy p1 (w32 ((μ4 61 ((w32 (9 + p1))).toNat) + x3)) p2 μ4) fun x6 μ7 =>
      if ¬ x6 = p1 then
        mlet (w32 (x3 + 1)) fun x8 =>
        fX2_lift_L24 p1 p2 n5 x8 μ7
      else
        some (x3, μ7)
def fX2_lift (p1 : Int) (p2 : Int) (μ : Mem) : Option (Int × Mem) :=
  (fX2_isOne p1 μ).bind fun x1 =>
  if x1 = 0 then
    some ((-1), μ)
  else
    (fX2_in p2 1 20 μ).bind fun x2 =>
    if ¬ x2 = 0 then
      fX2_lift_L24 p1 p2 fuel 0 μ
    else
      some ((-1), μ)
theorem K_X2_lift  (p1 : Int) (p2 : Int)  (μ : Mem) : Con yX2_lift cX2_lift 4 (some .int) 8 [.inr (.inr 60), .inl p1, .inl p2] μ (fX2_lift p1 p2 μ) wI := by
  refine con_of (own := RX2) (by decide) rfl (Nat.le_of_ble_eq_true rfl) ?_
  show Sim cX2_lift 4 RX2 (8) (some .int) wI 0 [(0, .inr (.inr 60)), (1, .inl p1), (2, .inl p2)] [] μ (fX2_lift p1 p2 μ)
  unfold fX2_lift
  refine S_aload_n dX2_lift_0 rfl ?_
  refine S_iload_n dX2_lift_1 rfl ?_
  refine S_callV_I dX2_lift_2 [.inl p1] (K_X2_isOne p1 μ) l_X2_162 yo_X2_isOne rfl rfl rfl rfl rfl (fun x1 => ?_)
  refine S_if_eq (tgt := 20) dX2_lift_5 (by decide) (fun h12 => ?_) (fun h12 => ?_)
  · refine S_iconst dX2_lift_20 rfl ?_
    exact S_iret dX2_lift_21 rfl rfl
  · refine S_iload_n dX2_lift_8 rfl ?_
    refine S_i2l dX2_lift_9 ?_
    refine S_lconst (n := 1) dX2_lift_10 (by decide) rfl ?_
    refine S_ldc2 dX2_lift_11 rfl k_X2_180 ?_
    refine S_callS_I dX2_lift_14 [.inr (.inl p2), .inr (.inl 1), .inr (.inl 20)] (K_X2_in p2 1 20 μ) l_X2_59 yo_X2_in rfl rfl rfl (fun x2 => ?_)
    refine S_if_ne (tgt := 22) dX2_lift_17 (by decide) (fun h11 => ?_) (fun h11 => ?_)
    · refine S_iconst dX2_lift_22 rfl ?_
      refine S_istore_n (lv' := [(3, .inl 0), (0, .inr (.inr 60)), (1, .inl p1), (2, .inl p2)]) dX2_lift_23 rfl rfl ?_
      have hL24 : ∀ (n5 : Nat) (x3 : Int) (μ4 : Mem), Sim cX2_lift 4 RX2 (8) (some .int) wI 24 [(0, .inr (.inr 60)), (1, .inl p1), (2, .inl p2), (3, .inl x3)] [] μ4 (fX2_lift_L24 p1 p2 n5 x3 μ4) := by
        intro n5
        induction n5 with
        | zero =>
          intro x3 μ4
          exact S_none rfl
        | succ n5 ih =>
          intro x3 μ4
          rw [fX2_lift_L24]
          refine S_aload_n dX2_lift_24 rfl ?_
          refine S_getR (c1 := 61) dX2_lift_25 rfl fl_X2_7 rfl rfl rfl ?_
          refine S_bipush dX2_lift_28 rfl (by decide) ?_
          refine S_iload_n dX2_lift_30 rfl ?_
          refine S_iadd dX2_lift_31 ?_
          refine S_iald (N := 3305) dX2_lift_32 rfl (by decide) rfl ?_
          refine S_iload_n dX2_lift_33 rfl ?_
          refine S_iadd dX2_lift_34 ?_
          refine S_bipush dX2_lift_35 rfl (by decide) ?_
          refine S_ic_ge (tgt := 69) dX2_lift_37 (by decide) (fun h10 => ?_) (fun h10 => ?_)
          · refine S_bipush dX2_lift_69 rfl (by decide) ?_
            exact S_iret dX2_lift_71 rfl rfl
          · refine S_aload_n dX2_lift_40 rfl ?_
            refine S_iload_n dX2_lift_41 rfl ?_
            refine S_aload_n dX2_lift_42 rfl ?_
            refine S_getR (c1 := 61) dX2_lift_43 rfl fl_X2_7 rfl rfl rfl ?_
            refine S_bipush dX2_lift_46 rfl (by decide) ?_
            refine S_iload_n dX2_lift_48 rfl ?_
            refine S_iadd dX2_lift_49 ?_
            refine S_iald (N := 3305) dX2_lift_50 rfl (by decide) rfl ?_
            refine S_iload_n dX2_lift_51 rfl ?_
            refine S_iadd dX2_lift_52 ?_
            refine S_iload_n dX2_lift_53 rfl ?_
            refine S_callV_M2 dX2_lift_54 [.inl p1, .inl (w32 ((μ4 61 ((w32 (9 + p1))).toNat) + x3)), .inl p2] (K_X2_hasBy p1 (w32 ((μ4 61 ((w32 (9 + p1))).toNat) + x3)) p2 μ4) l_X2_199 yo_X2_hasBy rfl rfl rfl rfl rfl (fun x6 μ7 => ?_)
            refine S_iload_n dX2_lift_57 rfl ?_
            refine S_ic_ne (tgt := 63) dX2_lift_58 (by decide) (fun h9 => ?_) (fun h9 => ?_)
            · refine S_iinc (lv' := fun x8 => [(3, .inl x8), (0, .inr (.inr 60)), (1, .inl p1), (2, .inl p2)]) dX2_lift_63 rfl rfl rfl (fun _ => rfl) (fun x8 => ?_)
              refine S_goto (tgt := 24) dX2_lift_66 (by decide) ?_
              exact S_sub [1, 2, 3, 0] rfl (ih x8 μ7)
            · refine S_iload_n dX2_lift_61 rfl ?_
              exact S_iret dX2_lift_62 rfl rfl
      exact S_sub [1, 2, 3, 0] rfl (hL24 fuel 0 μ)
    · refine S_iconst dX2_lift_20 rfl ?_
      exact S_iret dX2_lift_21 rfl rfl
def fX2_isAhead (p1 : Int) (p2 : Int) (p3 : Int) (p4 : Int) (μ : Mem) : Option Int :=
  grd (0 ≤ p3 ∧ p3 < 6) <|
  (fX2_farOf 0 p3 μ).bind fun x1 =>
  (fX2_daresBy (μ 62 (p3).toNat) p4 (μ 61 1) x1 μ).bind fun x2 =>
  (fX2_farOf 0 p1 μ).bind fun x3 =>
  (fX2_farOf 0 p3 μ).bind fun x4 =>
  mlet (fun (x5 : Int) =>
    mlet (
      some 1
      : Option Int) fun (K7 : Option Int) =>
    if x2 < p2 then
      K7
    else
      mlet (
        some 0
        : Option Int) fun (K8 : Option Int) =>
      if ¬ x2 = p2 then
        K8
      else
        if x5 = 0 then
          K8
        else
          K7
    ) fun (K6 : Int → Option Int) =>
  mlet (
    K6 1
    : Option Int) fun (K12 : Option Int) =>
  if x3 < x4 then
    K12
  else
    (fX2_farOf 0 p1 μ).bind fun x13 =>
    (fX2_farOf 0 p3 μ).bind fun x14 =>
    mlet (
      K6 0
      : Option Int) fun (K15 : Option Int) =>
    if ¬ x13 = x14 then
      K15
    else
      if p3 ≤ p1 then
        K15
      else
        K12
theorem K_X2_isAhead  (p1 : Int) (p2 : Int) (p3 : Int) (p4 : Int)  (μ : Mem) : Con yX2_isAhead cX2_isAhead 7 (some .boolean) 4 [.inr (.inr 60), .inl p1, .inl p2, .inl p3, .inl p4] μ (fX2_isAhead p1 p2 p3 p4 μ) (rI μ) := by
  refine con_of (own := RX2) (by decide) rfl (Nat.le_of_ble_eq_true rfl) ?_
  show Sim cX2_isAhead 7 RX2 (4) (some .boolean) (rI μ) 0 [(0, .inr (.inr 60)), (1, .inl p1), (2, .inl p2), (3, .inl p3), (4, .inl p4)] [] μ (fX2_isAhead p1 p2 p3 p4 μ)
  unfold fX2_isAhead
  refine S_aload_n dX2_isAhead_0 rfl ?_
  refine S_getR (c1 := 62) dX2_isAhead_1 rfl fl_X2_13 rfl rfl rfl ?_
  refine S_iload_n dX2_isAhead_4 rfl ?_
  refine S_iald (N := 6) dX2_isAhead_5 rfl (by decide) rfl ?_
  refine S_iload dX2_isAhead_6 rfl ?_
  refine S_aload_n dX2_isAhead_8 rfl ?_
  refine S_getR (c1 := 61) dX2_isAhead_9 rfl fl_X2_7 rfl rfl rfl ?_
  refine S_iconst dX2_isAhead_12 rfl ?_
  refine S_ialdK (k := 1) dX2_isAhead_13 rfl (by decide) (by decide) ?_
  refine S_aload_n dX2_isAhead_14 rfl ?_
  refine S_iconst dX2_isAhead_15 rfl ?_
  refine S_iload_n dX2_isAhead_16 rfl ?_
  refine S_callV_I dX2_isAhead_17 [.inl 0, .inl p3] (K_X2_farOf 0 p3 μ) l_X2_142 yo_X2_farOf rfl rfl rfl rfl rfl (fun x1 => ?_)
  refine S_callS_I dX2_isAhead_20 [.inl (μ 62 (p3).toNat), .inl p4, .inl (μ 61 1), .inl x1] (K_X2_daresBy (μ 62 (p3).toNat) p4 (μ 61 1) x1 μ) l_X2_145 yo_X2_daresBy rfl rfl rfl (fun x2 => ?_)
  refine S_istore (lv' := [(5, .inl x2), (0, .inr (.inr 60)), (1, .inl p1), (2, .inl p2), (3, .inl p3), (4, .inl p4)]) dX2_isAhead_23 rfl rfl ?_
  refine S_aload_n dX2_isAhead_25 rfl ?_
  refine S_iconst dX2_isAhead_26 rfl ?_
  refine S_iload_n dX2_isAhead_27 rfl ?_
  refine S_callV_I dX2_isAhead_28 [.inl 0, .inl p1] (K_X2_farOf 0 p1 μ) l_X2_142 yo_X2_farOf rfl rfl rfl rfl rfl (fun x3 => ?_)
  refine S_aload_n dX2_isAhead_31 rfl ?_
  refine S_iconst dX2_isAhead_32 rfl ?_
  refine S_iload_n dX2_isAhead_33 rfl ?_
  refine S_callV_I dX2_isAhead_34 [.inl 0, .inl p3] (K_X2_farOf 0 p3 μ) l_X2_142 yo_X2_farOf rfl rfl rfl rfl rfl (fun x4 => ?_)
  refine S_jn (fun (K6 : Int → Option Int) => ∀ (x5 : Int), Sim cX2_isAhead 7 RX2 (4) (some .boolean) (rI μ) 65 [(2, .inl p2), (5, .inl x2)] [.inl x5] μ (K6 x5)) ?_ (fun K6 hK6 => ?_)
  · intro x5
    refine S_istore (lv' := [(6, .inl x5), (2, .inl p2), (5, .inl x2)]) dX2_isAhead_65 rfl rfl ?_
    refine S_iload dX2_isAhead_67 rfl ?_
    refine S_iload_n dX2_isAhead_69 rfl ?_
    refine S_jn (fun (K7 : Option Int) => Sim cX2_isAhead 7 RX2 (4) (some .boolean) (rI μ) 84 [] [] μ K7) ?_ (fun K7 hK7 => ?_)
    · skip
      refine S_iconst dX2_isAhead_84 rfl ?_
      refine S_goto (tgt := 89) dX2_isAhead_85 (by decide) ?_
      exact S_zret dX2_isAhead_89 rfl (by decide) rfl
    refine S_ic_lt (tgt := 84) dX2_isAhead_70 (by decide) (fun h11 => ?_) (fun h11 => ?_)
    · exact S_sub [] rfl (hK7)
    · refine S_iload dX2_isAhead_73 rfl ?_
      refine S_iload_n dX2_isAhead_75 rfl ?_
      refine S_jn (fun (K8 : Option Int) => Sim cX2_isAhead 7 RX2 (4) (some .boolean) (rI μ) 88 [] [] μ K8) ?_ (fun K8 hK8 => ?_)
      · skip
        refine S_iconst dX2_isAhead_88 rfl ?_
        exact S_zret dX2_isAhead_89 rfl (by decide) rfl
      refine S_ic_ne (tgt := 88) dX2_isAhead_76 (by decide) (fun h10 => ?_) (fun h10 => ?_)
      · exact S_sub [] rfl (hK8)
      · refine S_iload dX2_isAhead_79 rfl ?_
        refine S_if_eq (tgt := 88) dX2_isAhead_81 (by decide) (fun h9 => ?_) (fun h9 => ?_)
        · exact S_sub [] rfl (hK8)
        · exact S_sub [] rfl (hK7)
  refine S_jn (fun (K12 : Option Int) => Sim cX2_isAhead 7 RX2 (4) (some .boolean) (rI μ) 60 [(2, .inl p2), (5, .inl x2)] [] μ K12) ?_ (fun K12 hK12 => ?_)
  · skip
    refine S_iconst dX2_isAhead_60 rfl ?_
    refine S_goto (tgt := 65) dX2_isAhead_61 (by decide) ?_
    exact S_sub [0, 1] rfl (hK6 1)
  refine S_ic_lt (tgt := 60) dX2_isAhead_37 (by decide) (fun h18 => ?_) (fun h18 => ?_)
  · exact S_sub [3, 0] rfl (hK12)
  · refine S_aload_n dX2_isAhead_40 rfl ?_
    refine S_iconst dX2_isAhead_41 rfl ?_
    refine S_iload_n dX2_isAhead_42 rfl ?_
    refine S_callV_I dX2_isAhead_43 [.inl 0, .inl p1] (K_X2_farOf 0 p1 μ) l_X2_142 yo_X2_farOf rfl rfl rfl rfl rfl (fun x13 => ?_)
    refine S_aload_n dX2_isAhead_46 rfl ?_
    refine S_iconst dX2_isAhead_47 rfl ?_
    refine S_iload_n dX2_isAhead_48 rfl ?_
    refine S_callV_I dX2_isAhead_49 [.inl 0, .inl p3] (K_X2_farOf 0 p3 μ) l_X2_142 yo_X2_farOf rfl rfl rfl rfl rfl (fun x14 => ?_)
    refine S_jn (fun (K15 : Option Int) => Sim cX2_isAhead 7 RX2 (4) (some .boolean) (rI μ) 64 [(2, .inl p2), (5, .inl x2)] [] μ K15) ?_ (fun K15 hK15 => ?_)
    · skip
      refine S_iconst dX2_isAhead_64 rfl ?_
      exact S_sub [0, 1] rfl (hK6 0)
    refine S_ic_ne (tgt := 64) dX2_isAhead_52 (by decide) (fun h17 => ?_) (fun h17 => ?_)
    · exact S_sub [3, 0] rfl (hK15)
    · refine S_iload_n dX2_isAhead_55 rfl ?_
      refine S_iload_n dX2_isAhead_56 rfl ?_
      refine S_ic_ge (tgt := 64) dX2_isAhead_57 (by decide) (fun h16 => ?_) (fun h16 => ?_)
      · exact S_sub [3, 0] rfl (hK15)
      · exact S_sub [3, 0] rfl (hK12)
def fX2_shamed_L3 (p3 : Int) (μ : Mem) (p1 : Int) (p2 : Int) : Nat → Int → Option Int
  | 0, _ => none
  | n2 + 1, x1 =>
    grd (0 ≤ (w32 (9 + p3)) ∧ (w32 (9 + p3)) < 3305) <|
    if (μ 61 ((w32 (9 + p3))).toNat) < x1 then
      some (-9)
    else
      grd (0 ≤ (w32 (9 + p3)) ∧ (w32 (9 + p3)) < 3305) <|
      (fX2_isAhead p1 p2 p3 (w32 ((μ 61 ((w32 (9 + p3))).toNat) - x1)) μ).bind fun x3 =>
      if x3 = 0 then
        mlet (w32 (x1 + 1)) fun x4 =>
        fX2_shamed_L3 p3 μ p1 p2 n2 x4
      else
        some x1
def fX2_shamed (p1 : Int) (p2 : Int) (p3 : Int) (μ : Mem) : Option Int :=
  fX2_shamed_L3 p3 μ p1 p2 fuel 0
theorem K_X2_shamed  (p1 : Int) (p2 : Int) (p3 : Int)  (μ : Mem) : Con yX2_shamed cX2_shamed 5 (some .int) 5 [.inr (.inr 60), .inl p1, .inl p2, .inl p3] μ (fX2_shamed p1 p2 p3 μ) (rI μ) := by
  refine con_of (own := RX2) (by decide) rfl (Nat.le_of_ble_eq_true rfl) ?_
  show Sim cX2_shamed 5 RX2 (5) (some .int) (rI μ) 0 [(0, .inr (.inr 60)), (1, .inl p1), (2, .inl p2), (3, .inl p3)] [] μ (fX2_shamed p1 p2 p3 μ)
  unfold fX2_shamed
  refine S_iconst dX2_shamed_0 rfl ?_
  refine S_istore (lv' := [(4, .inl 0), (0, .inr (.inr 60)), (1, .inl p1), (2, .inl p2), (3, .inl p3)]) dX2_shamed_1 rfl rfl ?_
  have hL3 : ∀ (n2 : Nat) (x1 : Int), Sim cX2_shamed 5 RX2 (5) (some .int) (rI μ) 3 [(0, .inr (.inr 60)), (1, .inl p1), (2, .inl p2), (3, .inl p3), (4, .inl x1)] [] μ (fX2_shamed_L3 p3 μ p1 p2 n2 x1) := by
    intro n2
    induction n2 with
    | zero =>
      intro x1
      exact S_none rfl
    | succ n2 ih =>
      intro x1
      rw [fX2_shamed_L3]
      refine S_iload dX2_shamed_3 rfl ?_
      refine S_aload_n dX2_shamed_5 rfl ?_
      refine S_getR (c1 := 61) dX2_shamed_6 rfl fl_X2_7 rfl rfl rfl ?_
      refine S_bipush dX2_shamed_9 rfl (by decide) ?_
      refine S_iload_n dX2_shamed_11 rfl ?_
      refine S_iadd dX2_shamed_12 ?_
      refine S_iald (N := 3305) dX2_shamed_13 rfl (by decide) rfl ?_
      refine S_ic_gt (tgt := 48) dX2_shamed_14 (by decide) (fun h6 => ?_) (fun h6 => ?_)
      · refine S_bipush dX2_shamed_48 rfl (by decide) ?_
        exact S_iret dX2_shamed_50 rfl rfl
      · refine S_aload_n dX2_shamed_17 rfl ?_
        refine S_iload_n dX2_shamed_18 rfl ?_
        refine S_iload_n dX2_shamed_19 rfl ?_
        refine S_iload_n dX2_shamed_20 rfl ?_
        refine S_aload_n dX2_shamed_21 rfl ?_
        refine S_getR (c1 := 61) dX2_shamed_22 rfl fl_X2_7 rfl rfl rfl ?_
        refine S_bipush dX2_shamed_25 rfl (by decide) ?_
        refine S_iload_n dX2_shamed_27 rfl ?_
        refine S_iadd dX2_shamed_28 ?_
        refine S_iald (N := 3305) dX2_shamed_29 rfl (by decide) rfl ?_
        refine S_iload dX2_shamed_30 rfl ?_
        refine S_isub dX2_shamed_32 ?_
        refine S_callV_I dX2_shamed_33 [.inl p1, .inl p2, .inl p3, .inl (w32 ((μ 61 ((w32 (9 + p3))).toNat) - x1))] (K_X2_isAhead p1 p2 p3 (w32 ((μ 61 ((w32 (9 + p3))).toNat) - x1)) μ) l_X2_203 yo_X2_isAhead rfl rfl rfl rfl rfl (fun x3 => ?_)
        refine S_if_eq (tgt := 42) dX2_shamed_36 (by decide) (fun h5 => ?_) (fun h5 => ?_)
        · refine S_iinc (lv' := fun x4 => [(4, .inl x4), (0, .inr (.inr 60)), (1, .inl p1), (2, .inl p2), (3, .inl p3)]) dX2_shamed_42 rfl rfl rfl (fun _ => rfl) (fun x4 => ?_)
          refine S_goto (tgt := 3) dX2_shamed_45 (by decide) ?_
          exact S_sub [1, 2, 3, 4, 0] rfl (ih x4)
        · refine S_iload dX2_shamed_39 rfl ?_
          exact S_iret dX2_shamed_41 rfl rfl
  exact S_sub [1, 2, 3, 4, 0] rfl (hL3 fuel 0)
def fX2_together_L39 (K5 : Int → Mem → Option (Int × Mem)) (p1 : Int) (x2 : Int) (p2 : Int) : Nat → Int → Int → Mem → Option (Int × Mem)
  | 0, _, _, _ => none
  | n10 + 1, x7, x8, μ9 =>
    if (μ9 60 1) ≤ x8 then
      K5 x7 μ9
    else
      mlet (fun (x11 : Int) =>
        grd (0 ≤ x8 ∧ x8 < 6) <|
        mlet (wr μ9 69 (x8).toNat x11) fun μ13 =>
        grd (0 ≤ x8 ∧ x8 < 6) <|
        mlet (fun (x14 : Int) =>
          mlet ((w32 (x7 + x14))) fun x16 =>
          mlet (w32 (x8 + 1)) fun x17 =>
          fX2_together_L39 K5 p1 x2 p2 n10 x16 x17 μ13
          ) fun (K15 : Int → Option (Int × Mem)) =>
        if ¬ (μ13 69 (x8).toNat) = (-9) then
          if ¬ x8 = p1 then
            grd (0 ≤ x8 ∧ x8 < 6) <|
            K15 (μ13 69 (x8).toNat)
          else
            K15 0
        else
          K15 99999
        ) fun (K12 : Int → Option (Int × Mem)) =>
      if ¬ x8 = p1 then
        (fX2_shamed p1 x2 x8 μ9).bind fun x20 =>
        K12 x20
      else
        K12 p2
def fX2_together (p1 : Int) (p2 : Int) (μ : Mem) : Option (Int × Mem) :=
  grd (0 ≤ p1 ∧ p1 < 6) <|
  grd (0 ≤ (w32 (9 + p1)) ∧ (w32 (9 + p1)) < 3305) <|
  (fX2_farOf 0 p1 μ).bind fun x1 =>
  (fX2_daresBy (μ 62 (p1).toNat) (w32 ((μ 61 ((w32 (9 + p1))).toNat) + p2)) (μ 61 1) x1 μ).bind fun x2 =>
  mlet (fun (x3 : Int) (μ4 : Mem) =>
    if x2 ≤ 0 then
      some (99999, μ4)
    else
      some (x3, μ4)
    ) fun (K5 : Int → Mem → Option (Int × Mem)) =>
  fX2_together_L39 K5 p1 x2 p2 fuel p2 0 μ
theorem K_X2_together  (p1 : Int) (p2 : Int)  (μ : Mem) : Con yX2_together cX2_together 6 (some .int) 6 [.inr (.inr 60), .inl p1, .inl p2] μ (fX2_together p1 p2 μ) wI := by
  refine con_of (own := RX2) (by decide) rfl (Nat.le_of_ble_eq_true rfl) ?_
  show Sim cX2_together 6 RX2 (6) (some .int) wI 0 [(0, .inr (.inr 60)), (1, .inl p1), (2, .inl p2)] [] μ (fX2_together p1 p2 μ)
  unfold fX2_together
  refine S_aload_n dX2_together_0 rfl ?_
  refine S_getR (c1 := 62) dX2_together_1 rfl fl_X2_13 rfl rfl rfl ?_
  refine S_iload_n dX2_together_4 rfl ?_
  refine S_iald (N := 6) dX2_together_5 rfl (by decide) rfl ?_
  refine S_aload_n dX2_together_6 rfl ?_
  refine S_getR (c1 := 61) dX2_together_7 rfl fl_X2_7 rfl rfl rfl ?_
  refine S_bipush dX2_together_10 rfl (by decide) ?_
  refine S_iload_n dX2_together_12 rfl ?_
  refine S_iadd dX2_together_13 ?_
  refine S_iald (N := 3305) dX2_together_14 rfl (by decide) rfl ?_
  refine S_iload_n dX2_together_15 rfl ?_
  refine S_iadd dX2_together_16 ?_
  refine S_aload_n dX2_together_17 rfl ?_
  refine S_getR (c1 := 61) dX2_together_18 rfl fl_X2_7 rfl rfl rfl ?_
  refine S_iconst dX2_together_21 rfl ?_
  refine S_ialdK (k := 1) dX2_together_22 rfl (by decide) (by decide) ?_
  refine S_aload_n dX2_together_23 rfl ?_
  refine S_iconst dX2_together_24 rfl ?_
  refine S_iload_n dX2_together_25 rfl ?_
  refine S_callV_I dX2_together_26 [.inl 0, .inl p1] (K_X2_farOf 0 p1 μ) l_X2_142 yo_X2_farOf rfl rfl rfl rfl rfl (fun x1 => ?_)
  refine S_callS_I dX2_together_29 [.inl (μ 62 (p1).toNat), .inl (w32 ((μ 61 ((w32 (9 + p1))).toNat) + p2)), .inl (μ 61 1), .inl x1] (K_X2_daresBy (μ 62 (p1).toNat) (w32 ((μ 61 ((w32 (9 + p1))).toNat) + p2)) (μ 61 1) x1 μ) l_X2_145 yo_X2_daresBy rfl rfl rfl (fun x2 => ?_)
  refine S_istore_n (lv' := [(3, .inl x2), (0, .inr (.inr 60)), (1, .inl p1), (2, .inl p2)]) dX2_together_32 rfl rfl ?_
  refine S_iload_n dX2_together_33 rfl ?_
  refine S_istore (lv' := [(4, .inl p2), (3, .inl x2), (0, .inr (.inr 60)), (1, .inl p1), (2, .inl p2)]) dX2_together_34 rfl rfl ?_
  refine S_iconst dX2_together_36 rfl ?_
  refine S_istore (lv' := [(5, .inl 0), (4, .inl p2), (3, .inl x2), (0, .inr (.inr 60)), (1, .inl p1), (2, .inl p2)]) dX2_together_37 rfl rfl ?_
  refine S_jn (fun (K5 : Int → Mem → Option (Int × Mem)) => ∀ (x3 : Int) (μ4 : Mem), Sim cX2_together 6 RX2 (6) (some .int) wI 118 [(3, .inl x2), (4, .inl x3)] [] μ4 (K5 x3 μ4)) ?_ (fun K5 hK5 => ?_)
  · intro x3 μ4
    refine S_iload_n dX2_together_118 rfl ?_
    refine S_if_le (tgt := 127) dX2_together_119 (by decide) (fun h6 => ?_) (fun h6 => ?_)
    · refine S_ldc dX2_together_127 rfl k_X2_210 ?_
      exact S_iret dX2_together_129 rfl rfl
    · refine S_iload dX2_together_122 rfl ?_
      refine S_goto (tgt := 129) dX2_together_124 (by decide) ?_
      exact S_iret dX2_together_129 rfl rfl
  have hL39 : ∀ (n10 : Nat) (x7 : Int) (x8 : Int) (μ9 : Mem), Sim cX2_together 6 RX2 (6) (some .int) wI 39 [(0, .inr (.inr 60)), (1, .inl p1), (2, .inl p2), (3, .inl x2), (4, .inl x7), (5, .inl x8)] [] μ9 (fX2_together_L39 K5 p1 x2 p2 n10 x7 x8 μ9) := by
    intro n10
    induction n10 with
    | zero =>
      intro x7 x8 μ9
      exact S_none rfl
    | succ n10 ih =>
      intro x7 x8 μ9
      rw [fX2_together_L39]
      refine S_iload dX2_together_39 rfl ?_
      refine S_aload_n dX2_together_41 rfl ?_
      refine S_getI dX2_together_42 rfl fl_X2_136 rfl rfl ?_
      refine S_ic_ge (tgt := 118) dX2_together_45 (by decide) (fun h22 => ?_) (fun h22 => ?_)
      · exact S_sub [3, 4] rfl (hK5 x7 μ9)
      · refine S_aload_n dX2_together_48 rfl ?_
        refine S_getR (c1 := 69) dX2_together_49 rfl fl_X2_38 rfl rfl rfl ?_
        refine S_iload dX2_together_52 rfl ?_
        refine S_iload dX2_together_54 rfl ?_
        refine S_iload_n dX2_together_56 rfl ?_
        refine S_jn (fun (K12 : Int → Option (Int × Mem)) => ∀ (x11 : Int), Sim cX2_together 6 RX2 (6) (some .int) wI 72 [(0, .inr (.inr 60)), (1, .inl p1), (2, .inl p2), (3, .inl x2), (4, .inl x7), (5, .inl x8)] [.inl x11, .inl x8, .inr (.inr 69)] μ9 (K12 x11)) ?_ (fun K12 hK12 => ?_)
        · intro x11
          refine S_iast (N := 6) dX2_together_72 rfl (by decide) rfl (fun μ13 => ?_)
          refine S_iload dX2_together_73 rfl ?_
          refine S_aload_n dX2_together_75 rfl ?_
          refine S_getR (c1 := 69) dX2_together_76 rfl fl_X2_38 rfl rfl rfl ?_
          refine S_iload dX2_together_79 rfl ?_
          refine S_iald (N := 6) dX2_together_81 rfl (by decide) rfl ?_
          refine S_bipush dX2_together_82 rfl (by decide) ?_
          refine S_jn (fun (K15 : Int → Option (Int × Mem)) => ∀ (x14 : Int), Sim cX2_together 6 RX2 (6) (some .int) wI 109 [(0, .inr (.inr 60)), (1, .inl p1), (2, .inl p2), (3, .inl x2), (5, .inl x8)] [.inl x14, .inl x7] μ13 (K15 x14)) ?_ (fun K15 hK15 => ?_)
          · intro x14
            refine S_iadd dX2_together_109 ?_
            refine S_let (fun x16 => ?_)
            refine S_istore (lv' := [(4, .inl x16), (0, .inr (.inr 60)), (1, .inl p1), (2, .inl p2), (3, .inl x2), (5, .inl x8)]) dX2_together_110 rfl rfl ?_
            refine S_iinc (lv' := fun x17 => [(5, .inl x17), (4, .inl x16), (0, .inr (.inr 60)), (1, .inl p1), (2, .inl p2), (3, .inl x2)]) dX2_together_112 rfl rfl rfl (fun _ => rfl) (fun x17 => ?_)
            refine S_goto (tgt := 39) dX2_together_115 (by decide) ?_
            exact S_sub [2, 3, 4, 5, 1, 0] rfl (ih x16 x17 μ13)
          refine S_ic_ne (tgt := 92) dX2_together_84 (by decide) (fun h19 => ?_) (fun h19 => ?_)
          · refine S_iload dX2_together_92 rfl ?_
            refine S_iload_n dX2_together_94 rfl ?_
            refine S_ic_ne (tgt := 102) dX2_together_95 (by decide) (fun h18 => ?_) (fun h18 => ?_)
            · refine S_aload_n dX2_together_102 rfl ?_
              refine S_getR (c1 := 69) dX2_together_103 rfl fl_X2_38 rfl rfl rfl ?_
              refine S_iload dX2_together_106 rfl ?_
              refine S_iald (N := 6) dX2_together_108 rfl (by decide) rfl ?_
              exact S_sub [0, 1, 2, 3, 5] rfl (hK15 (μ13 69 (x8).toNat))
            · refine S_iconst dX2_together_98 rfl ?_
              refine S_goto (tgt := 109) dX2_together_99 (by decide) ?_
              exact S_sub [0, 1, 2, 3, 5] rfl (hK15 0)
          · refine S_ldc dX2_together_87 rfl k_X2_210 ?_
            refine S_goto (tgt := 109) dX2_together_89 (by decide) ?_
            exact S_sub [0, 1, 2, 3, 5] rfl (hK15 99999)
        refine S_ic_ne (tgt := 64) dX2_together_57 (by decide) (fun h21 => ?_) (fun h21 => ?_)
        · refine S_aload_n dX2_together_64 rfl ?_
          refine S_iload_n dX2_together_65 rfl ?_
          refine S_iload_n dX2_together_66 rfl ?_
          refine S_iload dX2_together_67 rfl ?_
          refine S_callV_I dX2_together_69 [.inl p1, .inl x2, .inl x8] (K_X2_shamed p1 x2 x8 μ9) l_X2_207 yo_X2_shamed rfl rfl rfl rfl rfl (fun x20 => ?_)
          exact S_sub [0, 1, 2, 3, 4, 5] rfl (hK12 x20)
        · refine S_iload_n dX2_together_60 rfl ?_
          refine S_goto (tgt := 72) dX2_together_61 (by decide) ?_
          exact S_sub [0, 1, 2, 3, 4, 5] rfl (hK12 p2)
  exact S_sub [3, 4, 5, 2, 1, 0] rfl (hL39 fuel p2 0 μ)
def fX2_cheap_L117 (x3 : Int) (p2 : Int) : Nat → Int → Mem → Option (Int × Mem)
  | 0, _, _ => none
  | n9 + 1, x7, μ8 =>
    if (μ8 60 1) ≤ x7 then
      some (x3, μ8)
    else
      grd (0 ≤ x7 ∧ x7 < 6) <|
      grd (0 ≤ (w32 ((w32 (40 * p2)) + x7)) ∧ (w32 ((w32 (40 * p2)) + x7)) < 240) <|
      mlet (wr μ8 64 ((w32 ((w32 (40 * p2)) + x7))).toNat (μ8 70 (x7).toNat)) fun μ10 =>
      mlet (w32 (x7 + 1)) fun x11 =>
      fX2_cheap_L117 x3 p2 n9 x11 μ10
def fX2_cheap_L61 (K22 : Int → Mem → Option (Int × Mem)) (x18 : Int) : Nat → Int → Mem → Option (Int × Mem)
  | 0, _, _ => none
  | n26 + 1, x24, μ25 =>
    if (μ25 60 1) ≤ x24 then
      K22 x18 μ25
    else
      grd (0 ≤ x24 ∧ x24 < 6) <|
      grd (0 ≤ x24 ∧ x24 < 6) <|
      mlet (wr μ25 70 (x24).toNat (μ25 69 (x24).toNat)) fun μ27 =>
      mlet (w32 (x24 + 1)) fun x28 =>
      fX2_cheap_L61 K22 x18 n26 x28 μ27
def fX2_cheap_L23 (p1 : Int) (K5 : Int → Mem → Option (Int × Mem)) : Nat → Int → Int → Mem → Option (Int × Mem)
  | 0, _, _, _ => none
  | n17 + 1, x14, x15, μ16 =>
    grd (0 ≤ (w32 (9 + p1)) ∧ (w32 (9 + p1)) < 3305) <|
    if 21 ≤ (w32 ((μ16 61 ((w32 (9 + p1))).toNat) + x15)) then
      K5 x14 μ16
    else
      bnd2 (fX2_together p1 x15 μ16) fun x18 μ19 =>
      mlet (fun (x20 : Int) (μ21 : Mem) =>
        mlet (w32 (x15 + 1)) fun x23 =>
        fX2_cheap_L23 p1 K5 n17 x20 x23 μ21
        ) fun (K22 : Int → Mem → Option (Int × Mem)) =>
      if x14 ≤ x18 then
        K22 x14 μ19
      else
        fX2_cheap_L61 K22 x18 fuel 0 μ19
def fX2_cheap (p1 : Int) (p2 : Int) (μ : Mem) : Option (Int × Mem) :=
  (fX2_isOne p1 μ).bind fun x1 =>
  if x1 = 0 then
    some ((-1), μ)
  else
    (fX2_isRow p2 μ).bind fun x2 =>
    if ¬ x2 = 0 then
      mlet (fun (x3 : Int) (μ4 : Mem) =>
        if ¬ x3 = 99999 then
          (fX2_makeRow p2 (μ4 60 1) μ4).bind fun μ6 =>
          fX2_cheap_L117 x3 p2 fuel 0 μ6
        else
          some ((-9), μ4)
        ) fun (K5 : Int → Mem → Option (Int × Mem)) =>
      fX2_cheap_L23 p1 K5 fuel 99999 0 μ
    else
      some ((-1), μ)
theorem K_X2_cheap  (p1 : Int) (p2 : Int)  (μ : Mem) : Con yX2_cheap cX2_cheap 7 (some .int) 7 [.inr (.inr 60), .inl p1, .inl p2] μ (fX2_cheap p1 p2 μ) wI := by
  refine con_of (own := RX2) (by decide) rfl (Nat.le_of_ble_eq_true rfl) ?_
  show Sim cX2_cheap 7 RX2 (7) (some .int) wI 0 [(0, .inr (.inr 60)), (1, .inl p1), (2, .inl p2)] [] μ (fX2_cheap p1 p2 μ)
  unfold fX2_cheap
  refine S_aload_n dX2_cheap_0 rfl ?_
  refine S_iload_n dX2_cheap_1 rfl ?_
  refine S_callV_I dX2_cheap_2 [.inl p1] (K_X2_isOne p1 μ) l_X2_162 yo_X2_isOne rfl rfl rfl rfl rfl (fun x1 => ?_)
  refine S_if_eq (tgt := 15) dX2_cheap_5 (by decide) (fun h33 => ?_) (fun h33 => ?_)
  · refine S_iconst dX2_cheap_15 rfl ?_
    exact S_iret dX2_cheap_16 rfl rfl
  · refine S_iload_n dX2_cheap_8 rfl ?_
    refine S_callS_I dX2_cheap_9 [.inl p2] (K_X2_isRow p2 μ) l_X2_65 yo_X2_isRow rfl rfl rfl (fun x2 => ?_)
    refine S_if_ne (tgt := 17) dX2_cheap_12 (by decide) (fun h32 => ?_) (fun h32 => ?_)
    · refine S_ldc dX2_cheap_17 rfl k_X2_210 ?_
      refine S_istore_n (lv' := [(3, .inl 99999), (0, .inr (.inr 60)), (1, .inl p1), (2, .inl p2)]) dX2_cheap_19 rfl rfl ?_
      refine S_iconst dX2_cheap_20 rfl ?_
      refine S_istore (lv' := [(4, .inl 0), (3, .inl 99999), (0, .inr (.inr 60)), (1, .inl p1), (2, .inl p2)]) dX2_cheap_21 rfl rfl ?_
      refine S_jn (fun (K5 : Int → Mem → Option (Int × Mem)) => ∀ (x3 : Int) (μ4 : Mem), Sim cX2_cheap 7 RX2 (7) (some .int) wI 96 [(0, .inr (.inr 60)), (2, .inl p2), (3, .inl x3)] [] μ4 (K5 x3 μ4)) ?_ (fun K5 hK5 => ?_)
      · intro x3 μ4
        refine S_iload_n dX2_cheap_96 rfl ?_
        refine S_ldc dX2_cheap_97 rfl k_X2_210 ?_
        refine S_ic_ne (tgt := 105) dX2_cheap_99 (by decide) (fun h13 => ?_) (fun h13 => ?_)
        · refine S_aload_n dX2_cheap_105 rfl ?_
          refine S_iload_n dX2_cheap_106 rfl ?_
          refine S_aload_n dX2_cheap_107 rfl ?_
          refine S_getI dX2_cheap_108 rfl fl_X2_136 rfl rfl ?_
          refine S_callV_V dX2_cheap_111 [.inl p2, .inl (μ4 60 1)] (K_X2_makeRow p2 (μ4 60 1) μ4) l_X2_73 yo_X2_makeRow rfl rfl rfl rfl rfl (fun μ6 => ?_)
          refine S_iconst dX2_cheap_114 rfl ?_
          refine S_istore (lv' := [(4, .inl 0), (0, .inr (.inr 60)), (2, .inl p2), (3, .inl x3)]) dX2_cheap_115 rfl rfl ?_
          have hL117 : ∀ (n9 : Nat) (x7 : Int) (μ8 : Mem), Sim cX2_cheap 7 RX2 (7) (some .int) wI 117 [(0, .inr (.inr 60)), (2, .inl p2), (3, .inl x3), (4, .inl x7)] [] μ8 (fX2_cheap_L117 x3 p2 n9 x7 μ8) := by
            intro n9
            induction n9 with
            | zero =>
              intro x7 μ8
              exact S_none rfl
            | succ n9 ih =>
              intro x7 μ8
              rw [fX2_cheap_L117]
              refine S_iload dX2_cheap_117 rfl ?_
              refine S_aload_n dX2_cheap_119 rfl ?_
              refine S_getI dX2_cheap_120 rfl fl_X2_136 rfl rfl ?_
              refine S_ic_ge (tgt := 151) dX2_cheap_123 (by decide) (fun h12 => ?_) (fun h12 => ?_)
              · refine S_iload_n dX2_cheap_151 rfl ?_
                exact S_iret dX2_cheap_152 rfl rfl
              · refine S_aload_n dX2_cheap_126 rfl ?_
                refine S_getR (c1 := 64) dX2_cheap_127 rfl fl_X2_19 rfl rfl rfl ?_
                refine S_bipush dX2_cheap_130 rfl (by decide) ?_
                refine S_iload_n dX2_cheap_132 rfl ?_
                refine S_imul dX2_cheap_133 ?_
                refine S_iload dX2_cheap_134 rfl ?_
                refine S_iadd dX2_cheap_136 ?_
                refine S_aload_n dX2_cheap_137 rfl ?_
                refine S_getR (c1 := 70) dX2_cheap_138 rfl fl_X2_41 rfl rfl rfl ?_
                refine S_iload dX2_cheap_141 rfl ?_
                refine S_iald (N := 6) dX2_cheap_143 rfl (by decide) rfl ?_
                refine S_iast (N := 240) dX2_cheap_144 rfl (by decide) rfl (fun μ10 => ?_)
                refine S_iinc (lv' := fun x11 => [(4, .inl x11), (0, .inr (.inr 60)), (2, .inl p2), (3, .inl x3)]) dX2_cheap_145 rfl rfl rfl (fun _ => rfl) (fun x11 => ?_)
                refine S_goto (tgt := 117) dX2_cheap_148 (by decide) ?_
                exact S_sub [1, 2, 3, 0] rfl (ih x11 μ10)
          exact S_sub [1, 2, 3, 0] rfl (hL117 fuel 0 μ6)
        · refine S_bipush dX2_cheap_102 rfl (by decide) ?_
          exact S_iret dX2_cheap_104 rfl rfl
      have hL23 : ∀ (n17 : Nat) (x14 : Int) (x15 : Int) (μ16 : Mem), Sim cX2_cheap 7 RX2 (7) (some .int) wI 23 [(0, .inr (.inr 60)), (1, .inl p1), (2, .inl p2), (3, .inl x14), (4, .inl x15)] [] μ16 (fX2_cheap_L23 p1 K5 n17 x14 x15 μ16) := by
        intro n17
        induction n17 with
        | zero =>
          intro x14 x15 μ16
          exact S_none rfl
        | succ n17 ih =>
          intro x14 x15 μ16
          rw [fX2_cheap_L23]
          refine S_aload_n dX2_cheap_23 rfl ?_
          refine S_getR (c1 := 61) dX2_cheap_24 rfl fl_X2_7 rfl rfl rfl ?_
          refine S_bipush dX2_cheap_27 rfl (by decide) ?_
          refine S_iload_n dX2_cheap_29 rfl ?_
          refine S_iadd dX2_cheap_30 ?_
          refine S_iald (N := 3305) dX2_cheap_31 rfl (by decide) rfl ?_
          refine S_iload dX2_cheap_32 rfl ?_
          refine S_iadd dX2_cheap_34 ?_
          refine S_bipush dX2_cheap_35 rfl (by decide) ?_
          refine S_ic_ge (tgt := 96) dX2_cheap_37 (by decide) (fun h31 => ?_) (fun h31 => ?_)
          · exact S_sub [0, 2, 3] rfl (hK5 x14 μ16)
          · refine S_aload_n dX2_cheap_40 rfl ?_
            refine S_iload_n dX2_cheap_41 rfl ?_
            refine S_iload dX2_cheap_42 rfl ?_
            refine S_callV_M2 dX2_cheap_44 [.inl p1, .inl x15] (K_X2_together p1 x15 μ16) l_X2_211 yo_X2_together rfl rfl rfl rfl rfl (fun x18 μ19 => ?_)
            refine S_istore (lv' := [(5, .inl x18), (0, .inr (.inr 60)), (1, .inl p1), (2, .inl p2), (3, .inl x14), (4, .inl x15)]) dX2_cheap_47 rfl rfl ?_
            refine S_iload dX2_cheap_49 rfl ?_
            refine S_iload_n dX2_cheap_51 rfl ?_
            refine S_jn (fun (K22 : Int → Mem → Option (Int × Mem)) => ∀ (x20 : Int) (μ21 : Mem), Sim cX2_cheap 7 RX2 (7) (some .int) wI 90 [(0, .inr (.inr 60)), (1, .inl p1), (2, .inl p2), (3, .inl x20), (4, .inl x15)] [] μ21 (K22 x20 μ21)) ?_ (fun K22 hK22 => ?_)
            · intro x20 μ21
              refine S_iinc (lv' := fun x23 => [(4, .inl x23), (0, .inr (.inr 60)), (1, .inl p1), (2, .inl p2), (3, .inl x20)]) dX2_cheap_90 rfl rfl rfl (fun _ => rfl) (fun x23 => ?_)
              refine S_goto (tgt := 23) dX2_cheap_93 (by decide) ?_
              exact S_sub [1, 2, 3, 4, 0] rfl (ih x20 x23 μ21)
            refine S_ic_ge (tgt := 90) dX2_cheap_52 (by decide) (fun h30 => ?_) (fun h30 => ?_)
            · exact S_sub [1, 2, 3, 4, 5] rfl (hK22 x14 μ19)
            · refine S_iload dX2_cheap_55 rfl ?_
              refine S_istore_n (lv' := [(3, .inl x18), (5, .inl x18), (0, .inr (.inr 60)), (1, .inl p1), (2, .inl p2), (4, .inl x15)]) dX2_cheap_57 rfl rfl ?_
              refine S_iconst dX2_cheap_58 rfl ?_
              refine S_istore (lv' := [(6, .inl 0), (3, .inl x18), (5, .inl x18), (0, .inr (.inr 60)), (1, .inl p1), (2, .inl p2), (4, .inl x15)]) dX2_cheap_59 rfl rfl ?_
              have hL61 : ∀ (n26 : Nat) (x24 : Int) (μ25 : Mem), Sim cX2_cheap 7 RX2 (7) (some .int) wI 61 [(0, .inr (.inr 60)), (1, .inl p1), (2, .inl p2), (3, .inl x18), (4, .inl x15), (6, .inl x24)] [] μ25 (fX2_cheap_L61 K22 x18 n26 x24 μ25) := by
                intro n26
                induction n26 with
                | zero =>
                  intro x24 μ25
                  exact S_none rfl
                | succ n26 ih =>
                  intro x24 μ25
                  rw [fX2_cheap_L61]
                  refine S_iload dX2_cheap_61 rfl ?_
                  refine S_aload_n dX2_cheap_63 rfl ?_
                  refine S_getI dX2_cheap_64 rfl fl_X2_136 rfl rfl ?_
                  refine S_ic_ge (tgt := 90) dX2_cheap_67 (by decide) (fun h29 => ?_) (fun h29 => ?_)
                  · exact S_sub [0, 1, 2, 3, 4] rfl (hK22 x18 μ25)
                  · refine S_aload_n dX2_cheap_70 rfl ?_
                    refine S_getR (c1 := 70) dX2_cheap_71 rfl fl_X2_41 rfl rfl rfl ?_
                    refine S_iload dX2_cheap_74 rfl ?_
                    refine S_aload_n dX2_cheap_76 rfl ?_
                    refine S_getR (c1 := 69) dX2_cheap_77 rfl fl_X2_38 rfl rfl rfl ?_
                    refine S_iload dX2_cheap_80 rfl ?_
                    refine S_iald (N := 6) dX2_cheap_82 rfl (by decide) rfl ?_
                    refine S_iast (N := 6) dX2_cheap_83 rfl (by decide) rfl (fun μ27 => ?_)
                    refine S_iinc (lv' := fun x28 => [(6, .inl x28), (0, .inr (.inr 60)), (1, .inl p1), (2, .inl p2), (3, .inl x18), (4, .inl x15)]) dX2_cheap_84 rfl rfl rfl (fun _ => rfl) (fun x28 => ?_)
                    refine S_goto (tgt := 61) dX2_cheap_87 (by decide) ?_
                    exact S_sub [1, 2, 3, 4, 5, 0] rfl (ih x28 μ27)
              exact S_sub [3, 4, 5, 1, 6, 0] rfl (hL61 fuel 0 μ19)
      exact S_sub [2, 3, 4, 1, 0] rfl (hL23 fuel 99999 0 μ)
    · refine S_iconst dX2_cheap_15 rfl ?_
      exact S_iret dX2_cheap_16 rfl rfl
