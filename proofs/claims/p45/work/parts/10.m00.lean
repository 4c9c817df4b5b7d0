theorem dX0_become_0 : decode cX0_become 0 = .ok (.aload_n 1, 1) := by decide +kernel
theorem dX0_become_1 : decode cX0_become 1 = .ok (.getfield 9, 3) := by decide +kernel
theorem dX0_become_4 : decode cX0_become 4 = .ok (.iconst 0, 1) := by decide +kernel
theorem dX0_become_5 : decode cX0_become 5 = .ok (.aload_n 0, 1) := by decide +kernel
theorem dX0_become_6 : decode cX0_become 6 = .ok (.getfield 9, 3) := by decide +kernel
theorem dX0_become_9 : decode cX0_become 9 = .ok (.iconst 0, 1) := by decide +kernel
theorem dX0_become_10 : decode cX0_become 10 = .ok (.bipush 6, 2) := by decide +kernel
theorem dX0_become_12 : decode cX0_become 12 = .ok (.invokestatic 34, 3) := by decide +kernel
theorem dX0_become_15 : decode cX0_become 15 = .ok (.aload_n 1, 1) := by decide +kernel
theorem dX0_become_16 : decode cX0_become 16 = .ok (.getfield 15, 3) := by decide +kernel
theorem dX0_become_19 : decode cX0_become 19 = .ok (.iconst 0, 1) := by decide +kernel
theorem dX0_become_20 : decode cX0_become 20 = .ok (.aload_n 0, 1) := by decide +kernel
theorem dX0_become_21 : decode cX0_become 21 = .ok (.getfield 15, 3) := by decide +kernel
theorem dX0_become_24 : decode cX0_become 24 = .ok (.iconst 0, 1) := by decide +kernel
theorem dX0_become_25 : decode cX0_become 25 = .ok (.bipush 6, 2) := by decide +kernel
theorem dX0_become_27 : decode cX0_become 27 = .ok (.invokestatic 34, 3) := by decide +kernel
theorem dX0_become_30 : decode cX0_become 30 = .ok (.aload_n 1, 1) := by decide +kernel
theorem dX0_become_31 : decode cX0_become 31 = .ok (.getfield 18, 3) := by decide +kernel
theorem dX0_become_34 : decode cX0_become 34 = .ok (.iconst 0, 1) := by decide +kernel
theorem dX0_become_35 : decode cX0_become 35 = .ok (.aload_n 0, 1) := by decide +kernel
theorem dX0_become_36 : decode cX0_become 36 = .ok (.getfield 18, 3) := by decide +kernel
theorem dX0_become_39 : decode cX0_become 39 = .ok (.iconst 0, 1) := by decide +kernel
theorem dX0_become_40 : decode cX0_become 40 = .ok (.bipush 6, 2) := by decide +kernel
theorem dX0_become_42 : decode cX0_become 42 = .ok (.invokestatic 34, 3) := by decide +kernel
theorem dX0_become_45 : decode cX0_become 45 = .ok (.aload_n 1, 1) := by decide +kernel
theorem dX0_become_46 : decode cX0_become 46 = .ok (.getfield 21, 3) := by decide +kernel
theorem dX0_become_49 : decode cX0_become 49 = .ok (.iconst 0, 1) := by decide +kernel
theorem dX0_become_50 : decode cX0_become 50 = .ok (.aload_n 0, 1) := by decide +kernel
theorem dX0_become_51 : decode cX0_become 51 = .ok (.getfield 21, 3) := by decide +kernel
theorem dX0_become_54 : decode cX0_become 54 = .ok (.iconst 0, 1) := by decide +kernel
theorem dX0_become_55 : decode cX0_become 55 = .ok (.bipush 6, 2) := by decide +kernel
theorem dX0_become_57 : decode cX0_become 57 = .ok (.invokestatic 34, 3) := by decide +kernel
theorem dX0_become_60 : decode cX0_become 60 = .ok (.aload_n 0, 1) := by decide +kernel
theorem dX0_become_61 : decode cX0_become 61 = .ok (.aload_n 1, 1) := by decide +kernel
theorem dX0_become_62 : decode cX0_become 62 = .ok (.getfield 24, 3) := by decide +kernel
theorem dX0_become_65 : decode cX0_become 65 = .ok (.putfield 24, 3) := by decide +kernel
theorem dX0_become_68 : decode cX0_become 68 = .ok (.aload_n 0, 1) := by decide +kernel
theorem dX0_become_69 : decode cX0_become 69 = .ok (.aload_n 1, 1) := by decide +kernel
theorem dX0_become_70 : decode cX0_become 70 = .ok (.getfield 28, 3) := by decide +kernel
theorem dX0_become_73 : decode cX0_become 73 = .ok (.putfield 28, 3) := by decide +kernel
theorem dX0_become_76 : decode cX0_become 76 = .ok (.aload_n 0, 1) := by decide +kernel
theorem dX0_become_77 : decode cX0_become 77 = .ok (.aload_n 1, 1) := by decide +kernel
theorem dX0_become_78 : decode cX0_become 78 = .ok (.getfield 31, 3) := by decide +kernel
theorem dX0_become_81 : decode cX0_become 81 = .ok (.putfield 31, 3) := by decide +kernel
theorem dX0_become_84 : decode cX0_become 84 = .ok (.return_, 1) := by decide +kernel
theorem dX0_settle_0 : decode cX0_settle 0 = .ok (.aload_n 0, 1) := by decide +kernel
theorem dX0_settle_1 : decode cX0_settle 1 = .ok (.iconst 0, 1) := by decide +kernel
theorem dX0_settle_2 : decode cX0_settle 2 = .ok (.putfield 24, 3) := by decide +kernel
theorem dX0_settle_5 : decode cX0_settle 5 = .ok (.aload_n 0, 1) := by decide +kernel
theorem dX0_settle_6 : decode cX0_settle 6 = .ok (.iload_n 1, 1) := by decide +kernel
theorem dX0_settle_7 : decode cX0_settle 7 = .ok (.putfield 28, 3) := by decide +kernel
theorem dX0_settle_10 : decode cX0_settle 10 = .ok (.aload_n 0, 1) := by decide +kernel
theorem dX0_settle_11 : decode cX0_settle 11 = .ok (.iconst 0, 1) := by decide +kernel
theorem dX0_settle_12 : decode cX0_settle 12 = .ok (.putfield 31, 3) := by decide +kernel
theorem dX0_settle_15 : decode cX0_settle 15 = .ok (.return_, 1) := by decide +kernel
theorem dX0_add_0 : decode cX0_add 0 = .ok (.aload_n 0, 1) := by decide +kernel
theorem dX0_add_1 : decode cX0_add 1 = .ok (.getfield 24, 3) := by decide +kernel
theorem dX0_add_4 : decode cX0_add 4 = .ok (.bipush 6, 2) := by decide +kernel
theorem dX0_add_6 : decode cX0_add 6 = .ok (.if_icmp .ge 53, 3) := by decide +kernel
theorem dX0_add_9 : decode cX0_add 9 = .ok (.aload_n 0, 1) := by decide +kernel
theorem dX0_add_10 : decode cX0_add 10 = .ok (.getfield 9, 3) := by decide +kernel
theorem dX0_add_13 : decode cX0_add 13 = .ok (.aload_n 0, 1) := by decide +kernel
theorem dX0_add_14 : decode cX0_add 14 = .ok (.getfield 24, 3) := by decide +kernel
theorem dX0_add_17 : decode cX0_add 17 = .ok (.iload_n 1, 1) := by decide +kernel
theorem dX0_add_18 : decode cX0_add 18 = .ok (.iastore, 1) := by decide +kernel
theorem dX0_add_19 : decode cX0_add 19 = .ok (.aload_n 0, 1) := by decide +kernel
theorem dX0_add_20 : decode cX0_add 20 = .ok (.getfield 15, 3) := by decide +kernel
theorem dX0_add_23 : decode cX0_add 23 = .ok (.aload_n 0, 1) := by decide +kernel
theorem dX0_add_24 : decode cX0_add 24 = .ok (.getfield 24, 3) := by decide +kernel
theorem dX0_add_27 : decode cX0_add 27 = .ok (.iload_n 2, 1) := by decide +kernel
theorem dX0_add_28 : decode cX0_add 28 = .ok (.iastore, 1) := by decide +kernel
theorem dX0_add_29 : decode cX0_add 29 = .ok (.aload_n 0, 1) := by decide +kernel
theorem dX0_add_30 : decode cX0_add 30 = .ok (.getfield 18, 3) := by decide +kernel
theorem dX0_add_33 : decode cX0_add 33 = .ok (.aload_n 0, 1) := by decide +kernel
theorem dX0_add_34 : decode cX0_add 34 = .ok (.getfield 24, 3) := by decide +kernel
theorem dX0_add_37 : decode cX0_add 37 = .ok (.iload_n 3, 1) := by decide +kernel
theorem dX0_add_38 : decode cX0_add 38 = .ok (.iastore, 1) := by decide +kernel
theorem dX0_add_39 : decode cX0_add 39 = .ok (.aload_n 0, 1) := by decide +kernel
theorem dX0_add_40 : decode cX0_add 40 = .ok (.getfield 21, 3) := by decide +kernel
theorem dX0_add_43 : decode cX0_add 43 = .ok (.aload_n 0, 1) := by decide +kernel
theorem dX0_add_44 : decode cX0_add 44 = .ok (.getfield 24, 3) := by decide +kernel
theorem dX0_add_47 : decode cX0_add 47 = .ok (.iconst 0, 1) := by decide +kernel
theorem dX0_add_48 : decode cX0_add 48 = .ok (.iastore, 1) := by decide +kernel
theorem dX0_add_49 : decode cX0_add 49 = .ok (.aload_n 0, 1) := by decide +kernel
theorem dX0_add_50 : decode cX0_add 50 = .ok (.dup, 1) := by decide +kernel
theorem dX0_add_51 : decode cX0_add 51 = .ok (.getfield 24, 3) := by decide +kernel
theorem dX0_add_54 : decode cX0_add 54 = .ok (.iconst 1, 1) := by decide +kernel
theorem dX0_add_55 : decode cX0_add 55 = .ok (.iadd, 1) := by decide +kernel
theorem dX0_add_56 : decode cX0_add 56 = .ok (.putfield 24, 3) := by decide +kernel
theorem dX0_add_59 : decode cX0_add 59 = .ok (.return_, 1) := by decide +kernel
theorem dX0_has_0 : decode cX0_has 0 = .ok (.iload_n 1, 1) := by decide +kernel
theorem dX0_has_1 : decode cX0_has 1 = .ok (.ifCond .lt 15, 3) := by decide +kernel
theorem dX0_has_4 : decode cX0_has 4 = .ok (.iload_n 1, 1) := by decide +kernel
theorem dX0_has_5 : decode cX0_has 5 = .ok (.aload_n 0, 1) := by decide +kernel
theorem dX0_has_6 : decode cX0_has 6 = .ok (.getfield 24, 3) := by decide +kernel
theorem dX0_has_9 : decode cX0_has 9 = .ok (.if_icmp .ge 7, 3) := by decide +kernel
theorem dX0_has_12 : decode cX0_has 12 = .ok (.iconst 1, 1) := by decide +kernel
theorem dX0_has_13 : decode cX0_has 13 = .ok (.goto 4, 3) := by decide +kernel
theorem dX0_has_16 : decode cX0_has 16 = .ok (.iconst 0, 1) := by decide +kernel
theorem dX0_has_17 : decode cX0_has 17 = .ok (.ireturn, 1) := by decide +kernel
theorem dX0_farOf_0 : decode cX0_farOf 0 = .ok (.aload_n 0, 1) := by decide +kernel
theorem dX0_farOf_1 : decode cX0_farOf 1 = .ok (.getfield 28, 3) := by decide +kernel
theorem dX0_farOf_4 : decode cX0_farOf 4 = .ok (.aload_n 0, 1) := by decide +kernel
theorem dX0_farOf_5 : decode cX0_farOf 5 = .ok (.getfield 15, 3) := by decide +kernel
theorem dX0_farOf_8 : decode cX0_farOf 8 = .ok (.iload_n 1, 1) := by decide +kernel
theorem dX0_farOf_9 : decode cX0_farOf 9 = .ok (.iaload, 1) := by decide +kernel
theorem dX0_farOf_10 : decode cX0_farOf 10 = .ok (.isub, 1) := by decide +kernel
theorem dX0_farOf_11 : decode cX0_farOf 11 = .ok (.invokestatic 40, 3) := by decide +kernel
theorem dX0_farOf_14 : decode cX0_farOf 14 = .ok (.ireturn, 1) := by decide +kernel
theorem dX1_betBoldness_0 : decode cX1_betBoldness 0 = .ok (.iload_n 0, 1) := by decide +kernel
theorem dX1_betBoldness_1 : decode cX1_betBoldness 1 = .ok (.iconst 3, 1) := by decide +kernel
theorem dX1_betBoldness_2 : decode cX1_betBoldness 2 = .ok (.if_icmp .ge 7, 3) := by decide +kernel
theorem dX1_betBoldness_5 : decode cX1_betBoldness 5 = .ok (.iload_n 0, 1) := by decide +kernel
theorem dX1_betBoldness_6 : decode cX1_betBoldness 6 = .ok (.goto 4, 3) := by decide +kernel
theorem dX1_betBoldness_9 : decode cX1_betBoldness 9 = .ok (.iconst 3, 1) := by decide +kernel
theorem dX1_betBoldness_10 : decode cX1_betBoldness 10 = .ok (.ireturn, 1) := by decide +kernel
theorem dX1_fearfulBoldness_0 : decode cX1_fearfulBoldness 0 = .ok (.iload_n 0, 1) := by decide +kernel
theorem dX1_fearfulBoldness_1 : decode cX1_fearfulBoldness 1 = .ok (.iconst 5, 1) := by decide +kernel
theorem dX1_fearfulBoldness_2 : decode cX1_fearfulBoldness 2 = .ok (.if_icmp .ge 7, 3) := by decide +kernel
theorem dX1_fearfulBoldness_5 : decode cX1_fearfulBoldness 5 = .ok (.iconst 0, 1) := by decide +kernel
theorem dX1_fearfulBoldness_6 : decode cX1_fearfulBoldness 6 = .ok (.goto 4, 3) := by decide +kernel
theorem dX1_fearfulBoldness_9 : decode cX1_fearfulBoldness 9 = .ok (.iload_n 0, 1) := by decide +kernel
theorem dX1_fearfulBoldness_10 : decode cX1_fearfulBoldness 10 = .ok (.ireturn, 1) := by decide +kernel
theorem dX1_boldness_0 : decode cX1_boldness 0 = .ok (.iload_n 0, 1) := by decide +kernel
theorem dX1_boldness_1 : decode cX1_boldness 1 = .ok (.tableswitch 73 1 5 #[35, 49, 73, 54, 61], 35) := by decide +kernel
theorem dX1_boldness_36 : decode cX1_boldness 36 = .ok (.iload_n 2, 1) := by decide +kernel
theorem dX1_boldness_37 : decode cX1_boldness 37 = .ok (.iconst 2, 1) := by decide +kernel
theorem dX1_boldness_38 : decode cX1_boldness 38 = .ok (.irem, 1) := by decide +kernel
theorem dX1_boldness_39 : decode cX1_boldness 39 = .ok (.ifCond .ne 9, 3) := by decide +kernel
theorem dX1_boldness_42 : decode cX1_boldness 42 = .ok (.iconst 2, 1) := by decide +kernel
theorem dX1_boldness_43 : decode cX1_boldness 43 = .ok (.iload_n 1, 1) := by decide +kernel
theorem dX1_boldness_44 : decode cX1_boldness 44 = .ok (.imul, 1) := by decide +kernel
theorem dX1_boldness_45 : decode cX1_boldness 45 = .ok (.goto 4, 3) := by decide +kernel
theorem dX1_boldness_48 : decode cX1_boldness 48 = .ok (.iload_n 1, 1) := by decide +kernel
theorem dX1_boldness_49 : decode cX1_boldness 49 = .ok (.ireturn, 1) := by decide +kernel
theorem dX1_boldness_50 : decode cX1_boldness 50 = .ok (.iload_n 1, 1) := by decide +kernel
theorem dX1_boldness_51 : decode cX1_boldness 51 = .ok (.invokestatic 282, 3) := by decide +kernel
theorem dX1_boldness_54 : decode cX1_boldness 54 = .ok (.ireturn, 1) := by decide +kernel
theorem dX1_boldness_55 : decode cX1_boldness 55 = .ok (.iload_n 1, 1) := by decide +kernel
theorem dX1_boldness_56 : decode cX1_boldness 56 = .ok (.iload_n 3, 1) := by decide +kernel
theorem dX1_boldness_57 : decode cX1_boldness 57 = .ok (.invokestatic 285, 3) := by decide +kernel
theorem dX1_boldness_60 : decode cX1_boldness 60 = .ok (.iadd, 1) := by decide +kernel
theorem dX1_boldness_61 : decode cX1_boldness 61 = .ok (.ireturn, 1) := by decide +kernel
theorem dX1_boldness_62 : decode cX1_boldness 62 = .ok (.iconst 0, 1) := by decide +kernel
theorem dX1_boldness_63 : decode cX1_boldness 63 = .ok (.bipush 10, 2) := by decide +kernel
theorem dX1_boldness_65 : decode cX1_boldness 65 = .ok (.iload_n 1, 1) := by decide +kernel
theorem dX1_boldness_66 : decode cX1_boldness 66 = .ok (.invokestatic 282, 3) := by decide +kernel
theorem dX1_boldness_69 : decode cX1_boldness 69 = .ok (.isub, 1) := by decide +kernel
theorem dX1_boldness_70 : decode cX1_boldness 70 = .ok (.invokestatic 288, 3) := by decide +kernel
theorem dX1_boldness_73 : decode cX1_boldness 73 = .ok (.ireturn, 1) := by decide +kernel
theorem dX1_boldness_74 : decode cX1_boldness 74 = .ok (.iload_n 1, 1) := by decide +kernel
theorem dX1_boldness_75 : decode cX1_boldness 75 = .ok (.ireturn, 1) := by decide +kernel
theorem dX0_boldnessAt_0 : decode cX0_boldnessAt 0 = .ok (.aload_n 0, 1) := by decide +kernel
theorem dX0_boldnessAt_1 : decode cX0_boldnessAt 1 = .ok (.getfield 9, 3) := by decide +kernel
theorem dX0_boldnessAt_4 : decode cX0_boldnessAt 4 = .ok (.iload_n 1, 1) := by decide +kernel
theorem dX0_boldnessAt_5 : decode cX0_boldnessAt 5 = .ok (.iaload, 1) := by decide +kernel
theorem dX0_boldnessAt_6 : decode cX0_boldnessAt 6 = .ok (.iload_n 2, 1) := by decide +kernel
theorem dX0_boldnessAt_7 : decode cX0_boldnessAt 7 = .ok (.aload_n 0, 1) := by decide +kernel
theorem dX0_boldnessAt_8 : decode cX0_boldnessAt 8 = .ok (.getfield 31, 3) := by decide +kernel
theorem dX0_boldnessAt_11 : decode cX0_boldnessAt 11 = .ok (.aload_n 0, 1) := by decide +kernel
theorem dX0_boldnessAt_12 : decode cX0_boldnessAt 12 = .ok (.iload_n 1, 1) := by decide +kernel
theorem dX0_boldnessAt_13 : decode cX0_boldnessAt 13 = .ok (.invokevirtual 46, 3) := by decide +kernel
theorem dX0_boldnessAt_16 : decode cX0_boldnessAt 16 = .ok (.invokestatic 49, 3) := by decide +kernel
theorem dX0_boldnessAt_19 : decode cX0_boldnessAt 19 = .ok (.ireturn, 1) := by decide +kernel
theorem dX0_isBehind_0 : decode cX0_isBehind 0 = .ok (.aload_n 0, 1) := by decide +kernel
theorem dX0_isBehind_1 : decode cX0_isBehind 1 = .ok (.iload_n 1, 1) := by decide +kernel
theorem dX0_isBehind_2 : decode cX0_isBehind 2 = .ok (.invokevirtual 46, 3) := by decide +kernel
theorem dX0_isBehind_5 : decode cX0_isBehind 5 = .ok (.aload_n 0, 1) := by decide +kernel
theorem dX0_isBehind_6 : decode cX0_isBehind 6 = .ok (.iload_n 2, 1) := by decide +kernel
theorem dX0_isBehind_7 : decode cX0_isBehind 7 = .ok (.invokevirtual 46, 3) := by decide +kernel
theorem dX0_isBehind_10 : decode cX0_isBehind 10 = .ok (.if_icmp .eq 24, 3) := by decide +kernel
theorem dX0_isBehind_13 : decode cX0_isBehind 13 = .ok (.aload_n 0, 1) := by decide +kernel
theorem dX0_isBehind_14 : decode cX0_isBehind 14 = .ok (.iload_n 1, 1) := by decide +kernel
theorem dX0_isBehind_15 : decode cX0_isBehind 15 = .ok (.invokevirtual 46, 3) := by decide +kernel
theorem dX0_isBehind_18 : decode cX0_isBehind 18 = .ok (.aload_n 0, 1) := by decide +kernel
theorem dX0_isBehind_19 : decode cX0_isBehind 19 = .ok (.iload_n 2, 1) := by decide +kernel
theorem dX0_isBehind_20 : decode cX0_isBehind 20 = .ok (.invokevirtual 46, 3) := by decide +kernel
theorem dX0_isBehind_23 : decode cX0_isBehind 23 = .ok (.if_icmp .le 7, 3) := by decide +kernel
theorem dX0_isBehind_26 : decode cX0_isBehind 26 = .ok (.iconst 1, 1) := by decide +kernel
theorem dX0_isBehind_27 : decode cX0_isBehind 27 = .ok (.goto 17, 3) := by decide +kernel
theorem dX0_isBehind_30 : decode cX0_isBehind 30 = .ok (.iconst 0, 1) := by decide +kernel
theorem dX0_isBehind_31 : decode cX0_isBehind 31 = .ok (.goto 13, 3) := by decide +kernel
theorem dX0_isBehind_34 : decode cX0_isBehind 34 = .ok (.iload_n 1, 1) := by decide +kernel
theorem dX0_isBehind_35 : decode cX0_isBehind 35 = .ok (.iload_n 2, 1) := by decide +kernel
theorem dX0_isBehind_36 : decode cX0_isBehind 36 = .ok (.if_icmp .le 7, 3) := by decide +kernel
theorem dX0_isBehind_39 : decode cX0_isBehind 39 = .ok (.iconst 1, 1) := by decide +kernel
theorem dX0_isBehind_40 : decode cX0_isBehind 40 = .ok (.goto 4, 3) := by decide +kernel
theorem dX0_isBehind_43 : decode cX0_isBehind 43 = .ok (.iconst 0, 1) := by decide +kernel
theorem dX0_isBehind_44 : decode cX0_isBehind 44 = .ok (.ireturn, 1) := by decide +kernel
theorem dX0_holder_0 : decode cX0_holder 0 = .ok (.bipush (-9), 2) := by decide +kernel
theorem dX0_holder_2 : decode cX0_holder 2 = .ok (.istore_n 2, 1) := by decide +kernel
theorem dX0_holder_3 : decode cX0_holder 3 = .ok (.iconst 0, 1) := by decide +kernel
theorem dX0_holder_4 : decode cX0_holder 4 = .ok (.istore_n 3, 1) := by decide +kernel
theorem dX0_holder_5 : decode cX0_holder 5 = .ok (.iconst 0, 1) := by decide +kernel
theorem dX0_holder_6 : decode cX0_holder 6 = .ok (.istore 4, 2) := by decide +kernel
theorem dX0_holder_8 : decode cX0_holder 8 = .ok (.iload 4, 2) := by decide +kernel
theorem dX0_holder_10 : decode cX0_holder 10 = .ok (.aload_n 0, 1) := by decide +kernel
theorem dX0_holder_11 : decode cX0_holder 11 = .ok (.getfield 24, 3) := by decide +kernel
theorem dX0_holder_14 : decode cX0_holder 14 = .ok (.if_icmp .ge 71, 3) := by decide +kernel
theorem dX0_holder_17 : decode cX0_holder 17 = .ok (.iload_n 1, 1) := by decide +kernel
theorem dX0_holder_18 : decode cX0_holder 18 = .ok (.iload 4, 2) := by decide +kernel
theorem dX0_holder_20 : decode cX0_holder 20 = .ok (.ishr, 1) := by decide +kernel
theorem dX0_holder_21 : decode cX0_holder 21 = .ok (.iconst 1, 1) := by decide +kernel
theorem dX0_holder_22 : decode cX0_holder 22 = .ok (.iand, 1) := by decide +kernel
theorem dX0_holder_23 : decode cX0_holder 23 = .ok (.ifCond .eq 7, 3) := by decide +kernel
theorem dX0_holder_26 : decode cX0_holder 26 = .ok (.iconst 0, 1) := by decide +kernel
theorem dX0_holder_27 : decode cX0_holder 27 = .ok (.goto 16, 3) := by decide +kernel
theorem dX0_holder_30 : decode cX0_holder 30 = .ok (.aload_n 0, 1) := by decide +kernel
theorem dX0_holder_31 : decode cX0_holder 31 = .ok (.iload 4, 2) := by decide +kernel
theorem dX0_holder_33 : decode cX0_holder 33 = .ok (.aload_n 0, 1) := by decide +kernel
theorem dX0_holder_34 : decode cX0_holder 34 = .ok (.getfield 18, 3) := by decide +kernel
theorem dX0_holder_37 : decode cX0_holder 37 = .ok (.iload 4, 2) := by decide +kernel
theorem dX0_holder_39 : decode cX0_holder 39 = .ok (.iaload, 1) := by decide +kernel
theorem dX0_holder_40 : decode cX0_holder 40 = .ok (.invokevirtual 53, 3) := by decide +kernel
theorem dX0_holder_43 : decode cX0_holder 43 = .ok (.istore 5, 2) := by decide +kernel
theorem dX0_holder_45 : decode cX0_holder 45 = .ok (.iload 5, 2) := by decide +kernel
theorem dX0_holder_47 : decode cX0_holder 47 = .ok (.iload_n 3, 1) := by decide +kernel
theorem dX0_holder_48 : decode cX0_holder 48 = .ok (.if_icmp .gt 25, 3) := by decide +kernel
theorem dX0_holder_51 : decode cX0_holder 51 = .ok (.iload_n 2, 1) := by decide +kernel
theorem dX0_holder_52 : decode cX0_holder 52 = .ok (.bipush (-9), 2) := by decide +kernel
theorem dX0_holder_54 : decode cX0_holder 54 = .ok (.if_icmp .eq 25, 3) := by decide +kernel
theorem dX0_holder_57 : decode cX0_holder 57 = .ok (.iload 5, 2) := by decide +kernel
theorem dX0_holder_59 : decode cX0_holder 59 = .ok (.iload_n 3, 1) := by decide +kernel
theorem dX0_holder_60 : decode cX0_holder 60 = .ok (.if_icmp .ne 19, 3) := by decide +kernel
theorem dX0_holder_63 : decode cX0_holder 63 = .ok (.aload_n 0, 1) := by decide +kernel
theorem dX0_holder_64 : decode cX0_holder 64 = .ok (.iload_n 2, 1) := by decide +kernel
theorem dX0_holder_65 : decode cX0_holder 65 = .ok (.iload 4, 2) := by decide +kernel
theorem dX0_holder_67 : decode cX0_holder 67 = .ok (.invokevirtual 57, 3) := by decide +kernel
theorem dX0_holder_70 : decode cX0_holder 70 = .ok (.ifCond .eq 9, 3) := by decide +kernel
theorem dX0_holder_73 : decode cX0_holder 73 = .ok (.iload 4, 2) := by decide +kernel
theorem dX0_holder_75 : decode cX0_holder 75 = .ok (.istore_n 2, 1) := by decide +kernel
theorem dX0_holder_76 : decode cX0_holder 76 = .ok (.iload 5, 2) := by decide +kernel
theorem dX0_holder_78 : decode cX0_holder 78 = .ok (.istore_n 3, 1) := by decide +kernel
theorem dX0_holder_79 : decode cX0_holder 79 = .ok (.iinc 4 1, 3) := by decide +kernel
theorem dX0_holder_82 : decode cX0_holder 82 = .ok (.goto (-74), 3) := by decide +kernel
theorem dX0_holder_85 : decode cX0_holder 85 = .ok (.iload_n 2, 1) := by decide +kernel
theorem dX0_holder_86 : decode cX0_holder 86 = .ok (.ireturn, 1) := by decide +kernel
theorem dX1_isOf_0 : decode cX1_isOf 0 = .ok (.iload_n 0, 1) := by decide +kernel
theorem dX1_isOf_1 : decode cX1_isOf 1 = .ok (.iload_n 1, 1) := by decide +kernel
theorem dX1_isOf_2 : decode cX1_isOf 2 = .ok (.if_icmp .eq 27, 3) := by decide +kernel
theorem dX1_isOf_5 : decode cX1_isOf 5 = .ok (.iload_n 1, 1) := by decide +kernel
theorem dX1_isOf_6 : decode cX1_isOf 6 = .ok (.ifCond .eq 23, 3) := by decide +kernel
theorem dX1_isOf_9 : decode cX1_isOf 9 = .ok (.iload_n 0, 1) := by decide +kernel
theorem dX1_isOf_10 : decode cX1_isOf 10 = .ok (.iconst 4, 1) := by decide +kernel
theorem dX1_isOf_11 : decode cX1_isOf 11 = .ok (.if_icmp .ne 8, 3) := by decide +kernel
theorem dX1_isOf_14 : decode cX1_isOf 14 = .ok (.iload_n 1, 1) := by decide +kernel
theorem dX1_isOf_15 : decode cX1_isOf 15 = .ok (.iconst 3, 1) := by decide +kernel
theorem dX1_isOf_16 : decode cX1_isOf 16 = .ok (.if_icmp .eq 13, 3) := by decide +kernel
theorem dX1_isOf_19 : decode cX1_isOf 19 = .ok (.iload_n 0, 1) := by decide +kernel
theorem dX1_isOf_20 : decode cX1_isOf 20 = .ok (.iconst 5, 1) := by decide +kernel
theorem dX1_isOf_21 : decode cX1_isOf 21 = .ok (.if_icmp .ne 12, 3) := by decide +kernel
theorem dX1_isOf_24 : decode cX1_isOf 24 = .ok (.iload_n 1, 1) := by decide +kernel
theorem dX1_isOf_25 : decode cX1_isOf 25 = .ok (.iconst 2, 1) := by decide +kernel
theorem dX1_isOf_26 : decode cX1_isOf 26 = .ok (.if_icmp .ne 7, 3) := by decide +kernel
theorem dX1_isOf_29 : decode cX1_isOf 29 = .ok (.iconst 1, 1) := by decide +kernel
theorem dX1_isOf_30 : decode cX1_isOf 30 = .ok (.goto 4, 3) := by decide +kernel
theorem dX1_isOf_33 : decode cX1_isOf 33 = .ok (.iconst 0, 1) := by decide +kernel
theorem dX1_isOf_34 : decode cX1_isOf 34 = .ok (.ireturn, 1) := by decide +kernel
theorem dX1_fading_0 : decode cX1_fading 0 = .ok (.iload_n 0, 1) := by decide +kernel
theorem dX1_fading_1 : decode cX1_fading 1 = .ok (.iconst 3, 1) := by decide +kernel
theorem dX1_fading_2 : decode cX1_fading 2 = .ok (.invokestatic 138, 3) := by decide +kernel
theorem dX1_fading_5 : decode cX1_fading 5 = .ok (.ifCond .eq 5, 3) := by decide +kernel
theorem dX1_fading_8 : decode cX1_fading 8 = .ok (.iconst 0, 1) := by decide +kernel
theorem dX1_fading_9 : decode cX1_fading 9 = .ok (.ireturn, 1) := by decide +kernel
theorem dX1_fading_10 : decode cX1_fading 10 = .ok (.iload_n 0, 1) := by decide +kernel
theorem dX1_fading_11 : decode cX1_fading 11 = .ok (.iconst 2, 1) := by decide +kernel
theorem dX1_fading_12 : decode cX1_fading 12 = .ok (.invokestatic 138, 3) := by decide +kernel
theorem dX1_fading_15 : decode cX1_fading 15 = .ok (.ifCond .eq 7, 3) := by decide +kernel
theorem dX1_fading_18 : decode cX1_fading 18 = .ok (.iconst 2, 1) := by decide +kernel
theorem dX1_fading_19 : decode cX1_fading 19 = .ok (.goto 4, 3) := by decide +kernel
theorem dX1_fading_22 : decode cX1_fading 22 = .ok (.iconst 1, 1) := by decide +kernel
theorem dX1_fading_23 : decode cX1_fading 23 = .ok (.ireturn, 1) := by decide +kernel
theorem dX0_passNight_0 : decode cX0_passNight 0 = .ok (.aload_n 0, 1) := by decide +kernel
theorem dX0_passNight_1 : decode cX0_passNight 1 = .ok (.iconst 0, 1) := by decide +kernel
theorem dX0_passNight_2 : decode cX0_passNight 2 = .ok (.invokevirtual 61, 3) := by decide +kernel
theorem dX0_passNight_5 : decode cX0_passNight 5 = .ok (.istore_n 1, 1) := by decide +kernel
theorem dX0_passNight_6 : decode cX0_passNight 6 = .ok (.iconst 0, 1) := by decide +kernel
theorem dX0_passNight_7 : decode cX0_passNight 7 = .ok (.istore_n 2, 1) := by decide +kernel
theorem dX0_passNight_8 : decode cX0_passNight 8 = .ok (.iload_n 2, 1) := by decide +kernel
theorem dX0_passNight_9 : decode cX0_passNight 9 = .ok (.aload_n 0, 1) := by decide +kernel
theorem dX0_passNight_10 : decode cX0_passNight 10 = .ok (.getfield 24, 3) := by decide +kernel
theorem dX0_passNight_13 : decode cX0_passNight 13 = .ok (.if_icmp .ge 46, 3) := by decide +kernel
theorem dX0_passNight_16 : decode cX0_passNight 16 = .ok (.iload_n 2, 1) := by decide +kernel
theorem dX0_passNight_17 : decode cX0_passNight 17 = .ok (.iload_n 1, 1) := by decide +kernel
theorem dX0_passNight_18 : decode cX0_passNight 18 = .ok (.if_icmp .ne 7, 3) := by decide +kernel
theorem dX0_passNight_21 : decode cX0_passNight 21 = .ok (.iconst 2, 1) := by decide +kernel
theorem dX0_passNight_22 : decode cX0_passNight 22 = .ok (.goto 12, 3) := by decide +kernel
theorem dX0_passNight_25 : decode cX0_passNight 25 = .ok (.aload_n 0, 1) := by decide +kernel
theorem dX0_passNight_26 : decode cX0_passNight 26 = .ok (.getfield 9, 3) := by decide +kernel
theorem dX0_passNight_29 : decode cX0_passNight 29 = .ok (.iload_n 2, 1) := by decide +kernel
theorem dX0_passNight_30 : decode cX0_passNight 30 = .ok (.iaload, 1) := by decide +kernel
theorem dX0_passNight_31 : decode cX0_passNight 31 = .ok (.invokestatic 64, 3) := by decide +kernel
theorem dX0_passNight_34 : decode cX0_passNight 34 = .ok (.istore_n 3, 1) := by decide +kernel
theorem dX0_passNight_35 : decode cX0_passNight 35 = .ok (.aload_n 0, 1) := by decide +kernel
theorem dX0_passNight_36 : decode cX0_passNight 36 = .ok (.getfield 18, 3) := by decide +kernel
theorem dX0_passNight_39 : decode cX0_passNight 39 = .ok (.iload_n 2, 1) := by decide +kernel
theorem dX0_passNight_40 : decode cX0_passNight 40 = .ok (.iconst 0, 1) := by decide +kernel
theorem dX0_passNight_41 : decode cX0_passNight 41 = .ok (.aload_n 0, 1) := by decide +kernel
theorem dX0_passNight_42 : decode cX0_passNight 42 = .ok (.getfield 18, 3) := by decide +kernel
theorem dX0_passNight_45 : decode cX0_passNight 45 = .ok (.iload_n 2, 1) := by decide +kernel
theorem dX0_passNight_46 : decode cX0_passNight 46 = .ok (.iaload, 1) := by decide +kernel
theorem dX0_passNight_47 : decode cX0_passNight 47 = .ok (.iload_n 3, 1) := by decide +kernel
theorem dX0_passNight_48 : decode cX0_passNight 48 = .ok (.isub, 1) := by decide +kernel
theorem dX0_passNight_49 : decode cX0_passNight 49 = .ok (.invokestatic 67, 3) := by decide +kernel
theorem dX0_passNight_52 : decode cX0_passNight 52 = .ok (.iastore, 1) := by decide +kernel
theorem dX0_passNight_53 : decode cX0_passNight 53 = .ok (.iinc 2 1, 3) := by decide +kernel
theorem dX0_passNight_56 : decode cX0_passNight 56 = .ok (.goto (-48), 3) := by decide +kernel
theorem dX0_passNight_59 : decode cX0_passNight 59 = .ok (.aload_n 0, 1) := by decide +kernel
theorem dX0_passNight_60 : decode cX0_passNight 60 = .ok (.iload_n 1, 1) := by decide +kernel
theorem dX0_passNight_61 : decode cX0_passNight 61 = .ok (.invokevirtual 70, 3) := by decide +kernel
theorem dX0_passNight_64 : decode cX0_passNight 64 = .ok (.ifCond .eq 23, 3) := by decide +kernel
theorem dX0_passNight_67 : decode cX0_passNight 67 = .ok (.aload_n 0, 1) := by decide +kernel
theorem dX0_passNight_68 : decode cX0_passNight 68 = .ok (.aload_n 0, 1) := by decide +kernel
theorem dX0_passNight_69 : decode cX0_passNight 69 = .ok (.getfield 15, 3) := by decide +kernel
theorem dX0_passNight_72 : decode cX0_passNight 72 = .ok (.iload_n 1, 1) := by decide +kernel
theorem dX0_passNight_73 : decode cX0_passNight 73 = .ok (.iaload, 1) := by decide +kernel
theorem dX0_passNight_74 : decode cX0_passNight 74 = .ok (.putfield 28, 3) := by decide +kernel
theorem dX0_passNight_77 : decode cX0_passNight 77 = .ok (.aload_n 0, 1) := by decide +kernel
theorem dX0_passNight_78 : decode cX0_passNight 78 = .ok (.getfield 21, 3) := by decide +kernel
theorem dX0_passNight_81 : decode cX0_passNight 81 = .ok (.iload_n 1, 1) := by decide +kernel
theorem dX0_passNight_82 : decode cX0_passNight 82 = .ok (.dup2, 1) := by decide +kernel
theorem dX0_passNight_83 : decode cX0_passNight 83 = .ok (.iaload, 1) := by decide +kernel
theorem dX0_passNight_84 : decode cX0_passNight 84 = .ok (.iconst 1, 1) := by decide +kernel
theorem dX0_passNight_85 : decode cX0_passNight 85 = .ok (.iadd, 1) := by decide +kernel
theorem dX0_passNight_86 : decode cX0_passNight 86 = .ok (.iastore, 1) := by decide +kernel
theorem dX0_passNight_87 : decode cX0_passNight 87 = .ok (.aload_n 0, 1) := by decide +kernel
theorem dX0_passNight_88 : decode cX0_passNight 88 = .ok (.dup, 1) := by decide +kernel
theorem dX0_passNight_89 : decode cX0_passNight 89 = .ok (.getfield 31, 3) := by decide +kernel
theorem dX0_passNight_92 : decode cX0_passNight 92 = .ok (.iconst 1, 1) := by decide +kernel
theorem dX0_passNight_93 : decode cX0_passNight 93 = .ok (.iadd, 1) := by decide +kernel
theorem dX0_passNight_94 : decode cX0_passNight 94 = .ok (.putfield 31, 3) := by decide +kernel
theorem dX0_passNight_97 : decode cX0_passNight 97 = .ok (.iload_n 1, 1) := by decide +kernel
theorem dX0_passNight_98 : decode cX0_passNight 98 = .ok (.ireturn, 1) := by decide +kernel
theorem dX0_undergo_0 : decode cX0_undergo 0 = .ok (.iload_n 1, 1) := by decide +kernel
theorem dX0_undergo_1 : decode cX0_undergo 1 = .ok (.iconst 3, 1) := by decide +kernel
theorem dX0_undergo_2 : decode cX0_undergo 2 = .ok (.iand, 1) := by decide +kernel
theorem dX0_undergo_3 : decode cX0_undergo 3 = .ok (.istore_n 2, 1) := by decide +kernel
theorem dX0_undergo_4 : decode cX0_undergo 4 = .ok (.iload_n 1, 1) := by decide +kernel
theorem dX0_undergo_5 : decode cX0_undergo 5 = .ok (.iconst 2, 1) := by decide +kernel
theorem dX0_undergo_6 : decode cX0_undergo 6 = .ok (.ishr, 1) := by decide +kernel
theorem dX0_undergo_7 : decode cX0_undergo 7 = .ok (.bipush 7, 2) := by decide +kernel
theorem dX0_undergo_9 : decode cX0_undergo 9 = .ok (.iand, 1) := by decide +kernel
theorem dX0_undergo_10 : decode cX0_undergo 10 = .ok (.istore_n 3, 1) := by decide +kernel
theorem dX0_undergo_11 : decode cX0_undergo 11 = .ok (.iload_n 1, 1) := by decide +kernel
theorem dX0_undergo_12 : decode cX0_undergo 12 = .ok (.iconst 5, 1) := by decide +kernel
theorem dX0_undergo_13 : decode cX0_undergo 13 = .ok (.ishr, 1) := by decide +kernel
theorem dX0_undergo_14 : decode cX0_undergo 14 = .ok (.istore 4, 2) := by decide +kernel
theorem dX0_undergo_16 : decode cX0_undergo 16 = .ok (.iload_n 2, 1) := by decide +kernel
theorem dX0_undergo_17 : decode cX0_undergo 17 = .ok (.ifCond .ne 11, 3) := by decide +kernel
theorem dX0_undergo_20 : decode cX0_undergo 20 = .ok (.aload_n 0, 1) := by decide +kernel
theorem dX0_undergo_21 : decode cX0_undergo 21 = .ok (.invokevirtual 74, 3) := by decide +kernel
theorem dX0_undergo_24 : decode cX0_undergo 24 = .ok (.pop, 1) := by decide +kernel
theorem dX0_undergo_25 : decode cX0_undergo 25 = .ok (.goto 74, 3) := by decide +kernel
theorem dX0_undergo_28 : decode cX0_undergo 28 = .ok (.aload_n 0, 1) := by decide +kernel
theorem dX0_undergo_29 : decode cX0_undergo 29 = .ok (.iload_n 3, 1) := by decide +kernel
theorem dX0_undergo_30 : decode cX0_undergo 30 = .ok (.invokevirtual 70, 3) := by decide +kernel
theorem dX0_undergo_33 : decode cX0_undergo 33 = .ok (.ifCond .eq 66, 3) := by decide +kernel
theorem dX0_undergo_36 : decode cX0_undergo 36 = .ok (.iload_n 2, 1) := by decide +kernel
theorem dX0_undergo_37 : decode cX0_undergo 37 = .ok (.iconst 1, 1) := by decide +kernel
theorem dX0_undergo_38 : decode cX0_undergo 38 = .ok (.if_icmp .ne 26, 3) := by decide +kernel
theorem dX0_undergo_41 : decode cX0_undergo 41 = .ok (.aload_n 0, 1) := by decide +kernel
theorem dX0_undergo_42 : decode cX0_undergo 42 = .ok (.getfield 18, 3) := by decide +kernel
theorem dX0_undergo_45 : decode cX0_undergo 45 = .ok (.iload_n 3, 1) := by decide +kernel
theorem dX0_undergo_46 : decode cX0_undergo 46 = .ok (.bipush 20, 2) := by decide +kernel
theorem dX0_undergo_48 : decode cX0_undergo 48 = .ok (.aload_n 0, 1) := by decide +kernel
theorem dX0_undergo_49 : decode cX0_undergo 49 = .ok (.getfield 18, 3) := by decide +kernel
theorem dX0_undergo_52 : decode cX0_undergo 52 = .ok (.iload_n 3, 1) := by decide +kernel
theorem dX0_undergo_53 : decode cX0_undergo 53 = .ok (.iaload, 1) := by decide +kernel
theorem dX0_undergo_54 : decode cX0_undergo 54 = .ok (.iload 4, 2) := by decide +kernel
theorem dX0_undergo_56 : decode cX0_undergo 56 = .ok (.iadd, 1) := by decide +kernel
theorem dX0_undergo_57 : decode cX0_undergo 57 = .ok (.invokestatic 78, 3) := by decide +kernel
theorem dX0_undergo_60 : decode cX0_undergo 60 = .ok (.iastore, 1) := by decide +kernel
theorem dX0_undergo_61 : decode cX0_undergo 61 = .ok (.goto 38, 3) := by decide +kernel
theorem dX0_undergo_64 : decode cX0_undergo 64 = .ok (.iload_n 2, 1) := by decide +kernel
theorem dX0_undergo_65 : decode cX0_undergo 65 = .ok (.iconst 2, 1) := by decide +kernel
theorem dX0_undergo_66 : decode cX0_undergo 66 = .ok (.if_icmp .ne 25, 3) := by decide +kernel
theorem dX0_undergo_69 : decode cX0_undergo 69 = .ok (.aload_n 0, 1) := by decide +kernel
theorem dX0_undergo_70 : decode cX0_undergo 70 = .ok (.getfield 18, 3) := by decide +kernel
theorem dX0_undergo_73 : decode cX0_undergo 73 = .ok (.iload_n 3, 1) := by decide +kernel
theorem dX0_undergo_74 : decode cX0_undergo 74 = .ok (.iconst 0, 1) := by decide +kernel
theorem dX0_undergo_75 : decode cX0_undergo 75 = .ok (.aload_n 0, 1) := by decide +kernel
theorem dX0_undergo_76 : decode cX0_undergo 76 = .ok (.getfield 18, 3) := by decide +kernel
theorem dX0_undergo_79 : decode cX0_undergo 79 = .ok (.iload_n 3, 1) := by decide +kernel
theorem dX0_undergo_80 : decode cX0_undergo 80 = .ok (.iaload, 1) := by decide +kernel
theorem dX0_undergo_81 : decode cX0_undergo 81 = .ok (.iload 4, 2) := by decide +kernel
theorem dX0_undergo_83 : decode cX0_undergo 83 = .ok (.isub, 1) := by decide +kernel
theorem dX0_undergo_84 : decode cX0_undergo 84 = .ok (.invokestatic 67, 3) := by decide +kernel
theorem dX0_undergo_87 : decode cX0_undergo 87 = .ok (.iastore, 1) := by decide +kernel
theorem dX0_undergo_88 : decode cX0_undergo 88 = .ok (.goto 11, 3) := by decide +kernel
theorem dX0_undergo_91 : decode cX0_undergo 91 = .ok (.aload_n 0, 1) := by decide +kernel
theorem dX0_undergo_92 : decode cX0_undergo 92 = .ok (.getfield 15, 3) := by decide +kernel
theorem dX0_undergo_95 : decode cX0_undergo 95 = .ok (.iload_n 3, 1) := by decide +kernel
theorem dX0_undergo_96 : decode cX0_undergo 96 = .ok (.iload 4, 2) := by decide +kernel
theorem dX0_undergo_98 : decode cX0_undergo 98 = .ok (.iastore, 1) := by decide +kernel
theorem dX0_undergo_99 : decode cX0_undergo 99 = .ok (.return_, 1) := by decide +kernel
theorem dX0_told_0 : decode cX0_told 0 = .ok (.iload_n 2, 1) := by decide +kernel
theorem dX0_told_1 : decode cX0_told 1 = .ok (.tableswitch 75 0 4 #[35, 42, 49, 56, 68], 35) := by decide +kernel
theorem dX0_told_36 : decode cX0_told 36 = .ok (.aload_n 0, 1) := by decide +kernel
theorem dX0_told_37 : decode cX0_told 37 = .ok (.getfield 9, 3) := by decide +kernel
theorem dX0_told_40 : decode cX0_told 40 = .ok (.iload_n 1, 1) := by decide +kernel
theorem dX0_told_41 : decode cX0_told 41 = .ok (.iaload, 1) := by decide +kernel
theorem dX0_told_42 : decode cX0_told 42 = .ok (.ireturn, 1) := by decide +kernel
theorem dX0_told_43 : decode cX0_told 43 = .ok (.aload_n 0, 1) := by decide +kernel
theorem dX0_told_44 : decode cX0_told 44 = .ok (.getfield 15, 3) := by decide +kernel
theorem dX0_told_47 : decode cX0_told 47 = .ok (.iload_n 1, 1) := by decide +kernel
theorem dX0_told_48 : decode cX0_told 48 = .ok (.iaload, 1) := by decide +kernel
theorem dX0_told_49 : decode cX0_told 49 = .ok (.ireturn, 1) := by decide +kernel
theorem dX0_told_50 : decode cX0_told 50 = .ok (.aload_n 0, 1) := by decide +kernel
theorem dX0_told_51 : decode cX0_told 51 = .ok (.getfield 18, 3) := by decide +kernel
theorem dX0_told_54 : decode cX0_told 54 = .ok (.iload_n 1, 1) := by decide +kernel
theorem dX0_told_55 : decode cX0_told 55 = .ok (.iaload, 1) := by decide +kernel
theorem dX0_told_56 : decode cX0_told 56 = .ok (.ireturn, 1) := by decide +kernel
theorem dX0_told_57 : decode cX0_told 57 = .ok (.aload_n 0, 1) := by decide +kernel
theorem dX0_told_58 : decode cX0_told 58 = .ok (.iload_n 1, 1) := by decide +kernel
theorem dX0_told_59 : decode cX0_told 59 = .ok (.aload_n 0, 1) := by decide +kernel
theorem dX0_told_60 : decode cX0_told 60 = .ok (.getfield 18, 3) := by decide +kernel
theorem dX0_told_63 : decode cX0_told 63 = .ok (.iload_n 1, 1) := by decide +kernel
theorem dX0_told_64 : decode cX0_told 64 = .ok (.iaload, 1) := by decide +kernel
theorem dX0_told_65 : decode cX0_told 65 = .ok (.invokevirtual 53, 3) := by decide +kernel
theorem dX0_told_68 : decode cX0_told 68 = .ok (.ireturn, 1) := by decide +kernel
theorem dX0_told_69 : decode cX0_told 69 = .ok (.aload_n 0, 1) := by decide +kernel
theorem dX0_told_70 : decode cX0_told 70 = .ok (.getfield 21, 3) := by decide +kernel
theorem dX0_told_73 : decode cX0_told 73 = .ok (.iload_n 1, 1) := by decide +kernel
theorem dX0_told_74 : decode cX0_told 74 = .ok (.iaload, 1) := by decide +kernel
theorem dX0_told_75 : decode cX0_told 75 = .ok (.ireturn, 1) := by decide +kernel
theorem dX0_told_76 : decode cX0_told 76 = .ok (.aload_n 0, 1) := by decide +kernel
theorem dX0_told_77 : decode cX0_told 77 = .ok (.iload_n 1, 1) := by decide +kernel
theorem dX0_told_78 : decode cX0_told 78 = .ok (.invokevirtual 46, 3) := by decide +kernel
theorem dX0_told_81 : decode cX0_told 81 = .ok (.ireturn, 1) := by decide +kernel
theorem dX0_howManyOf_0 : decode cX0_howManyOf 0 = .ok (.iconst 0, 1) := by decide +kernel
theorem dX0_howManyOf_1 : decode cX0_howManyOf 1 = .ok (.istore_n 2, 1) := by decide +kernel
theorem dX0_howManyOf_2 : decode cX0_howManyOf 2 = .ok (.iconst 0, 1) := by decide +kernel
theorem dX0_howManyOf_3 : decode cX0_howManyOf 3 = .ok (.istore_n 3, 1) := by decide +kernel
theorem dX0_howManyOf_4 : decode cX0_howManyOf 4 = .ok (.iload_n 3, 1) := by decide +kernel
theorem dX0_howManyOf_5 : decode cX0_howManyOf 5 = .ok (.aload_n 0, 1) := by decide +kernel
theorem dX0_howManyOf_6 : decode cX0_howManyOf 6 = .ok (.getfield 24, 3) := by decide +kernel
theorem dX0_howManyOf_9 : decode cX0_howManyOf 9 = .ok (.if_icmp .ge 25, 3) := by decide +kernel
theorem dX0_howManyOf_12 : decode cX0_howManyOf 12 = .ok (.aload_n 0, 1) := by decide +kernel
theorem dX0_howManyOf_13 : decode cX0_howManyOf 13 = .ok (.getfield 9, 3) := by decide +kernel
theorem dX0_howManyOf_16 : decode cX0_howManyOf 16 = .ok (.iload_n 3, 1) := by decide +kernel
theorem dX0_howManyOf_17 : decode cX0_howManyOf 17 = .ok (.iaload, 1) := by decide +kernel
theorem dX0_howManyOf_18 : decode cX0_howManyOf 18 = .ok (.iload_n 1, 1) := by decide +kernel
theorem dX0_howManyOf_19 : decode cX0_howManyOf 19 = .ok (.invokestatic 90, 3) := by decide +kernel
theorem dX0_howManyOf_22 : decode cX0_howManyOf 22 = .ok (.ifCond .eq 6, 3) := by decide +kernel
theorem dX0_howManyOf_25 : decode cX0_howManyOf 25 = .ok (.iinc 2 1, 3) := by decide +kernel
theorem dX0_howManyOf_28 : decode cX0_howManyOf 28 = .ok (.iinc 3 1, 3) := by decide +kernel
theorem dX0_howManyOf_31 : decode cX0_howManyOf 31 = .ok (.goto (-27), 3) := by decide +kernel
theorem dX0_howManyOf_34 : decode cX0_howManyOf 34 = .ok (.iload_n 2, 1) := by decide +kernel
theorem dX0_howManyOf_35 : decode cX0_howManyOf 35 = .ok (.ireturn, 1) := by decide +kernel
theorem fl_X0_9 : FLk RX0 9 0 0 := Or.inl (in_gd (i := 59) (by decide +kernel) rfl)
theorem fl_X0_15 : FLk RX0 15 0 1 := Or.inl (in_gd (i := 61) (by decide +kernel) rfl)
theorem fl_X0_18 : FLk RX0 18 0 2 := Or.inl (in_gd (i := 63) (by decide +kernel) rfl)
theorem fl_X0_21 : FLk RX0 21 0 3 := Or.inl (in_gd (i := 65) (by decide +kernel) rfl)
theorem fl_X0_24 : FLk RX0 24 0 4 := Or.inl (in_gd (i := 67) (by decide +kernel) rfl)
theorem fl_X0_28 : FLk RX0 28 0 5 := Or.inl (in_gd (i := 69) (by decide +kernel) rfl)
theorem fl_X0_31 : FLk RX0 31 0 6 := Or.inl (in_gd (i := 71) (by decide +kernel) rfl)
theorem jl_X0_34 : Cond.methodLink RX0 34 arraycopyName ∈ gd_tbl := in_gd (i := 225) (by decide +kernel) rfl
theorem jl_X0_40 : Cond.methodLink RX0 40 Lib.Math.abs.name ∈ gd_tbl := in_gd (i := 244) (by decide +kernel) rfl
theorem mt_X1_fearfulBoldness : Cond.static yX1_fearfulBoldness ∈ gd_tbl ∧ Cond.initialized yX1_fearfulBoldness.cls ∈ gd_tbl ∧ Cond.code yX1_fearfulBoldness cX1_fearfulBoldness 1 (some .int) ∈ gd_tbl := ⟨in_gd (i := 251) (by decide +kernel) rfl, in_gd (i := 36) (by decide +kernel) rfl, in_gd (i := 252) (by decide +kernel) rfl⟩
theorem yo_X1_fearfulBoldness : yOk yX1_fearfulBoldness 1 := ⟨by decide, by decide, by decide +kernel⟩
theorem l_X1_282 : mlS RX1 282 yX1_fearfulBoldness cX1_fearfulBoldness 1 (some .int) := ⟨in_gd (i := 250) (by decide +kernel) rfl, mt_X1_fearfulBoldness⟩
theorem mt_X1_betBoldness : Cond.static yX1_betBoldness ∈ gd_tbl ∧ Cond.initialized yX1_betBoldness.cls ∈ gd_tbl ∧ Cond.code yX1_betBoldness cX1_betBoldness 1 (some .int) ∈ gd_tbl := ⟨in_gd (i := 254) (by decide +kernel) rfl, in_gd (i := 36) (by decide +kernel) rfl, in_gd (i := 255) (by decide +kernel) rfl⟩
theorem yo_X1_betBoldness : yOk yX1_betBoldness 1 := ⟨by decide, by decide, by decide +kernel⟩
theorem l_X1_285 : mlS RX1 285 yX1_betBoldness cX1_betBoldness 1 (some .int) := ⟨in_gd (i := 253) (by decide +kernel) rfl, mt_X1_betBoldness⟩
theorem jl_X1_288 : Cond.methodLink RX1 288 Lib.Math.max.name ∈ gd_tbl := in_gd (i := 256) (by decide +kernel) rfl
theorem mt_X0_farOf : (Cond.instanceMethod yX0_farOf ∈ gd_tbl ∧ Cond.selects yX0_farOf.cls yX0_farOf yX0_farOf ∈ gd_tbl) ∧ Cond.initialized yX0_farOf.cls ∈ gd_tbl ∧ Cond.code yX0_farOf cX0_farOf 2 (some .int) ∈ gd_tbl := ⟨⟨in_gd (i := 242) (by decide +kernel) rfl, in_gd (i := 11) (by decide +kernel) rfl⟩, in_gd (i := 37) (by decide +kernel) rfl, in_gd (i := 243) (by decide +kernel) rfl⟩
theorem yo_X0_farOf : yOk yX0_farOf 1 := ⟨by decide, by decide, by decide +kernel⟩
theorem l_X0_46 : mlV RX0 46 yX0_farOf cX0_farOf 2 (some .int) := ⟨in_gd (i := 240) (by decide +kernel) rfl, mt_X0_farOf⟩
theorem mt_X1_boldness : Cond.static yX1_boldness ∈ gd_tbl ∧ Cond.initialized yX1_boldness.cls ∈ gd_tbl ∧ Cond.code yX1_boldness cX1_boldness 4 (some .int) ∈ gd_tbl := ⟨in_gd (i := 248) (by decide +kernel) rfl, in_gd (i := 36) (by decide +kernel) rfl, in_gd (i := 249) (by decide +kernel) rfl⟩
theorem yo_X1_boldness : yOk yX1_boldness 4 := ⟨by decide, by decide, by decide +kernel⟩
theorem l_X0_49 : mlN RX0 49 yX1_boldness cX1_boldness 4 (some .int) "DareFord" := ⟨in_ns (i := 247) (by decide +kernel) rfl, mt_X1_boldness⟩
theorem mt_X0_isBehind : (Cond.instanceMethod yX0_isBehind ∈ gd_tbl ∧ Cond.selects yX0_isBehind.cls yX0_isBehind yX0_isBehind ∈ gd_tbl) ∧ Cond.initialized yX0_isBehind.cls ∈ gd_tbl ∧ Cond.code yX0_isBehind cX0_isBehind 3 (some .boolean) ∈ gd_tbl := ⟨⟨in_gd (i := 261) (by decide +kernel) rfl, in_gd (i := 12) (by decide +kernel) rfl⟩, in_gd (i := 37) (by decide +kernel) rfl, in_gd (i := 262) (by decide +kernel) rfl⟩
theorem yo_X0_isBehind : yOk yX0_isBehind 2 := ⟨by decide, by decide, by decide +kernel⟩
theorem l_X0_57 : mlV RX0 57 yX0_isBehind cX0_isBehind 3 (some .boolean) := ⟨in_gd (i := 259) (by decide +kernel) rfl, mt_X0_isBehind⟩
theorem mt_X0_boldnessAt : (Cond.instanceMethod yX0_boldnessAt ∈ gd_tbl ∧ Cond.selects yX0_boldnessAt.cls yX0_boldnessAt yX0_boldnessAt ∈ gd_tbl) ∧ Cond.initialized yX0_boldnessAt.cls ∈ gd_tbl ∧ Cond.code yX0_boldnessAt cX0_boldnessAt 3 (some .int) ∈ gd_tbl := ⟨⟨in_gd (i := 238) (by decide +kernel) rfl, in_gd (i := 10) (by decide +kernel) rfl⟩, in_gd (i := 37) (by decide +kernel) rfl, in_gd (i := 239) (by decide +kernel) rfl⟩
theorem yo_X0_boldnessAt : yOk yX0_boldnessAt 2 := ⟨by decide, by decide, by decide +kernel⟩
theorem l_X0_53 : mlV RX0 53 yX0_boldnessAt cX0_boldnessAt 3 (some .int) := ⟨in_gd (i := 236) (by decide +kernel) rfl, mt_X0_boldnessAt⟩
theorem mt_X1_isOf : Cond.static yX1_isOf ∈ gd_tbl ∧ Cond.initialized yX1_isOf.cls ∈ gd_tbl ∧ Cond.code yX1_isOf cX1_isOf 2 (some .boolean) ∈ gd_tbl := ⟨in_gd (i := 283) (by decide +kernel) rfl, in_gd (i := 36) (by decide +kernel) rfl, in_gd (i := 284) (by decide +kernel) rfl⟩
theorem yo_X1_isOf : yOk yX1_isOf 2 := ⟨by decide, by decide, by decide +kernel⟩
theorem l_X1_138 : mlS RX1 138 yX1_isOf cX1_isOf 2 (some .boolean) := ⟨in_gd (i := 282) (by decide +kernel) rfl, mt_X1_isOf⟩
theorem mt_X0_holder : (Cond.instanceMethod yX0_holder ∈ gd_tbl ∧ Cond.selects yX0_holder.cls yX0_holder yX0_holder ∈ gd_tbl) ∧ Cond.initialized yX0_holder.cls ∈ gd_tbl ∧ Cond.code yX0_holder cX0_holder 6 (some .int) ∈ gd_tbl := ⟨⟨in_gd (i := 234) (by decide +kernel) rfl, in_gd (i := 9) (by decide +kernel) rfl⟩, in_gd (i := 37) (by decide +kernel) rfl, in_gd (i := 235) (by decide +kernel) rfl⟩
theorem yo_X0_holder : yOk yX0_holder 1 := ⟨by decide, by decide, by decide +kernel⟩
theorem l_X0_61 : mlV RX0 61 yX0_holder cX0_holder 6 (some .int) := ⟨in_gd (i := 278) (by decide +kernel) rfl, mt_X0_holder⟩
theorem mt_X0_has : (Cond.instanceMethod yX0_has ∈ gd_tbl ∧ Cond.selects yX0_has.cls yX0_has yX0_has ∈ gd_tbl) ∧ Cond.initialized yX0_has.cls ∈ gd_tbl ∧ Cond.code yX0_has cX0_has 2 (some .boolean) ∈ gd_tbl := ⟨⟨in_gd (i := 288) (by decide +kernel) rfl, in_gd (i := 16) (by decide +kernel) rfl⟩, in_gd (i := 37) (by decide +kernel) rfl, in_gd (i := 289) (by decide +kernel) rfl⟩
theorem yo_X0_has : yOk yX0_has 1 := ⟨by decide, by decide, by decide +kernel⟩
theorem l_X0_70 : mlV RX0 70 yX0_has cX0_has 2 (some .boolean) := ⟨in_gd (i := 286) (by decide +kernel) rfl, mt_X0_has⟩
theorem jl_X0_67 : Cond.methodLink RX0 67 Lib.Math.max.name ∈ gd_tbl := in_gd (i := 285) (by decide +kernel) rfl
theorem mt_X1_fading : Cond.static yX1_fading ∈ gd_tbl ∧ Cond.initialized yX1_fading.cls ∈ gd_tbl ∧ Cond.code yX1_fading cX1_fading 1 (some .int) ∈ gd_tbl := ⟨in_gd (i := 280) (by decide +kernel) rfl, in_gd (i := 36) (by decide +kernel) rfl, in_gd (i := 281) (by decide +kernel) rfl⟩
theorem yo_X1_fading : yOk yX1_fading 1 := ⟨by decide, by decide, by decide +kernel⟩
theorem l_X0_64 : mlN RX0 64 yX1_fading cX1_fading 1 (some .int) "DareFord" := ⟨in_ns (i := 279) (by decide +kernel) rfl, mt_X1_fading⟩
theorem jl_X0_78 : Cond.methodLink RX0 78 Lib.Math.min.name ∈ gd_tbl := in_gd (i := 290) (by decide +kernel) rfl
theorem mt_X0_passNight : (Cond.instanceMethod yX0_passNight ∈ gd_tbl ∧ Cond.selects yX0_passNight.cls yX0_passNight yX0_passNight ∈ gd_tbl) ∧ Cond.initialized yX0_passNight.cls ∈ gd_tbl ∧ Cond.code yX0_passNight cX0_passNight 4 (some .int) ∈ gd_tbl := ⟨⟨in_gd (i := 276) (by decide +kernel) rfl, in_gd (i := 15) (by decide +kernel) rfl⟩, in_gd (i := 37) (by decide +kernel) rfl, in_gd (i := 277) (by decide +kernel) rfl⟩
theorem yo_X0_passNight : yOk yX0_passNight 0 := ⟨by decide, by decide, by decide +kernel⟩
theorem l_X0_74 : mlV RX0 74 yX0_passNight cX0_passNight 4 (some .int) := ⟨in_gd (i := 274) (by decide +kernel) rfl, mt_X0_passNight⟩
theorem l_X0_90 : mlN RX0 90 yX1_isOf cX1_isOf 2 (some .boolean) "DareFord" := ⟨in_ns (i := 490) (by decide +kernel) rfl, mt_X1_isOf⟩
def fX0_become (b : Nat) (p1 : Nat) (μ : Mem) : Option Mem :=
  mlet (cpy μ (p1 + 1) 0 (b + 1) 0 6) fun μ1 =>
  mlet (cpy μ1 (p1 + 2) 0 (b + 2) 0 6) fun μ2 =>
  mlet (cpy μ2 (p1 + 3) 0 (b + 3) 0 6) fun μ3 =>
  mlet (cpy μ3 (p1 + 4) 0 (b + 4) 0 6) fun μ4 =>
  mlet (wr μ4 b 4 (μ4 p1 4)) fun μ5 =>
  mlet (wr μ5 b 5 (μ5 p1 5)) fun μ6 =>
  mlet (wr μ6 b 6 (μ6 p1 6)) fun μ7 =>
  some μ7
theorem K_X0_become {σ : Scr} {b : Nat} {p1 : Nat} (hb : isBk b) (hp1 : isBk p1)   (μ : Mem) : Con σ yX0_become cX0_become 2 (none) 2 [.inr (.inr b), .inr (.inr p1)] μ (fX0_become b p1 μ) wV := by
  refine con_of (own := RX0) (by decide) rfl (Nat.le_of_ble_eq_true rfl) ?_
  show Sim σ cX0_become 2 RX0 (2) (none) wV 0 [(0, .inr (.inr b)), (1, .inr (.inr p1))] [] μ (fX0_become b p1 μ)
  unfold fX0_become
  refine S_aload_n dX0_become_0 rfl ?_
  refine S_getR (c1 := (p1 + 1)) dX0_become_1 (kd_bk hp1) fl_X0_9 rfl rfl rfl ?_
  refine S_iconst dX0_become_4 rfl ?_
  refine S_aload_n dX0_become_5 rfl ?_
  refine S_getR (c1 := (b + 1)) dX0_become_6 (kd_bk hb) fl_X0_9 rfl rfl rfl ?_
  refine S_iconst dX0_become_9 rfl ?_
  refine S_bipush dX0_become_10 rfl (by decide) ?_
  refine S_acopyK (k1 := 0) (k2 := 0) (k3 := 6) (N0 := 6) (N1 := 6) dX0_become_12 jl_X0_34 jm_an jm_as jm_S (kd_ba (k := 0) hp1 rfl (by decide)) (bk_lt (k := 1) hp1 (by decide)) (kd_ba (k := 0) hb rfl (by decide)) (bk_lt (k := 1) hb (by decide)) rfl rfl rfl rfl jm_w (by decide) (fun μ1 => ?_)
  refine S_aload_n dX0_become_15 rfl ?_
  refine S_getR (c1 := (p1 + 2)) dX0_become_16 (kd_bk hp1) fl_X0_15 rfl rfl rfl ?_
  refine S_iconst dX0_become_19 rfl ?_
  refine S_aload_n dX0_become_20 rfl ?_
  refine S_getR (c1 := (b + 2)) dX0_become_21 (kd_bk hb) fl_X0_15 rfl rfl rfl ?_
  refine S_iconst dX0_become_24 rfl ?_
  refine S_bipush dX0_become_25 rfl (by decide) ?_
  refine S_acopyK (k1 := 0) (k2 := 0) (k3 := 6) (N0 := 6) (N1 := 6) dX0_become_27 jl_X0_34 jm_an jm_as jm_S (kd_ba (k := 1) hp1 rfl (by decide)) (bk_lt (k := 2) hp1 (by decide)) (kd_ba (k := 1) hb rfl (by decide)) (bk_lt (k := 2) hb (by decide)) rfl rfl rfl rfl jm_w (by decide) (fun μ2 => ?_)
  refine S_aload_n dX0_become_30 rfl ?_
  refine S_getR (c1 := (p1 + 3)) dX0_become_31 (kd_bk hp1) fl_X0_18 rfl rfl rfl ?_
  refine S_iconst dX0_become_34 rfl ?_
  refine S_aload_n dX0_become_35 rfl ?_
  refine S_getR (c1 := (b + 3)) dX0_become_36 (kd_bk hb) fl_X0_18 rfl rfl rfl ?_
  refine S_iconst dX0_become_39 rfl ?_
  refine S_bipush dX0_become_40 rfl (by decide) ?_
  refine S_acopyK (k1 := 0) (k2 := 0) (k3 := 6) (N0 := 6) (N1 := 6) dX0_become_42 jl_X0_34 jm_an jm_as jm_S (kd_ba (k := 2) hp1 rfl (by decide)) (bk_lt (k := 3) hp1 (by decide)) (kd_ba (k := 2) hb rfl (by decide)) (bk_lt (k := 3) hb (by decide)) rfl rfl rfl rfl jm_w (by decide) (fun μ3 => ?_)
  refine S_aload_n dX0_become_45 rfl ?_
  refine S_getR (c1 := (p1 + 4)) dX0_become_46 (kd_bk hp1) fl_X0_21 rfl rfl rfl ?_
  refine S_iconst dX0_become_49 rfl ?_
  refine S_aload_n dX0_become_50 rfl ?_
  refine S_getR (c1 := (b + 4)) dX0_become_51 (kd_bk hb) fl_X0_21 rfl rfl rfl ?_
  refine S_iconst dX0_become_54 rfl ?_
  refine S_bipush dX0_become_55 rfl (by decide) ?_
  refine S_acopyK (k1 := 0) (k2 := 0) (k3 := 6) (N0 := 6) (N1 := 6) dX0_become_57 jl_X0_34 jm_an jm_as jm_S (kd_ba (k := 3) hp1 rfl (by decide)) (bk_lt (k := 4) hp1 (by decide)) (kd_ba (k := 3) hb rfl (by decide)) (bk_lt (k := 4) hb (by decide)) rfl rfl rfl rfl jm_w (by decide) (fun μ4 => ?_)
  refine S_aload_n dX0_become_60 rfl ?_
  refine S_aload_n dX0_become_61 rfl ?_
  refine S_getI dX0_become_62 (kd_bk hp1) fl_X0_24 rfl rfl ?_
  refine S_putI dX0_become_65 (kd_bk hb) fl_X0_24 rfl rfl rfl rfl (fun μ5 => ?_)
  refine S_aload_n dX0_become_68 rfl ?_
  refine S_aload_n dX0_become_69 rfl ?_
  refine S_getI dX0_become_70 (kd_bk hp1) fl_X0_28 rfl rfl ?_
  refine S_putI dX0_become_73 (kd_bk hb) fl_X0_28 rfl rfl rfl rfl (fun μ6 => ?_)
  refine S_aload_n dX0_become_76 rfl ?_
  refine S_aload_n dX0_become_77 rfl ?_
  refine S_getI dX0_become_78 (kd_bk hp1) fl_X0_31 rfl rfl ?_
  refine S_putI dX0_become_81 (kd_bk hb) fl_X0_31 rfl rfl rfl rfl (fun μ7 => ?_)
  exact S_vret dX0_become_84 rfl rfl
def fX0_settle (b : Nat) (p1 : Int) (μ : Mem) : Option Mem :=
  mlet (wr μ b 4 0) fun μ1 =>
  mlet (wr μ1 b 5 p1) fun μ2 =>
  mlet (wr μ2 b 6 0) fun μ3 =>
  some μ3
theorem K_X0_settle {σ : Scr} {b : Nat} (hb : isBk b) (p1 : Int)  (μ : Mem) : Con σ yX0_settle cX0_settle 2 (none) 2 [.inr (.inr b), .inl p1] μ (fX0_settle b p1 μ) wV := by
  refine con_of (own := RX0) (by decide) rfl (Nat.le_of_ble_eq_true rfl) ?_
  show Sim σ cX0_settle 2 RX0 (2) (none) wV 0 [(0, .inr (.inr b)), (1, .inl p1)] [] μ (fX0_settle b p1 μ)
  unfold fX0_settle
  refine S_aload_n dX0_settle_0 rfl ?_
  refine S_iconst dX0_settle_1 rfl ?_
  refine S_putI dX0_settle_2 (kd_bk hb) fl_X0_24 rfl rfl rfl rfl (fun μ1 => ?_)
  refine S_aload_n dX0_settle_5 rfl ?_
  refine S_iload_n dX0_settle_6 rfl ?_
  refine S_putI dX0_settle_7 (kd_bk hb) fl_X0_28 rfl rfl rfl rfl (fun μ2 => ?_)
  refine S_aload_n dX0_settle_10 rfl ?_
  refine S_iconst dX0_settle_11 rfl ?_
  refine S_putI dX0_settle_12 (kd_bk hb) fl_X0_31 rfl rfl rfl rfl (fun μ3 => ?_)
  exact S_vret dX0_settle_15 rfl rfl
def fX0_add (b : Nat) (p1 : Int) (p2 : Int) (p3 : Int) (μ : Mem) : Option Mem :=
  if 6 ≤ (μ b 4) then
    some μ
  else
    grd (0 ≤ (μ b 4) ∧ (μ b 4) < 6) <|
    mlet (wr μ (b + 1) ((μ b 4)).toNat p1) fun μ1 =>
    grd (0 ≤ (μ1 b 4) ∧ (μ1 b 4) < 6) <|
    mlet (wr μ1 (b + 2) ((μ1 b 4)).toNat p2) fun μ2 =>
    grd (0 ≤ (μ2 b 4) ∧ (μ2 b 4) < 6) <|
    mlet (wr μ2 (b + 3) ((μ2 b 4)).toNat p3) fun μ3 =>
    grd (0 ≤ (μ3 b 4) ∧ (μ3 b 4) < 6) <|
    mlet (wr μ3 (b + 4) ((μ3 b 4)).toNat 0) fun μ4 =>
    mlet (wr μ4 b 4 (w32 ((μ4 b 4) + 1))) fun μ5 =>
    some μ5
theorem K_X0_add {σ : Scr} {b : Nat} (hb : isBk b) (p1 : Int) (p2 : Int) (p3 : Int)  (μ : Mem) : Con σ yX0_add cX0_add 4 (none) 2 [.inr (.inr b), .inl p1, .inl p2, .inl p3] μ (fX0_add b p1 p2 p3 μ) wV := by
  refine con_of (own := RX0) (by decide) rfl (Nat.le_of_ble_eq_true rfl) ?_
  show Sim σ cX0_add 4 RX0 (2) (none) wV 0 [(0, .inr (.inr b)), (1, .inl p1), (2, .inl p2), (3, .inl p3)] [] μ (fX0_add b p1 p2 p3 μ)
  unfold fX0_add
  refine S_aload_n dX0_add_0 rfl ?_
  refine S_getI dX0_add_1 (kd_bk hb) fl_X0_24 rfl rfl ?_
  refine S_bipush dX0_add_4 rfl (by decide) ?_
  refine S_ic_ge (tgt := 59) dX0_add_6 (by decide) (fun h6 => ?_) (fun h6 => ?_)
  · exact S_vret dX0_add_59 rfl rfl
  · refine S_aload_n dX0_add_9 rfl ?_
    refine S_getR (c1 := (b + 1)) dX0_add_10 (kd_bk hb) fl_X0_9 rfl rfl rfl ?_
    refine S_aload_n dX0_add_13 rfl ?_
    refine S_getI dX0_add_14 (kd_bk hb) fl_X0_24 rfl rfl ?_
    refine S_iload_n dX0_add_17 rfl ?_
    refine S_iast (N := 6) dX0_add_18 (kd_ba (k := 0) hb rfl (by decide)) (bk_lt (k := 1) hb (by decide)) rfl (fun μ1 => ?_)
    refine S_aload_n dX0_add_19 rfl ?_
    refine S_getR (c1 := (b + 2)) dX0_add_20 (kd_bk hb) fl_X0_15 rfl rfl rfl ?_
    refine S_aload_n dX0_add_23 rfl ?_
    refine S_getI dX0_add_24 (kd_bk hb) fl_X0_24 rfl rfl ?_
    refine S_iload_n dX0_add_27 rfl ?_
    refine S_iast (N := 6) dX0_add_28 (kd_ba (k := 1) hb rfl (by decide)) (bk_lt (k := 2) hb (by decide)) rfl (fun μ2 => ?_)
    refine S_aload_n dX0_add_29 rfl ?_
    refine S_getR (c1 := (b + 3)) dX0_add_30 (kd_bk hb) fl_X0_18 rfl rfl rfl ?_
    refine S_aload_n dX0_add_33 rfl ?_
    refine S_getI dX0_add_34 (kd_bk hb) fl_X0_24 rfl rfl ?_
    refine S_iload_n dX0_add_37 rfl ?_
    refine S_iast (N := 6) dX0_add_38 (kd_ba (k := 2) hb rfl (by decide)) (bk_lt (k := 3) hb (by decide)) rfl (fun μ3 => ?_)
    refine S_aload_n dX0_add_39 rfl ?_
    refine S_getR (c1 := (b + 4)) dX0_add_40 (kd_bk hb) fl_X0_21 rfl rfl rfl ?_
    refine S_aload_n dX0_add_43 rfl ?_
    refine S_getI dX0_add_44 (kd_bk hb) fl_X0_24 rfl rfl ?_
    refine S_iconst dX0_add_47 rfl ?_
    refine S_iast (N := 6) dX0_add_48 (kd_ba (k := 3) hb rfl (by decide)) (bk_lt (k := 4) hb (by decide)) rfl (fun μ4 => ?_)
    refine S_aload_n dX0_add_49 rfl ?_
    refine S_dup dX0_add_50 rfl ?_
    refine S_getI dX0_add_51 (kd_bk hb) fl_X0_24 rfl rfl ?_
    refine S_iconst dX0_add_54 rfl ?_
    refine S_iadd dX0_add_55 ?_
    refine S_putI dX0_add_56 (kd_bk hb) fl_X0_24 rfl rfl rfl rfl (fun μ5 => ?_)
    exact S_vret dX0_add_59 rfl rfl
def fX0_has (b : Nat) (p1 : Int) (μ : Mem) : Option Int :=
  mlet (
    some 0
    : Option Int) fun (K1 : Option Int) =>
  if p1 < 0 then
    K1
  else
    if (μ b 4) ≤ p1 then
      K1
    else
      some 1
theorem K_X0_has {σ : Scr} {b : Nat} (hb : isBk b) (p1 : Int)  (μ : Mem) : Con σ yX0_has cX0_has 2 (some .boolean) 2 [.inr (.inr b), .inl p1] μ (fX0_has b p1 μ) (rI μ) := by
  refine con_of (own := RX0) (by decide) rfl (Nat.le_of_ble_eq_true rfl) ?_
  show Sim σ cX0_has 2 RX0 (2) (some .boolean) (rI μ) 0 [(0, .inr (.inr b)), (1, .inl p1)] [] μ (fX0_has b p1 μ)
  unfold fX0_has
  refine S_iload_n dX0_has_0 rfl ?_
  refine S_jn (fun (K1 : Option Int) => Sim σ cX0_has 2 RX0 (2) (some .boolean) (rI μ) 16 [] [] μ K1) ?_ (fun K1 hK1 => ?_)
  · skip
    refine S_iconst dX0_has_16 rfl ?_
    exact S_zret dX0_has_17 rfl (by decide) rfl
  refine S_if_lt (tgt := 16) dX0_has_1 (by decide) (fun h3 => ?_) (fun h3 => ?_)
  · exact S_sub [] rfl (hK1)
  · refine S_iload_n dX0_has_4 rfl ?_
    refine S_aload_n dX0_has_5 rfl ?_
    refine S_getI dX0_has_6 (kd_bk hb) fl_X0_24 rfl rfl ?_
    refine S_ic_ge (tgt := 16) dX0_has_9 (by decide) (fun h2 => ?_) (fun h2 => ?_)
    · exact S_sub [] rfl (hK1)
    · refine S_iconst dX0_has_12 rfl ?_
      refine S_goto (tgt := 17) dX0_has_13 (by decide) ?_
      exact S_zret dX0_has_17 rfl (by decide) rfl
def fX0_farOf (b : Nat) (p1 : Int) (μ : Mem) : Option Int :=
  grd (0 ≤ p1 ∧ p1 < 6) <|
  some (mabs (w32 ((μ b 5) - (μ (b + 2) (p1).toNat))))
theorem K_X0_farOf {σ : Scr} {b : Nat} (hb : isBk b) (p1 : Int)  (μ : Mem) : Con σ yX0_farOf cX0_farOf 2 (some .int) 2 [.inr (.inr b), .inl p1] μ (fX0_farOf b p1 μ) (rI μ) := by
  refine con_of (own := RX0) (by decide) rfl (Nat.le_of_ble_eq_true rfl) ?_
  show Sim σ cX0_farOf 2 RX0 (2) (some .int) (rI μ) 0 [(0, .inr (.inr b)), (1, .inl p1)] [] μ (fX0_farOf b p1 μ)
  unfold fX0_farOf
  refine S_aload_n dX0_farOf_0 rfl ?_
  refine S_getI dX0_farOf_1 (kd_bk hb) fl_X0_28 rfl rfl ?_
  refine S_aload_n dX0_farOf_4 rfl ?_
  refine S_getR (c1 := (b + 2)) dX0_farOf_5 (kd_bk hb) fl_X0_15 rfl rfl rfl ?_
  refine S_iload_n dX0_farOf_8 rfl ?_
  refine S_iald (N := 6) dX0_farOf_9 (kd_ba (k := 1) hb rfl (by decide)) (bk_lt (k := 2) hb (by decide)) rfl ?_
  refine S_isub dX0_farOf_10 ?_
  refine S_mabs dX0_farOf_11 jl_X0_40 jm_abs jm_M jc_abs rfl rfl ?_
  exact S_iret dX0_farOf_14 rfl rfl
def fX1_betBoldness (p1 : Int) (μ : Mem) : Option Int :=
  if 3 ≤ p1 then
    some 3
  else
    some p1
theorem K_X1_betBoldness {σ : Scr}  (p1 : Int)  (μ : Mem) : Con σ yX1_betBoldness cX1_betBoldness 1 (some .int) 2 [.inl p1] μ (fX1_betBoldness p1 μ) (rI μ) := by
  refine con_of (own := RX1) (by decide) rfl (Nat.le_of_ble_eq_true rfl) ?_
  show Sim σ cX1_betBoldness 1 RX1 (2) (some .int) (rI μ) 0 [(0, .inl p1)] [] μ (fX1_betBoldness p1 μ)
  unfold fX1_betBoldness
  refine S_iload_n dX1_betBoldness_0 rfl ?_
  refine S_iconst dX1_betBoldness_1 rfl ?_
  refine S_ic_ge (tgt := 9) dX1_betBoldness_2 (by decide) (fun h1 => ?_) (fun h1 => ?_)
  · refine S_iconst dX1_betBoldness_9 rfl ?_
    exact S_iret dX1_betBoldness_10 rfl rfl
  · refine S_iload_n dX1_betBoldness_5 rfl ?_
    refine S_goto (tgt := 10) dX1_betBoldness_6 (by decide) ?_
    exact S_iret dX1_betBoldness_10 rfl rfl
def fX1_fearfulBoldness (p1 : Int) (μ : Mem) : Option Int :=
  if 5 ≤ p1 then
    some p1
  else
    some 0
theorem K_X1_fearfulBoldness {σ : Scr}  (p1 : Int)  (μ : Mem) : Con σ yX1_fearfulBoldness cX1_fearfulBoldness 1 (some .int) 2 [.inl p1] μ (fX1_fearfulBoldness p1 μ) (rI μ) := by
  refine con_of (own := RX1) (by decide) rfl (Nat.le_of_ble_eq_true rfl) ?_
  show Sim σ cX1_fearfulBoldness 1 RX1 (2) (some .int) (rI μ) 0 [(0, .inl p1)] [] μ (fX1_fearfulBoldness p1 μ)
  unfold fX1_fearfulBoldness
  refine S_iload_n dX1_fearfulBoldness_0 rfl ?_
  refine S_iconst dX1_fearfulBoldness_1 rfl ?_
  refine S_ic_ge (tgt := 9) dX1_fearfulBoldness_2 (by decide) (fun h1 => ?_) (fun h1 => ?_)
  · refine S_iload_n dX1_fearfulBoldness_9 rfl ?_
    exact S_iret dX1_fearfulBoldness_10 rfl rfl
  · refine S_iconst dX1_fearfulBoldness_5 rfl ?_
    refine S_goto (tgt := 10) dX1_fearfulBoldness_6 (by decide) ?_
    exact S_iret dX1_fearfulBoldness_10 rfl rfl
def fX1_boldness (p1 : Int) (p2 : Int) (p3 : Int) (p4 : Int) (μ : Mem) : Option Int :=
  if p1 = 1 then
    if ¬ (p3.tmod 2) = 0 then
      some p2
    else
      some (w32 (2 * p2))
  else
    if p1 = 2 then
      (fX1_fearfulBoldness p2 μ).bind fun x4 =>
      some x4
    else
      if p1 = 4 then
        (fX1_betBoldness p4 μ).bind fun x6 =>
        some (w32 (p2 + x6))
      else
        if p1 = 5 then
          (fX1_fearfulBoldness p2 μ).bind fun x8 =>
          some (mmax 0 (w32 (10 - x8)))
        else
          some p2
theorem K_X1_boldness {σ : Scr}  (p1 : Int) (p2 : Int) (p3 : Int) (p4 : Int)  (μ : Mem) : Con σ yX1_boldness cX1_boldness 4 (some .int) 3 [.inl p1, .inl p2, .inl p3, .inl p4] μ (fX1_boldness p1 p2 p3 p4 μ) (rI μ) := by
  refine con_of (own := RX1) (by decide) rfl (Nat.le_of_ble_eq_true rfl) ?_
  show Sim σ cX1_boldness 4 RX1 (3) (some .int) (rI μ) 0 [(0, .inl p1), (1, .inl p2), (2, .inl p3), (3, .inl p4)] [] μ (fX1_boldness p1 p2 p3 p4 μ)
  unfold fX1_boldness
  refine S_iload_n dX1_boldness_0 rfl ?_
  refine S_if (fun h1 => ?_) (fun h1 => ?_)
  · refine S_tsIn (n := 1) (tgt := 36) dX1_boldness_1 h1 (by decide) (by decide) rfl (by decide) ?_
    refine S_iload_n dX1_boldness_36 rfl ?_
    refine S_iconst dX1_boldness_37 rfl ?_
    refine S_iremK dX1_boldness_38 (by decide) ?_
    refine S_if_ne (tgt := 48) dX1_boldness_39 (by decide) (fun h2 => ?_) (fun h2 => ?_)
    · refine S_iload_n dX1_boldness_48 rfl ?_
      exact S_iret dX1_boldness_49 rfl rfl
    · refine S_iconst dX1_boldness_42 rfl ?_
      refine S_iload_n dX1_boldness_43 rfl ?_
      refine S_imul dX1_boldness_44 ?_
      refine S_goto (tgt := 49) dX1_boldness_45 (by decide) ?_
      exact S_iret dX1_boldness_49 rfl rfl
  · refine S_if (fun h3 => ?_) (fun h3 => ?_)
    · refine S_tsIn (n := 2) (tgt := 50) dX1_boldness_1 h3 (by decide) (by decide) rfl (by decide) ?_
      refine S_iload_n dX1_boldness_50 rfl ?_
      refine S_callS_I dX1_boldness_51 [.inl p2] (K_X1_fearfulBoldness p2 μ) l_X1_282 yo_X1_fearfulBoldness rfl rfl rfl (fun x4 => ?_)
      exact S_iret dX1_boldness_54 rfl rfl
    · refine S_if (fun h5 => ?_) (fun h5 => ?_)
      · refine S_tsIn (n := 4) (tgt := 55) dX1_boldness_1 h5 (by decide) (by decide) rfl (by decide) ?_
        refine S_iload_n dX1_boldness_55 rfl ?_
        refine S_iload_n dX1_boldness_56 rfl ?_
        refine S_callS_I dX1_boldness_57 [.inl p4] (K_X1_betBoldness p4 μ) l_X1_285 yo_X1_betBoldness rfl rfl rfl (fun x6 => ?_)
        refine S_iadd dX1_boldness_60 ?_
        exact S_iret dX1_boldness_61 rfl rfl
      · refine S_if (fun h7 => ?_) (fun h7 => ?_)
        · refine S_tsIn (n := 5) (tgt := 62) dX1_boldness_1 h7 (by decide) (by decide) rfl (by decide) ?_
          refine S_iconst dX1_boldness_62 rfl ?_
          refine S_bipush dX1_boldness_63 rfl (by decide) ?_
          refine S_iload_n dX1_boldness_65 rfl ?_
          refine S_callS_I dX1_boldness_66 [.inl p2] (K_X1_fearfulBoldness p2 μ) l_X1_282 yo_X1_fearfulBoldness rfl rfl rfl (fun x8 => ?_)
          refine S_isub dX1_boldness_69 ?_
          refine S_mmax dX1_boldness_70 jl_X1_288 jm_max jm_M jc_max rfl rfl ?_
          exact S_iret dX1_boldness_73 rfl rfl
        · refine S_tsD (tgt := 74) [1, 2, 4, 5] dX1_boldness_1 (by decide) (by decide) (by intro v9 h9 e9; simp only [List.mem_cons, List.not_mem_nil, or_false] at h9; omega) ?_
          refine S_iload_n dX1_boldness_74 rfl ?_
          exact S_iret dX1_boldness_75 rfl rfl
def fX0_boldnessAt (b : Nat) (p1 : Int) (p2 : Int) (μ : Mem) : Option Int :=
  grd (0 ≤ p1 ∧ p1 < 6) <|
  (fX0_farOf b p1 μ).bind fun x1 =>
  (fX1_boldness (μ (b + 1) (p1).toNat) p2 (μ b 6) x1 μ).bind fun x2 =>
  some x2
theorem K_X0_boldnessAt {σ : Scr} {b : Nat} (hb : isBk b) (p1 : Int) (p2 : Int)  (μ : Mem) : Con σ yX0_boldnessAt cX0_boldnessAt 3 (some .int) 4 [.inr (.inr b), .inl p1, .inl p2] μ (fX0_boldnessAt b p1 p2 μ) (rI μ) := by
  refine con_of (own := RX0) (by decide) rfl (Nat.le_of_ble_eq_true rfl) ?_
  show Sim σ cX0_boldnessAt 3 RX0 (4) (some .int) (rI μ) 0 [(0, .inr (.inr b)), (1, .inl p1), (2, .inl p2)] [] μ (fX0_boldnessAt b p1 p2 μ)
  unfold fX0_boldnessAt
  refine S_aload_n dX0_boldnessAt_0 rfl ?_
  refine S_getR (c1 := (b + 1)) dX0_boldnessAt_1 (kd_bk hb) fl_X0_9 rfl rfl rfl ?_
  refine S_iload_n dX0_boldnessAt_4 rfl ?_
  refine S_iald (N := 6) dX0_boldnessAt_5 (kd_ba (k := 0) hb rfl (by decide)) (bk_lt (k := 1) hb (by decide)) rfl ?_
  refine S_iload_n dX0_boldnessAt_6 rfl ?_
  refine S_aload_n dX0_boldnessAt_7 rfl ?_
  refine S_getI dX0_boldnessAt_8 (kd_bk hb) fl_X0_31 rfl rfl ?_
  refine S_aload_n dX0_boldnessAt_11 rfl ?_
  refine S_iload_n dX0_boldnessAt_12 rfl ?_
  refine S_callV_I dX0_boldnessAt_13 [.inl p1] (K_X0_farOf hb p1 μ) l_X0_46 yo_X0_farOf (kd_bk hb) rfl rfl rfl rfl (fun x1 => ?_)
  refine S_callN_I dX0_boldnessAt_16 [.inl (μ (b + 1) (p1).toNat), .inl p2, .inl (μ b 6), .inl x1] (K_X1_boldness (μ (b + 1) (p1).toNat) p2 (μ b 6) x1 μ) l_X0_49 yo_X1_boldness rfl rfl rfl (fun x2 => ?_)
  exact S_iret dX0_boldnessAt_19 rfl rfl
def fX0_isBehind (b : Nat) (p1 : Int) (p2 : Int) (μ : Mem) : Option Int :=
  (fX0_farOf b p1 μ).bind fun x1 =>
  (fX0_farOf b p2 μ).bind fun x2 =>
  if x1 = x2 then
    if p1 ≤ p2 then
      some 0
    else
      some 1
  else
    (fX0_farOf b p1 μ).bind fun x4 =>
    (fX0_farOf b p2 μ).bind fun x5 =>
    if x4 ≤ x5 then
      some 0
    else
      some 1
theorem K_X0_isBehind {σ : Scr} {b : Nat} (hb : isBk b) (p1 : Int) (p2 : Int)  (μ : Mem) : Con σ yX0_isBehind cX0_isBehind 3 (some .boolean) 3 [.inr (.inr b), .inl p1, .inl p2] μ (fX0_isBehind b p1 p2 μ) (rI μ) := by
  refine con_of (own := RX0) (by decide) rfl (Nat.le_of_ble_eq_true rfl) ?_
  show Sim σ cX0_isBehind 3 RX0 (3) (some .boolean) (rI μ) 0 [(0, .inr (.inr b)), (1, .inl p1), (2, .inl p2)] [] μ (fX0_isBehind b p1 p2 μ)
  unfold fX0_isBehind
  refine S_aload_n dX0_isBehind_0 rfl ?_
  refine S_iload_n dX0_isBehind_1 rfl ?_
  refine S_callV_I dX0_isBehind_2 [.inl p1] (K_X0_farOf hb p1 μ) l_X0_46 yo_X0_farOf (kd_bk hb) rfl rfl rfl rfl (fun x1 => ?_)
  refine S_aload_n dX0_isBehind_5 rfl ?_
  refine S_iload_n dX0_isBehind_6 rfl ?_
  refine S_callV_I dX0_isBehind_7 [.inl p2] (K_X0_farOf hb p2 μ) l_X0_46 yo_X0_farOf (kd_bk hb) rfl rfl rfl rfl (fun x2 => ?_)
  refine S_ic_eq (tgt := 34) dX0_isBehind_10 (by decide) (fun h7 => ?_) (fun h7 => ?_)
  · refine S_iload_n dX0_isBehind_34 rfl ?_
    refine S_iload_n dX0_isBehind_35 rfl ?_
    refine S_ic_le (tgt := 43) dX0_isBehind_36 (by decide) (fun h3 => ?_) (fun h3 => ?_)
    · refine S_iconst dX0_isBehind_43 rfl ?_
      exact S_zret dX0_isBehind_44 rfl (by decide) rfl
    · refine S_iconst dX0_isBehind_39 rfl ?_
      refine S_goto (tgt := 44) dX0_isBehind_40 (by decide) ?_
      exact S_zret dX0_isBehind_44 rfl (by decide) rfl
  · refine S_aload_n dX0_isBehind_13 rfl ?_
    refine S_iload_n dX0_isBehind_14 rfl ?_
    refine S_callV_I dX0_isBehind_15 [.inl p1] (K_X0_farOf hb p1 μ) l_X0_46 yo_X0_farOf (kd_bk hb) rfl rfl rfl rfl (fun x4 => ?_)
    refine S_aload_n dX0_isBehind_18 rfl ?_
    refine S_iload_n dX0_isBehind_19 rfl ?_
    refine S_callV_I dX0_isBehind_20 [.inl p2] (K_X0_farOf hb p2 μ) l_X0_46 yo_X0_farOf (kd_bk hb) rfl rfl rfl rfl (fun x5 => ?_)
    refine S_ic_le (tgt := 30) dX0_isBehind_23 (by decide) (fun h6 => ?_) (fun h6 => ?_)
    · refine S_iconst dX0_isBehind_30 rfl ?_
      refine S_goto (tgt := 44) dX0_isBehind_31 (by decide) ?_
      exact S_zret dX0_isBehind_44 rfl (by decide) rfl
    · refine S_iconst dX0_isBehind_26 rfl ?_
      refine S_goto (tgt := 44) dX0_isBehind_27 (by decide) ?_
      exact S_zret dX0_isBehind_44 rfl (by decide) rfl
def fX0_holder_L8 (μ : Mem) (b : Nat) (p1 : Int) : Nat → Int → Int → Int → Option Int
  | 0, _, _, _ => none
  | n4 + 1, x1, x2, x3 =>
    if (μ b 4) ≤ x3 then
      some x1
    else
      mlet (fun (x5 : Int) =>
        mlet (fun (x7 : Int) (x8 : Int) =>
          mlet (w32 (x3 + 1)) fun x10 =>
          fX0_holder_L8 μ b p1 n4 x7 x8 x10
          ) fun (K9 : Int → Int → Option Int) =>
        mlet (
          K9 x3 x5
          : Option Int) fun (K11 : Option Int) =>
        if x2 < x5 then
          K11
        else
          if x1 = (-9) then
            K9 x1 x2
          else
            if ¬ x5 = x2 then
              K9 x1 x2
            else
              (fX0_isBehind b x1 x3 μ).bind fun x12 =>
              if x12 = 0 then
                K9 x1 x2
              else
                K11
        ) fun (K6 : Int → Option Int) =>
      if (band (bshr p1 x3) 1) = 0 then
        grd (0 ≤ x3 ∧ x3 < 6) <|
        (fX0_boldnessAt b x3 (μ (b + 3) (x3).toNat) μ).bind fun x17 =>
        K6 x17
      else
        K6 0
def fX0_holder (b : Nat) (p1 : Int) (μ : Mem) : Option Int :=
  fX0_holder_L8 μ b p1 fuel (-9) 0 0
theorem K_X0_holder {σ : Scr} {b : Nat} (hb : isBk b) (p1 : Int)  (μ : Mem) : Con σ yX0_holder cX0_holder 6 (some .int) 5 [.inr (.inr b), .inl p1] μ (fX0_holder b p1 μ) (rI μ) := by
  refine con_of (own := RX0) (by decide) rfl (Nat.le_of_ble_eq_true rfl) ?_
  show Sim σ cX0_holder 6 RX0 (5) (some .int) (rI μ) 0 [(0, .inr (.inr b)), (1, .inl p1)] [] μ (fX0_holder b p1 μ)
  unfold fX0_holder
  refine S_bipush dX0_holder_0 rfl (by decide) ?_
  refine S_istore_n (lv' := [(2, .inl (-9)), (0, .inr (.inr b)), (1, .inl p1)]) dX0_holder_2 rfl rfl ?_
  refine S_iconst dX0_holder_3 rfl ?_
  refine S_istore_n (lv' := [(3, .inl 0), (2, .inl (-9)), (0, .inr (.inr b)), (1, .inl p1)]) dX0_holder_4 rfl rfl ?_
  refine S_iconst dX0_holder_5 rfl ?_
  refine S_istore (lv' := [(4, .inl 0), (3, .inl 0), (2, .inl (-9)), (0, .inr (.inr b)), (1, .inl p1)]) dX0_holder_6 rfl rfl ?_
  have hL8 : ∀ (n4 : Nat) (x1 : Int) (x2 : Int) (x3 : Int), Sim σ cX0_holder 6 RX0 (5) (some .int) (rI μ) 8 [(0, .inr (.inr b)), (1, .inl p1), (2, .inl x1), (3, .inl x2), (4, .inl x3)] [] μ (fX0_holder_L8 μ b p1 n4 x1 x2 x3) := by
    intro n4
    induction n4 with
    | zero =>
      intro x1 x2 x3
      exact S_none rfl
    | succ n4 ih =>
      intro x1 x2 x3
      rw [fX0_holder_L8]
      refine S_iload dX0_holder_8 rfl ?_
      refine S_aload_n dX0_holder_10 rfl ?_
      refine S_getI dX0_holder_11 (kd_bk hb) fl_X0_24 rfl rfl ?_
      refine S_ic_ge (tgt := 85) dX0_holder_14 (by decide) (fun h19 => ?_) (fun h19 => ?_)
      · refine S_iload_n dX0_holder_85 rfl ?_
        exact S_iret dX0_holder_86 rfl rfl
      · refine S_iload_n dX0_holder_17 rfl ?_
        refine S_iload dX0_holder_18 rfl ?_
        refine S_ishr dX0_holder_20 ?_
        refine S_iconst dX0_holder_21 rfl ?_
        refine S_iand dX0_holder_22 ?_
        refine S_jn (fun (K6 : Int → Option Int) => ∀ (x5 : Int), Sim σ cX0_holder 6 RX0 (5) (some .int) (rI μ) 43 [(0, .inr (.inr b)), (1, .inl p1), (2, .inl x1), (3, .inl x2), (4, .inl x3)] [.inl x5] μ (K6 x5)) ?_ (fun K6 hK6 => ?_)
        · intro x5
          refine S_istore (lv' := [(5, .inl x5), (0, .inr (.inr b)), (1, .inl p1), (2, .inl x1), (3, .inl x2), (4, .inl x3)]) dX0_holder_43 rfl rfl ?_
          refine S_iload dX0_holder_45 rfl ?_
          refine S_iload_n dX0_holder_47 rfl ?_
          refine S_jn (fun (K9 : Int → Int → Option Int) => ∀ (x7 : Int) (x8 : Int), Sim σ cX0_holder 6 RX0 (5) (some .int) (rI μ) 79 [(0, .inr (.inr b)), (1, .inl p1), (2, .inl x7), (3, .inl x8), (4, .inl x3)] [] μ (K9 x7 x8)) ?_ (fun K9 hK9 => ?_)
          · intro x7 x8
            refine S_iinc (lv' := fun x10 => [(4, .inl x10), (0, .inr (.inr b)), (1, .inl p1), (2, .inl x7), (3, .inl x8)]) dX0_holder_79 rfl rfl rfl (fun _ => rfl) (fun x10 => ?_)
            refine S_goto (tgt := 8) dX0_holder_82 (by decide) ?_
            exact S_sub [1, 2, 3, 4, 0] rfl (ih x7 x8 x10)
          refine S_jn (fun (K11 : Option Int) => Sim σ cX0_holder 6 RX0 (5) (some .int) (rI μ) 73 [(0, .inr (.inr b)), (1, .inl p1), (4, .inl x3), (5, .inl x5)] [] μ K11) ?_ (fun K11 hK11 => ?_)
          · skip
            refine S_iload dX0_holder_73 rfl ?_
            refine S_istore_n (lv' := [(2, .inl x3), (0, .inr (.inr b)), (1, .inl p1), (4, .inl x3), (5, .inl x5)]) dX0_holder_75 rfl rfl ?_
            refine S_iload dX0_holder_76 rfl ?_
            refine S_istore_n (lv' := [(3, .inl x5), (2, .inl x3), (0, .inr (.inr b)), (1, .inl p1), (4, .inl x3), (5, .inl x5)]) dX0_holder_78 rfl rfl ?_
            exact S_sub [2, 3, 1, 0, 4] rfl (hK9 x3 x5)
          refine S_ic_gt (tgt := 73) dX0_holder_48 (by decide) (fun h16 => ?_) (fun h16 => ?_)
          · exact S_sub [1, 2, 5, 0] rfl (hK11)
          · refine S_iload_n dX0_holder_51 rfl ?_
            refine S_bipush dX0_holder_52 rfl (by decide) ?_
            refine S_ic_eq (tgt := 79) dX0_holder_54 (by decide) (fun h15 => ?_) (fun h15 => ?_)
            · exact S_sub [1, 2, 3, 4, 5] rfl (hK9 x1 x2)
            · refine S_iload dX0_holder_57 rfl ?_
              refine S_iload_n dX0_holder_59 rfl ?_
              refine S_ic_ne (tgt := 79) dX0_holder_60 (by decide) (fun h14 => ?_) (fun h14 => ?_)
              · exact S_sub [1, 2, 3, 4, 5] rfl (hK9 x1 x2)
              · refine S_aload_n dX0_holder_63 rfl ?_
                refine S_iload_n dX0_holder_64 rfl ?_
                refine S_iload dX0_holder_65 rfl ?_
                refine S_callV_I dX0_holder_67 [.inl x1, .inl x3] (K_X0_isBehind hb x1 x3 μ) l_X0_57 yo_X0_isBehind (kd_bk hb) rfl rfl rfl rfl (fun x12 => ?_)
                refine S_if_eq (tgt := 79) dX0_holder_70 (by decide) (fun h13 => ?_) (fun h13 => ?_)
                · exact S_sub [1, 2, 3, 4, 5] rfl (hK9 x1 x2)
                · exact S_sub [1, 2, 5, 0] rfl (hK11)
        refine S_if_eq (tgt := 30) dX0_holder_23 (by decide) (fun h18 => ?_) (fun h18 => ?_)
        · refine S_aload_n dX0_holder_30 rfl ?_
          refine S_iload dX0_holder_31 rfl ?_
          refine S_aload_n dX0_holder_33 rfl ?_
          refine S_getR (c1 := (b + 3)) dX0_holder_34 (kd_bk hb) fl_X0_18 rfl rfl rfl ?_
          refine S_iload dX0_holder_37 rfl ?_
          refine S_iald (N := 6) dX0_holder_39 (kd_ba (k := 2) hb rfl (by decide)) (bk_lt (k := 3) hb (by decide)) rfl ?_
          refine S_callV_I dX0_holder_40 [.inl x3, .inl (μ (b + 3) (x3).toNat)] (K_X0_boldnessAt hb x3 (μ (b + 3) (x3).toNat) μ) l_X0_53 yo_X0_boldnessAt (kd_bk hb) rfl rfl rfl rfl (fun x17 => ?_)
          exact S_sub [0, 1, 2, 3, 4] rfl (hK6 x17)
        · refine S_iconst dX0_holder_26 rfl ?_
          refine S_goto (tgt := 43) dX0_holder_27 (by decide) ?_
          exact S_sub [0, 1, 2, 3, 4] rfl (hK6 0)
  exact S_sub [3, 4, 2, 1, 0] rfl (hL8 fuel (-9) 0 0)
def fX1_isOf (p1 : Int) (p2 : Int) (μ : Mem) : Option Int :=
  mlet (
    some 1
    : Option Int) fun (K1 : Option Int) =>
  if p1 = p2 then
    K1
  else
    if p2 = 0 then
      K1
    else
      mlet (
        mlet (
          some 0
          : Option Int) fun (K3 : Option Int) =>
        if ¬ p1 = 5 then
          K3
        else
          if ¬ p2 = 2 then
            K3
          else
            K1
        : Option Int) fun (K2 : Option Int) =>
      if ¬ p1 = 4 then
        K2
      else
        if p2 = 3 then
          K1
        else
          K2
theorem K_X1_isOf {σ : Scr}  (p1 : Int) (p2 : Int)  (μ : Mem) : Con σ yX1_isOf cX1_isOf 2 (some .boolean) 2 [.inl p1, .inl p2] μ (fX1_isOf p1 p2 μ) (rI μ) := by
  refine con_of (own := RX1) (by decide) rfl (Nat.le_of_ble_eq_true rfl) ?_
  show Sim σ cX1_isOf 2 RX1 (2) (some .boolean) (rI μ) 0 [(0, .inl p1), (1, .inl p2)] [] μ (fX1_isOf p1 p2 μ)
  unfold fX1_isOf
  refine S_iload_n dX1_isOf_0 rfl ?_
  refine S_iload_n dX1_isOf_1 rfl ?_
  refine S_jn (fun (K1 : Option Int) => Sim σ cX1_isOf 2 RX1 (2) (some .boolean) (rI μ) 29 [] [] μ K1) ?_ (fun K1 hK1 => ?_)
  · skip
    refine S_iconst dX1_isOf_29 rfl ?_
    refine S_goto (tgt := 34) dX1_isOf_30 (by decide) ?_
    exact S_zret dX1_isOf_34 rfl (by decide) rfl
  refine S_ic_eq (tgt := 29) dX1_isOf_2 (by decide) (fun h9 => ?_) (fun h9 => ?_)
  · exact S_sub [] rfl (hK1)
  · refine S_iload_n dX1_isOf_5 rfl ?_
    refine S_if_eq (tgt := 29) dX1_isOf_6 (by decide) (fun h8 => ?_) (fun h8 => ?_)
    · exact S_sub [] rfl (hK1)
    · refine S_iload_n dX1_isOf_9 rfl ?_
      refine S_iconst dX1_isOf_10 rfl ?_
      refine S_jn (fun (K2 : Option Int) => Sim σ cX1_isOf 2 RX1 (2) (some .boolean) (rI μ) 19 [(0, .inl p1), (1, .inl p2)] [] μ K2) ?_ (fun K2 hK2 => ?_)
      · skip
        refine S_iload_n dX1_isOf_19 rfl ?_
        refine S_iconst dX1_isOf_20 rfl ?_
        refine S_jn (fun (K3 : Option Int) => Sim σ cX1_isOf 2 RX1 (2) (some .boolean) (rI μ) 33 [] [] μ K3) ?_ (fun K3 hK3 => ?_)
        · skip
          refine S_iconst dX1_isOf_33 rfl ?_
          exact S_zret dX1_isOf_34 rfl (by decide) rfl
        refine S_ic_ne (tgt := 33) dX1_isOf_21 (by decide) (fun h5 => ?_) (fun h5 => ?_)
        · exact S_sub [] rfl (hK3)
        · refine S_iload_n dX1_isOf_24 rfl ?_
          refine S_iconst dX1_isOf_25 rfl ?_
          refine S_ic_ne (tgt := 33) dX1_isOf_26 (by decide) (fun h4 => ?_) (fun h4 => ?_)
          · exact S_sub [] rfl (hK3)
          · exact S_sub [] rfl (hK1)
      refine S_ic_ne (tgt := 19) dX1_isOf_11 (by decide) (fun h7 => ?_) (fun h7 => ?_)
      · exact S_sub [0, 1] rfl (hK2)
      · refine S_iload_n dX1_isOf_14 rfl ?_
        refine S_iconst dX1_isOf_15 rfl ?_
        refine S_ic_eq (tgt := 29) dX1_isOf_16 (by decide) (fun h6 => ?_) (fun h6 => ?_)
        · exact S_sub [] rfl (hK1)
        · exact S_sub [0, 1] rfl (hK2)
def fX1_fading (p1 : Int) (μ : Mem) : Option Int :=
  (fX1_isOf p1 3 μ).bind fun x1 =>
  if x1 = 0 then
    (fX1_isOf p1 2 μ).bind fun x2 =>
    if x2 = 0 then
      some 1
    else
      some 2
  else
    some 0
theorem K_X1_fading {σ : Scr}  (p1 : Int)  (μ : Mem) : Con σ yX1_fading cX1_fading 1 (some .int) 3 [.inl p1] μ (fX1_fading p1 μ) (rI μ) := by
  refine con_of (own := RX1) (by decide) rfl (Nat.le_of_ble_eq_true rfl) ?_
  show Sim σ cX1_fading 1 RX1 (3) (some .int) (rI μ) 0 [(0, .inl p1)] [] μ (fX1_fading p1 μ)
  unfold fX1_fading
  refine S_iload_n dX1_fading_0 rfl ?_
  refine S_iconst dX1_fading_1 rfl ?_
  refine S_callS_I dX1_fading_2 [.inl p1, .inl 3] (K_X1_isOf p1 3 μ) l_X1_138 yo_X1_isOf rfl rfl rfl (fun x1 => ?_)
  refine S_if_eq (tgt := 10) dX1_fading_5 (by decide) (fun h4 => ?_) (fun h4 => ?_)
  · refine S_iload_n dX1_fading_10 rfl ?_
    refine S_iconst dX1_fading_11 rfl ?_
    refine S_callS_I dX1_fading_12 [.inl p1, .inl 2] (K_X1_isOf p1 2 μ) l_X1_138 yo_X1_isOf rfl rfl rfl (fun x2 => ?_)
    refine S_if_eq (tgt := 22) dX1_fading_15 (by decide) (fun h3 => ?_) (fun h3 => ?_)
    · refine S_iconst dX1_fading_22 rfl ?_
      exact S_iret dX1_fading_23 rfl rfl
    · refine S_iconst dX1_fading_18 rfl ?_
      refine S_goto (tgt := 23) dX1_fading_19 (by decide) ?_
      exact S_iret dX1_fading_23 rfl rfl
  · refine S_iconst dX1_fading_8 rfl ?_
    exact S_iret dX1_fading_9 rfl rfl
def fX0_passNight_L8 (b : Nat) (K3 : Mem → Option (Int × Mem)) (x1 : Int) : Nat → Int → Mem → Option (Int × Mem)
  | 0, _, _ => none
  | n13 + 1, x11, μ12 =>
    if (μ12 b 4) ≤ x11 then
      K3 μ12
    else
      mlet (fun (x14 : Int) =>
        grd (0 ≤ x11 ∧ x11 < 6) <|
        grd (0 ≤ x11 ∧ x11 < 6) <|
        mlet (wr μ12 (b + 3) (x11).toNat (mmax 0 (w32 ((μ12 (b + 3) (x11).toNat) - x14)))) fun μ16 =>
        mlet (w32 (x11 + 1)) fun x17 =>
        fX0_passNight_L8 b K3 x1 n13 x17 μ16
        ) fun (K15 : Int → Option (Int × Mem)) =>
      if ¬ x11 = x1 then
        grd (0 ≤ x11 ∧ x11 < 6) <|
        (fX1_fading (μ12 (b + 1) (x11).toNat) μ12).bind fun x18 =>
        K15 x18
      else
        K15 2
def fX0_passNight (b : Nat) (μ : Mem) : Option (Int × Mem) :=
  (fX0_holder b 0 μ).bind fun x1 =>
  mlet (fun (μ2 : Mem) =>
    (fX0_has b x1 μ2).bind fun x4 =>
    mlet (fun (μ5 : Mem) =>
      mlet (wr μ5 b 6 (w32 ((μ5 b 6) + 1))) fun μ7 =>
      some (x1, μ7)
      ) fun (K6 : Mem → Option (Int × Mem)) =>
    if x4 = 0 then
      K6 μ2
    else
      grd (0 ≤ x1 ∧ x1 < 6) <|
      mlet (wr μ2 b 5 (μ2 (b + 2) (x1).toNat)) fun μ8 =>
      grd (0 ≤ x1 ∧ x1 < 6) <|
      grd (0 ≤ x1 ∧ x1 < 6) <|
      mlet (wr μ8 (b + 4) (x1).toNat (w32 ((μ8 (b + 4) (x1).toNat) + 1))) fun μ9 =>
      K6 μ9
    ) fun (K3 : Mem → Option (Int × Mem)) =>
  fX0_passNight_L8 b K3 x1 fuel 0 μ
theorem K_X0_passNight {σ : Scr} {b : Nat} (hb : isBk b)   (μ : Mem) : Con σ yX0_passNight cX0_passNight 4 (some .int) 6 [.inr (.inr b)] μ (fX0_passNight b μ) wI := by
  refine con_of (own := RX0) (by decide) rfl (Nat.le_of_ble_eq_true rfl) ?_
  show Sim σ cX0_passNight 4 RX0 (6) (some .int) wI 0 [(0, .inr (.inr b))] [] μ (fX0_passNight b μ)
  unfold fX0_passNight
  refine S_aload_n dX0_passNight_0 rfl ?_
  refine S_iconst dX0_passNight_1 rfl ?_
  refine S_callV_I dX0_passNight_2 [.inl 0] (K_X0_holder hb 0 μ) l_X0_61 yo_X0_holder (kd_bk hb) rfl rfl rfl rfl (fun x1 => ?_)
  refine S_istore_n (lv' := [(1, .inl x1), (0, .inr (.inr b))]) dX0_passNight_5 rfl rfl ?_
  refine S_iconst dX0_passNight_6 rfl ?_
  refine S_istore_n (lv' := [(2, .inl 0), (1, .inl x1), (0, .inr (.inr b))]) dX0_passNight_7 rfl rfl ?_
  refine S_jn (fun (K3 : Mem → Option (Int × Mem)) => ∀ (μ2 : Mem), Sim σ cX0_passNight 4 RX0 (6) (some .int) wI 59 [(0, .inr (.inr b)), (1, .inl x1)] [] μ2 (K3 μ2)) ?_ (fun K3 hK3 => ?_)
  · intro μ2
    refine S_aload_n dX0_passNight_59 rfl ?_
    refine S_iload_n dX0_passNight_60 rfl ?_
    refine S_callV_I dX0_passNight_61 [.inl x1] (K_X0_has hb x1 μ2) l_X0_70 yo_X0_has (kd_bk hb) rfl rfl rfl rfl (fun x4 => ?_)
    refine S_jn (fun (K6 : Mem → Option (Int × Mem)) => ∀ (μ5 : Mem), Sim σ cX0_passNight 4 RX0 (6) (some .int) wI 87 [(0, .inr (.inr b)), (1, .inl x1)] [] μ5 (K6 μ5)) ?_ (fun K6 hK6 => ?_)
    · intro μ5
      refine S_aload_n dX0_passNight_87 rfl ?_
      refine S_dup dX0_passNight_88 rfl ?_
      refine S_getI dX0_passNight_89 (kd_bk hb) fl_X0_31 rfl rfl ?_
      refine S_iconst dX0_passNight_92 rfl ?_
      refine S_iadd dX0_passNight_93 ?_
      refine S_putI dX0_passNight_94 (kd_bk hb) fl_X0_31 rfl rfl rfl rfl (fun μ7 => ?_)
      refine S_iload_n dX0_passNight_97 rfl ?_
      exact S_iret dX0_passNight_98 rfl rfl
    refine S_if_eq (tgt := 87) dX0_passNight_64 (by decide) (fun h10 => ?_) (fun h10 => ?_)
    · exact S_sub [0, 1] rfl (hK6 μ2)
    · refine S_aload_n dX0_passNight_67 rfl ?_
      refine S_aload_n dX0_passNight_68 rfl ?_
      refine S_getR (c1 := (b + 2)) dX0_passNight_69 (kd_bk hb) fl_X0_15 rfl rfl rfl ?_
      refine S_iload_n dX0_passNight_72 rfl ?_
      refine S_iald (N := 6) dX0_passNight_73 (kd_ba (k := 1) hb rfl (by decide)) (bk_lt (k := 2) hb (by decide)) rfl ?_
      refine S_putI dX0_passNight_74 (kd_bk hb) fl_X0_28 rfl rfl rfl rfl (fun μ8 => ?_)
      refine S_aload_n dX0_passNight_77 rfl ?_
      refine S_getR (c1 := (b + 4)) dX0_passNight_78 (kd_bk hb) fl_X0_21 rfl rfl rfl ?_
      refine S_iload_n dX0_passNight_81 rfl ?_
      refine S_dup2 dX0_passNight_82 rfl rfl ?_
      refine S_iald (N := 6) dX0_passNight_83 (kd_ba (k := 3) hb rfl (by decide)) (bk_lt (k := 4) hb (by decide)) rfl ?_
      refine S_iconst dX0_passNight_84 rfl ?_
      refine S_iadd dX0_passNight_85 ?_
      refine S_iast (N := 6) dX0_passNight_86 (kd_ba (k := 3) hb rfl (by decide)) (bk_lt (k := 4) hb (by decide)) rfl (fun μ9 => ?_)
      exact S_sub [0, 1] rfl (hK6 μ9)
  have hL8 : ∀ (n13 : Nat) (x11 : Int) (μ12 : Mem), Sim σ cX0_passNight 4 RX0 (6) (some .int) wI 8 [(0, .inr (.inr b)), (1, .inl x1), (2, .inl x11)] [] μ12 (fX0_passNight_L8 b K3 x1 n13 x11 μ12) := by
    intro n13
    induction n13 with
    | zero =>
      intro x11 μ12
      exact S_none rfl
    | succ n13 ih =>
      intro x11 μ12
      rw [fX0_passNight_L8]
      refine S_iload_n dX0_passNight_8 rfl ?_
      refine S_aload_n dX0_passNight_9 rfl ?_
      refine S_getI dX0_passNight_10 (kd_bk hb) fl_X0_24 rfl rfl ?_
      refine S_ic_ge (tgt := 59) dX0_passNight_13 (by decide) (fun h20 => ?_) (fun h20 => ?_)
      · exact S_sub [0, 1] rfl (hK3 μ12)
      · refine S_iload_n dX0_passNight_16 rfl ?_
        refine S_iload_n dX0_passNight_17 rfl ?_
        refine S_jn (fun (K15 : Int → Option (Int × Mem)) => ∀ (x14 : Int), Sim σ cX0_passNight 4 RX0 (6) (some .int) wI 34 [(0, .inr (.inr b)), (1, .inl x1), (2, .inl x11)] [.inl x14] μ12 (K15 x14)) ?_ (fun K15 hK15 => ?_)
        · intro x14
          refine S_istore_n (lv' := [(3, .inl x14), (0, .inr (.inr b)), (1, .inl x1), (2, .inl x11)]) dX0_passNight_34 rfl rfl ?_
          refine S_aload_n dX0_passNight_35 rfl ?_
          refine S_getR (c1 := (b + 3)) dX0_passNight_36 (kd_bk hb) fl_X0_18 rfl rfl rfl ?_
          refine S_iload_n dX0_passNight_39 rfl ?_
          refine S_iconst dX0_passNight_40 rfl ?_
          refine S_aload_n dX0_passNight_41 rfl ?_
          refine S_getR (c1 := (b + 3)) dX0_passNight_42 (kd_bk hb) fl_X0_18 rfl rfl rfl ?_
          refine S_iload_n dX0_passNight_45 rfl ?_
          refine S_iald (N := 6) dX0_passNight_46 (kd_ba (k := 2) hb rfl (by decide)) (bk_lt (k := 3) hb (by decide)) rfl ?_
          refine S_iload_n dX0_passNight_47 rfl ?_
          refine S_isub dX0_passNight_48 ?_
          refine S_mmax dX0_passNight_49 jl_X0_67 jm_max jm_M jc_max rfl rfl ?_
          refine S_iast (N := 6) dX0_passNight_52 (kd_ba (k := 2) hb rfl (by decide)) (bk_lt (k := 3) hb (by decide)) rfl (fun μ16 => ?_)
          refine S_iinc (lv' := fun x17 => [(2, .inl x17), (3, .inl x14), (0, .inr (.inr b)), (1, .inl x1)]) dX0_passNight_53 rfl rfl rfl (fun _ => rfl) (fun x17 => ?_)
          refine S_goto (tgt := 8) dX0_passNight_56 (by decide) ?_
          exact S_sub [2, 3, 0] rfl (ih x17 μ16)
        refine S_ic_ne (tgt := 25) dX0_passNight_18 (by decide) (fun h19 => ?_) (fun h19 => ?_)
        · refine S_aload_n dX0_passNight_25 rfl ?_
          refine S_getR (c1 := (b + 1)) dX0_passNight_26 (kd_bk hb) fl_X0_9 rfl rfl rfl ?_
          refine S_iload_n dX0_passNight_29 rfl ?_
          refine S_iald (N := 6) dX0_passNight_30 (kd_ba (k := 0) hb rfl (by decide)) (bk_lt (k := 1) hb (by decide)) rfl ?_
          refine S_callN_I dX0_passNight_31 [.inl (μ12 (b + 1) (x11).toNat)] (K_X1_fading (μ12 (b + 1) (x11).toNat) μ12) l_X0_64 yo_X1_fading rfl rfl rfl (fun x18 => ?_)
          exact S_sub [0, 1, 2] rfl (hK15 x18)
        · refine S_iconst dX0_passNight_21 rfl ?_
          refine S_goto (tgt := 34) dX0_passNight_22 (by decide) ?_
          exact S_sub [0, 1, 2] rfl (hK15 2)
  exact S_sub [2, 1, 0] rfl (hL8 fuel 0 μ)
def fX0_undergo (b : Nat) (p1 : Int) (μ : Mem) : Option Mem :=
  mlet ((band p1 3)) fun x1 =>
  mlet ((band (bshr p1 2) 7)) fun x2 =>
  mlet ((bshr p1 5)) fun x3 =>
  if ¬ x1 = 0 then
    (fX0_has b x2 μ).bind fun x4 =>
    if x4 = 0 then
      some μ
    else
      if ¬ x1 = 1 then
        if ¬ x1 = 2 then
          grd (0 ≤ x2 ∧ x2 < 6) <|
          mlet (wr μ (b + 2) (x2).toNat x3) fun μ5 =>
          some μ5
        else
          grd (0 ≤ x2 ∧ x2 < 6) <|
          grd (0 ≤ x2 ∧ x2 < 6) <|
          mlet (wr μ (b + 3) (x2).toNat (mmax 0 (w32 ((μ (b + 3) (x2).toNat) - x3)))) fun μ6 =>
          some μ6
      else
        grd (0 ≤ x2 ∧ x2 < 6) <|
        grd (0 ≤ x2 ∧ x2 < 6) <|
        mlet (wr μ (b + 3) (x2).toNat (mmin 20 (w32 ((μ (b + 3) (x2).toNat) + x3)))) fun μ8 =>
        some μ8
  else
    bnd2 (fX0_passNight b μ) fun x11 μ12 =>
    some μ12
theorem K_X0_undergo {σ : Scr} {b : Nat} (hb : isBk b) (p1 : Int)  (μ : Mem) : Con σ yX0_undergo cX0_undergo 5 (none) 7 [.inr (.inr b), .inl p1] μ (fX0_undergo b p1 μ) wV := by
  refine con_of (own := RX0) (by decide) rfl (Nat.le_of_ble_eq_true rfl) ?_
  show Sim σ cX0_undergo 5 RX0 (7) (none) wV 0 [(0, .inr (.inr b)), (1, .inl p1)] [] μ (fX0_undergo b p1 μ)
  unfold fX0_undergo
  refine S_iload_n dX0_undergo_0 rfl ?_
  refine S_iconst dX0_undergo_1 rfl ?_
  refine S_iand dX0_undergo_2 ?_
  refine S_let (fun x1 => ?_)
  refine S_istore_n (lv' := [(2, .inl x1), (0, .inr (.inr b)), (1, .inl p1)]) dX0_undergo_3 rfl rfl ?_
  refine S_iload_n dX0_undergo_4 rfl ?_
  refine S_iconst dX0_undergo_5 rfl ?_
  refine S_ishr dX0_undergo_6 ?_
  refine S_bipush dX0_undergo_7 rfl (by decide) ?_
  refine S_iand dX0_undergo_9 ?_
  refine S_let (fun x2 => ?_)
  refine S_istore_n (lv' := [(3, .inl x2), (2, .inl x1), (0, .inr (.inr b)), (1, .inl p1)]) dX0_undergo_10 rfl rfl ?_
  refine S_iload_n dX0_undergo_11 rfl ?_
  refine S_iconst dX0_undergo_12 rfl ?_
  refine S_ishr dX0_undergo_13 ?_
  refine S_let (fun x3 => ?_)
  refine S_istore (lv' := [(4, .inl x3), (3, .inl x2), (2, .inl x1), (0, .inr (.inr b)), (1, .inl p1)]) dX0_undergo_14 rfl rfl ?_
  refine S_iload_n dX0_undergo_16 rfl ?_
  refine S_if_ne (tgt := 28) dX0_undergo_17 (by decide) (fun h13 => ?_) (fun h13 => ?_)
  · refine S_aload_n dX0_undergo_28 rfl ?_
    refine S_iload_n dX0_undergo_29 rfl ?_
    refine S_callV_I dX0_undergo_30 [.inl x2] (K_X0_has hb x2 μ) l_X0_70 yo_X0_has (kd_bk hb) rfl rfl rfl rfl (fun x4 => ?_)
    refine S_if_eq (tgt := 99) dX0_undergo_33 (by decide) (fun h10 => ?_) (fun h10 => ?_)
    · exact S_vret dX0_undergo_99 rfl rfl
    · refine S_iload_n dX0_undergo_36 rfl ?_
      refine S_iconst dX0_undergo_37 rfl ?_
      refine S_ic_ne (tgt := 64) dX0_undergo_38 (by decide) (fun h9 => ?_) (fun h9 => ?_)
      · refine S_iload_n dX0_undergo_64 rfl ?_
        refine S_iconst dX0_undergo_65 rfl ?_
        refine S_ic_ne (tgt := 91) dX0_undergo_66 (by decide) (fun h7 => ?_) (fun h7 => ?_)
        · refine S_aload_n dX0_undergo_91 rfl ?_
          refine S_getR (c1 := (b + 2)) dX0_undergo_92 (kd_bk hb) fl_X0_15 rfl rfl rfl ?_
          refine S_iload_n dX0_undergo_95 rfl ?_
          refine S_iload dX0_undergo_96 rfl ?_
          refine S_iast (N := 6) dX0_undergo_98 (kd_ba (k := 1) hb rfl (by decide)) (bk_lt (k := 2) hb (by decide)) rfl (fun μ5 => ?_)
          exact S_vret dX0_undergo_99 rfl rfl
        · refine S_aload_n dX0_undergo_69 rfl ?_
          refine S_getR (c1 := (b + 3)) dX0_undergo_70 (kd_bk hb) fl_X0_18 rfl rfl rfl ?_
          refine S_iload_n dX0_undergo_73 rfl ?_
          refine S_iconst dX0_undergo_74 rfl ?_
          refine S_aload_n dX0_undergo_75 rfl ?_
          refine S_getR (c1 := (b + 3)) dX0_undergo_76 (kd_bk hb) fl_X0_18 rfl rfl rfl ?_
          refine S_iload_n dX0_undergo_79 rfl ?_
          refine S_iald (N := 6) dX0_undergo_80 (kd_ba (k := 2) hb rfl (by decide)) (bk_lt (k := 3) hb (by decide)) rfl ?_
          refine S_iload dX0_undergo_81 rfl ?_
          refine S_isub dX0_undergo_83 ?_
          refine S_mmax dX0_undergo_84 jl_X0_67 jm_max jm_M jc_max rfl rfl ?_
          refine S_iast (N := 6) dX0_undergo_87 (kd_ba (k := 2) hb rfl (by decide)) (bk_lt (k := 3) hb (by decide)) rfl (fun μ6 => ?_)
          refine S_goto (tgt := 99) dX0_undergo_88 (by decide) ?_
          exact S_vret dX0_undergo_99 rfl rfl
      · refine S_aload_n dX0_undergo_41 rfl ?_
        refine S_getR (c1 := (b + 3)) dX0_undergo_42 (kd_bk hb) fl_X0_18 rfl rfl rfl ?_
        refine S_iload_n dX0_undergo_45 rfl ?_
        refine S_bipush dX0_undergo_46 rfl (by decide) ?_
        refine S_aload_n dX0_undergo_48 rfl ?_
        refine S_getR (c1 := (b + 3)) dX0_undergo_49 (kd_bk hb) fl_X0_18 rfl rfl rfl ?_
        refine S_iload_n dX0_undergo_52 rfl ?_
        refine S_iald (N := 6) dX0_undergo_53 (kd_ba (k := 2) hb rfl (by decide)) (bk_lt (k := 3) hb (by decide)) rfl ?_
        refine S_iload dX0_undergo_54 rfl ?_
        refine S_iadd dX0_undergo_56 ?_
        refine S_mmin dX0_undergo_57 jl_X0_78 jm_min jm_M jc_min rfl rfl ?_
        refine S_iast (N := 6) dX0_undergo_60 (kd_ba (k := 2) hb rfl (by decide)) (bk_lt (k := 3) hb (by decide)) rfl (fun μ8 => ?_)
        refine S_goto (tgt := 99) dX0_undergo_61 (by decide) ?_
        exact S_vret dX0_undergo_99 rfl rfl
  · refine S_aload_n dX0_undergo_20 rfl ?_
    refine S_callV_M2 dX0_undergo_21 [] (K_X0_passNight hb μ) l_X0_74 yo_X0_passNight (kd_bk hb) rfl rfl rfl rfl (fun x11 μ12 => ?_)
    refine S_pop dX0_undergo_24 rfl ?_
    refine S_goto (tgt := 99) dX0_undergo_25 (by decide) ?_
    exact S_vret dX0_undergo_99 rfl rfl
def fX0_told (b : Nat) (p1 : Int) (p2 : Int) (μ : Mem) : Option Int :=
  if p2 = 0 then
    grd (0 ≤ p1 ∧ p1 < 6) <|
    some (μ (b + 1) (p1).toNat)
  else
    if p2 = 1 then
      grd (0 ≤ p1 ∧ p1 < 6) <|
      some (μ (b + 2) (p1).toNat)
    else
      if p2 = 2 then
        grd (0 ≤ p1 ∧ p1 < 6) <|
        some (μ (b + 3) (p1).toNat)
      else
        if p2 = 3 then
          grd (0 ≤ p1 ∧ p1 < 6) <|
          (fX0_boldnessAt b p1 (μ (b + 3) (p1).toNat) μ).bind fun x5 =>
          some x5
        else
          if p2 = 4 then
            grd (0 ≤ p1 ∧ p1 < 6) <|
            some (μ (b + 4) (p1).toNat)
          else
            (fX0_farOf b p1 μ).bind fun x7 =>
            some x7
theorem K_X0_told {σ : Scr} {b : Nat} (hb : isBk b) (p1 : Int) (p2 : Int)  (μ : Mem) : Con σ yX0_told cX0_told 3 (some .int) 5 [.inr (.inr b), .inl p1, .inl p2] μ (fX0_told b p1 p2 μ) (rI μ) := by
  refine con_of (own := RX0) (by decide) rfl (Nat.le_of_ble_eq_true rfl) ?_
  show Sim σ cX0_told 3 RX0 (5) (some .int) (rI μ) 0 [(0, .inr (.inr b)), (1, .inl p1), (2, .inl p2)] [] μ (fX0_told b p1 p2 μ)
  unfold fX0_told
  refine S_iload_n dX0_told_0 rfl ?_
  refine S_if (fun h1 => ?_) (fun h1 => ?_)
  · refine S_tsIn (n := 0) (tgt := 36) dX0_told_1 h1 (by decide) (by decide) rfl (by decide) ?_
    refine S_aload_n dX0_told_36 rfl ?_
    refine S_getR (c1 := (b + 1)) dX0_told_37 (kd_bk hb) fl_X0_9 rfl rfl rfl ?_
    refine S_iload_n dX0_told_40 rfl ?_
    refine S_iald (N := 6) dX0_told_41 (kd_ba (k := 0) hb rfl (by decide)) (bk_lt (k := 1) hb (by decide)) rfl ?_
    exact S_iret dX0_told_42 rfl rfl
  · refine S_if (fun h2 => ?_) (fun h2 => ?_)
    · refine S_tsIn (n := 1) (tgt := 43) dX0_told_1 h2 (by decide) (by decide) rfl (by decide) ?_
      refine S_aload_n dX0_told_43 rfl ?_
      refine S_getR (c1 := (b + 2)) dX0_told_44 (kd_bk hb) fl_X0_15 rfl rfl rfl ?_
      refine S_iload_n dX0_told_47 rfl ?_
      refine S_iald (N := 6) dX0_told_48 (kd_ba (k := 1) hb rfl (by decide)) (bk_lt (k := 2) hb (by decide)) rfl ?_
      exact S_iret dX0_told_49 rfl rfl
    · refine S_if (fun h3 => ?_) (fun h3 => ?_)
      · refine S_tsIn (n := 2) (tgt := 50) dX0_told_1 h3 (by decide) (by decide) rfl (by decide) ?_
        refine S_aload_n dX0_told_50 rfl ?_
        refine S_getR (c1 := (b + 3)) dX0_told_51 (kd_bk hb) fl_X0_18 rfl rfl rfl ?_
        refine S_iload_n dX0_told_54 rfl ?_
        refine S_iald (N := 6) dX0_told_55 (kd_ba (k := 2) hb rfl (by decide)) (bk_lt (k := 3) hb (by decide)) rfl ?_
        exact S_iret dX0_told_56 rfl rfl
      · refine S_if (fun h4 => ?_) (fun h4 => ?_)
        · refine S_tsIn (n := 3) (tgt := 57) dX0_told_1 h4 (by decide) (by decide) rfl (by decide) ?_
          refine S_aload_n dX0_told_57 rfl ?_
          refine S_iload_n dX0_told_58 rfl ?_
          refine S_aload_n dX0_told_59 rfl ?_
          refine S_getR (c1 := (b + 3)) dX0_told_60 (kd_bk hb) fl_X0_18 rfl rfl rfl ?_
          refine S_iload_n dX0_told_63 rfl ?_
          refine S_iald (N := 6) dX0_told_64 (kd_ba (k := 2) hb rfl (by decide)) (bk_lt (k := 3) hb (by decide)) rfl ?_
          refine S_callV_I dX0_told_65 [.inl p1, .inl (μ (b + 3) (p1).toNat)] (K_X0_boldnessAt hb p1 (μ (b + 3) (p1).toNat) μ) l_X0_53 yo_X0_boldnessAt (kd_bk hb) rfl rfl rfl rfl (fun x5 => ?_)
          exact S_iret dX0_told_68 rfl rfl
        · refine S_if (fun h6 => ?_) (fun h6 => ?_)
          · refine S_tsIn (n := 4) (tgt := 69) dX0_told_1 h6 (by decide) (by decide) rfl (by decide) ?_
            refine S_aload_n dX0_told_69 rfl ?_
            refine S_getR (c1 := (b + 4)) dX0_told_70 (kd_bk hb) fl_X0_21 rfl rfl rfl ?_
            refine S_iload_n dX0_told_73 rfl ?_
            refine S_iald (N := 6) dX0_told_74 (kd_ba (k := 3) hb rfl (by decide)) (bk_lt (k := 4) hb (by decide)) rfl ?_
            exact S_iret dX0_told_75 rfl rfl
          · refine S_tsD (tgt := 76) [0, 1, 2, 3, 4] dX0_told_1 (by decide) (by decide) (by intro v9 h9 e9; simp only [List.mem_cons, List.not_mem_nil, or_false] at h9; omega) ?_
            refine S_aload_n dX0_told_76 rfl ?_
            refine S_iload_n dX0_told_77 rfl ?_
            refine S_callV_I dX0_told_78 [.inl p1] (K_X0_farOf hb p1 μ) l_X0_46 yo_X0_farOf (kd_bk hb) rfl rfl rfl rfl (fun x7 => ?_)
            exact S_iret dX0_told_81 rfl rfl
def fX0_howManyOf_L4 (μ : Mem) (b : Nat) (p1 : Int) : Nat → Int → Int → Option Int
  | 0, _, _ => none
  | n3 + 1, x1, x2 =>
    if (μ b 4) ≤ x2 then
      some x1
    else
      grd (0 ≤ x2 ∧ x2 < 6) <|
      (fX1_isOf (μ (b + 1) (x2).toNat) p1 μ).bind fun x4 =>
      mlet (fun (x5 : Int) =>
        mlet (w32 (x2 + 1)) fun x7 =>
        fX0_howManyOf_L4 μ b p1 n3 x5 x7
        ) fun (K6 : Int → Option Int) =>
      if x4 = 0 then
        K6 x1
      else
        mlet (w32 (x1 + 1)) fun x8 =>
        K6 x8
def fX0_howManyOf (b : Nat) (p1 : Int) (μ : Mem) : Option Int :=
  fX0_howManyOf_L4 μ b p1 fuel 0 0
theorem K_X0_howManyOf {σ : Scr} {b : Nat} (hb : isBk b) (p1 : Int)  (μ : Mem) : Con σ yX0_howManyOf cX0_howManyOf 4 (some .int) 3 [.inr (.inr b), .inl p1] μ (fX0_howManyOf b p1 μ) (rI μ) := by
  refine con_of (own := RX0) (by decide) rfl (Nat.le_of_ble_eq_true rfl) ?_
  show Sim σ cX0_howManyOf 4 RX0 (3) (some .int) (rI μ) 0 [(0, .inr (.inr b)), (1, .inl p1)] [] μ (fX0_howManyOf b p1 μ)
  unfold fX0_howManyOf
  refine S_iconst dX0_howManyOf_0 rfl ?_
  refine S_istore_n (lv' := [(2, .inl 0), (0, .inr (.inr b)), (1, .inl p1)]) dX0_howManyOf_1 rfl rfl ?_
  refine S_iconst dX0_howManyOf_2 rfl ?_
  refine S_istore_n (lv' := [(3, .inl 0), (2, .inl 0), (0, .inr (.inr b)), (1, .inl p1)]) dX0_howManyOf_3 rfl rfl ?_
  have hL4 : ∀ (n3 : Nat) (x1 : Int) (x2 : Int), Sim σ cX0_howManyOf 4 RX0 (3) (some .int) (rI μ) 4 [(0, .inr (.inr b)), (1, .inl p1), (2, .inl x1), (3, .inl x2)] [] μ (fX0_howManyOf_L4 μ b p1 n3 x1 x2) := by
    intro n3
    induction n3 with
    | zero =>
      intro x1 x2
      exact S_none rfl
    | succ n3 ih =>
      intro x1 x2
      rw [fX0_howManyOf_L4]
      refine S_iload_n dX0_howManyOf_4 rfl ?_
      refine S_aload_n dX0_howManyOf_5 rfl ?_
      refine S_getI dX0_howManyOf_6 (kd_bk hb) fl_X0_24 rfl rfl ?_
      refine S_ic_ge (tgt := 34) dX0_howManyOf_9 (by decide) (fun h10 => ?_) (fun h10 => ?_)
      · refine S_iload_n dX0_howManyOf_34 rfl ?_
        exact S_iret dX0_howManyOf_35 rfl rfl
      · refine S_aload_n dX0_howManyOf_12 rfl ?_
        refine S_getR (c1 := (b + 1)) dX0_howManyOf_13 (kd_bk hb) fl_X0_9 rfl rfl rfl ?_
        refine S_iload_n dX0_howManyOf_16 rfl ?_
        refine S_iald (N := 6) dX0_howManyOf_17 (kd_ba (k := 0) hb rfl (by decide)) (bk_lt (k := 1) hb (by decide)) rfl ?_
        refine S_iload_n dX0_howManyOf_18 rfl ?_
        refine S_callN_I dX0_howManyOf_19 [.inl (μ (b + 1) (x2).toNat), .inl p1] (K_X1_isOf (μ (b + 1) (x2).toNat) p1 μ) l_X0_90 yo_X1_isOf rfl rfl rfl (fun x4 => ?_)
        refine S_jn (fun (K6 : Int → Option Int) => ∀ (x5 : Int), Sim σ cX0_howManyOf 4 RX0 (3) (some .int) (rI μ) 28 [(0, .inr (.inr b)), (1, .inl p1), (2, .inl x5), (3, .inl x2)] [] μ (K6 x5)) ?_ (fun K6 hK6 => ?_)
        · intro x5
          refine S_iinc (lv' := fun x7 => [(3, .inl x7), (0, .inr (.inr b)), (1, .inl p1), (2, .inl x5)]) dX0_howManyOf_28 rfl rfl rfl (fun _ => rfl) (fun x7 => ?_)
          refine S_goto (tgt := 4) dX0_howManyOf_31 (by decide) ?_
          exact S_sub [1, 2, 3, 0] rfl (ih x5 x7)
        refine S_if_eq (tgt := 28) dX0_howManyOf_22 (by decide) (fun h9 => ?_) (fun h9 => ?_)
        · exact S_sub [0, 1, 2, 3] rfl (hK6 x1)
        · refine S_iinc (lv' := fun x8 => [(2, .inl x8), (0, .inr (.inr b)), (1, .inl p1), (3, .inl x2)]) dX0_howManyOf_25 rfl rfl rfl (fun _ => rfl) (fun x8 => ?_)
          exact S_sub [1, 2, 0, 3] rfl (hK6 x8)
  exact S_sub [2, 3, 1, 0] rfl (hL4 fuel 0 0)
