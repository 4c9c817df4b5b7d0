theorem dX1_daringsBy_0 : decode cX1_daringsBy 0 = .ok (.iconst 0, 1) := by decide +kernel
theorem dX1_daringsBy_1 : decode cX1_daringsBy 1 = .ok (.istore_n 3, 1) := by decide +kernel
theorem dX1_daringsBy_2 : decode cX1_daringsBy 2 = .ok (.iconst 0, 1) := by decide +kernel
theorem dX1_daringsBy_3 : decode cX1_daringsBy 3 = .ok (.istore 4, 2) := by decide +kernel
theorem dX1_daringsBy_5 : decode cX1_daringsBy 5 = .ok (.iload 4, 2) := by decide +kernel
theorem dX1_daringsBy_7 : decode cX1_daringsBy 7 = .ok (.bipush 20, 2) := by decide +kernel
theorem dX1_daringsBy_9 : decode cX1_daringsBy 9 = .ok (.if_icmp .gt 46, 3) := by decide +kernel
theorem dX1_daringsBy_12 : decode cX1_daringsBy 12 = .ok (.aload_n 0, 1) := by decide +kernel
theorem dX1_daringsBy_13 : decode cX1_daringsBy 13 = .ok (.getfield 36, 3) := by decide +kernel
theorem dX1_daringsBy_16 : decode cX1_daringsBy 16 = .ok (.aload_n 0, 1) := by decide +kernel
theorem dX1_daringsBy_17 : decode cX1_daringsBy 17 = .ok (.getfield 33, 3) := by decide +kernel
theorem dX1_daringsBy_20 : decode cX1_daringsBy 20 = .ok (.invokevirtual 118, 3) := by decide +kernel
theorem dX1_daringsBy_23 : decode cX1_daringsBy 23 = .ok (.aload_n 0, 1) := by decide +kernel
theorem dX1_daringsBy_24 : decode cX1_daringsBy 24 = .ok (.getfield 36, 3) := by decide +kernel
theorem dX1_daringsBy_27 : decode cX1_daringsBy 27 = .ok (.getfield 156, 3) := by decide +kernel
theorem dX1_daringsBy_30 : decode cX1_daringsBy 30 = .ok (.iload_n 1, 1) := by decide +kernel
theorem dX1_daringsBy_31 : decode cX1_daringsBy 31 = .ok (.iload 4, 2) := by decide +kernel
theorem dX1_daringsBy_33 : decode cX1_daringsBy 33 = .ok (.iastore, 1) := by decide +kernel
theorem dX1_daringsBy_34 : decode cX1_daringsBy 34 = .ok (.aload_n 0, 1) := by decide +kernel
theorem dX1_daringsBy_35 : decode cX1_daringsBy 35 = .ok (.iload_n 2, 1) := by decide +kernel
theorem dX1_daringsBy_36 : decode cX1_daringsBy 36 = .ok (.invokevirtual 197, 3) := by decide +kernel
theorem dX1_daringsBy_39 : decode cX1_daringsBy 39 = .ok (.ifCond .eq 10, 3) := by decide +kernel
theorem dX1_daringsBy_42 : decode cX1_daringsBy 42 = .ok (.iload_n 3, 1) := by decide +kernel
theorem dX1_daringsBy_43 : decode cX1_daringsBy 43 = .ok (.iconst 1, 1) := by decide +kernel
theorem dX1_daringsBy_44 : decode cX1_daringsBy 44 = .ok (.iload 4, 2) := by decide +kernel
theorem dX1_daringsBy_46 : decode cX1_daringsBy 46 = .ok (.ishl, 1) := by decide +kernel
theorem dX1_daringsBy_47 : decode cX1_daringsBy 47 = .ok (.ior, 1) := by decide +kernel
theorem dX1_daringsBy_48 : decode cX1_daringsBy 48 = .ok (.istore_n 3, 1) := by decide +kernel
theorem dX1_daringsBy_49 : decode cX1_daringsBy 49 = .ok (.iinc 4 1, 3) := by decide +kernel
theorem dX1_daringsBy_52 : decode cX1_daringsBy 52 = .ok (.goto (-47), 3) := by decide +kernel
theorem dX1_daringsBy_55 : decode cX1_daringsBy 55 = .ok (.iload_n 3, 1) := by decide +kernel
theorem dX1_daringsBy_56 : decode cX1_daringsBy 56 = .ok (.ireturn, 1) := by decide +kernel
theorem dX1_refusalOfHolders_0 : decode cX1_refusalOfHolders 0 = .ok (.aload_n 0, 1) := by decide +kernel
theorem dX1_refusalOfHolders_1 : decode cX1_refusalOfHolders 1 = .ok (.getfield 33, 3) := by decide +kernel
theorem dX1_refusalOfHolders_4 : decode cX1_refusalOfHolders 4 = .ok (.iload_n 1, 1) := by decide +kernel
theorem dX1_refusalOfHolders_5 : decode cX1_refusalOfHolders 5 = .ok (.invokevirtual 125, 3) := by decide +kernel
theorem dX1_refusalOfHolders_8 : decode cX1_refusalOfHolders 8 = .ok (.ifCond .eq 10, 3) := by decide +kernel
theorem dX1_refusalOfHolders_11 : decode cX1_refusalOfHolders 11 = .ok (.iload_n 2, 1) := by decide +kernel
theorem dX1_refusalOfHolders_12 : decode cX1_refusalOfHolders 12 = .ok (.invokestatic 83, 3) := by decide +kernel
theorem dX1_refusalOfHolders_15 : decode cX1_refusalOfHolders 15 = .ok (.ifCond .ne 5, 3) := by decide +kernel
theorem dX1_refusalOfHolders_18 : decode cX1_refusalOfHolders 18 = .ok (.iconst (-1), 1) := by decide +kernel
theorem dX1_refusalOfHolders_19 : decode cX1_refusalOfHolders 19 = .ok (.ireturn, 1) := by decide +kernel
theorem dX1_refusalOfHolders_20 : decode cX1_refusalOfHolders 20 = .ok (.aload_n 0, 1) := by decide +kernel
theorem dX1_refusalOfHolders_21 : decode cX1_refusalOfHolders 21 = .ok (.getfield 14, 3) := by decide +kernel
theorem dX1_refusalOfHolders_24 : decode cX1_refusalOfHolders 24 = .ok (.iload_n 2, 1) := by decide +kernel
theorem dX1_refusalOfHolders_25 : decode cX1_refusalOfHolders 25 = .ok (.iaload, 1) := by decide +kernel
theorem dX1_refusalOfHolders_26 : decode cX1_refusalOfHolders 26 = .ok (.istore_n 3, 1) := by decide +kernel
theorem dX1_refusalOfHolders_27 : decode cX1_refusalOfHolders 27 = .ok (.iload_n 3, 1) := by decide +kernel
theorem dX1_refusalOfHolders_28 : decode cX1_refusalOfHolders 28 = .ok (.ifCond .ge 9, 3) := by decide +kernel
theorem dX1_refusalOfHolders_31 : decode cX1_refusalOfHolders 31 = .ok (.aload_n 0, 1) := by decide +kernel
theorem dX1_refusalOfHolders_32 : decode cX1_refusalOfHolders 32 = .ok (.iconst 1, 1) := by decide +kernel
theorem dX1_refusalOfHolders_33 : decode cX1_refusalOfHolders 33 = .ok (.invokevirtual 87, 3) := by decide +kernel
theorem dX1_refusalOfHolders_36 : decode cX1_refusalOfHolders 36 = .ok (.ireturn, 1) := by decide +kernel
theorem dX1_refusalOfHolders_37 : decode cX1_refusalOfHolders 37 = .ok (.iload_n 3, 1) := by decide +kernel
theorem dX1_refusalOfHolders_38 : decode cX1_refusalOfHolders 38 = .ok (.iconst 1, 1) := by decide +kernel
theorem dX1_refusalOfHolders_39 : decode cX1_refusalOfHolders 39 = .ok (.bipush 10, 2) := by decide +kernel
theorem dX1_refusalOfHolders_41 : decode cX1_refusalOfHolders 41 = .ok (.invokestatic 128, 3) := by decide +kernel
theorem dX1_refusalOfHolders_44 : decode cX1_refusalOfHolders 44 = .ok (.ifCond .ne 9, 3) := by decide +kernel
theorem dX1_refusalOfHolders_47 : decode cX1_refusalOfHolders 47 = .ok (.aload_n 0, 1) := by decide +kernel
theorem dX1_refusalOfHolders_48 : decode cX1_refusalOfHolders 48 = .ok (.iconst 5, 1) := by decide +kernel
theorem dX1_refusalOfHolders_49 : decode cX1_refusalOfHolders 49 = .ok (.invokevirtual 87, 3) := by decide +kernel
theorem dX1_refusalOfHolders_52 : decode cX1_refusalOfHolders 52 = .ok (.ireturn, 1) := by decide +kernel
theorem dX1_refusalOfHolders_53 : decode cX1_refusalOfHolders 53 = .ok (.iconst 0, 1) := by decide +kernel
theorem dX1_refusalOfHolders_54 : decode cX1_refusalOfHolders 54 = .ok (.istore 4, 2) := by decide +kernel
theorem dX1_refusalOfHolders_56 : decode cX1_refusalOfHolders 56 = .ok (.iload 4, 2) := by decide +kernel
theorem dX1_refusalOfHolders_58 : decode cX1_refusalOfHolders 58 = .ok (.iload_n 3, 1) := by decide +kernel
theorem dX1_refusalOfHolders_59 : decode cX1_refusalOfHolders 59 = .ok (.if_icmp .ge 34, 3) := by decide +kernel
theorem dX1_refusalOfHolders_62 : decode cX1_refusalOfHolders 62 = .ok (.aload_n 0, 1) := by decide +kernel
theorem dX1_refusalOfHolders_63 : decode cX1_refusalOfHolders 63 = .ok (.getfield 33, 3) := by decide +kernel
theorem dX1_refusalOfHolders_66 : decode cX1_refusalOfHolders 66 = .ok (.aload_n 0, 1) := by decide +kernel
theorem dX1_refusalOfHolders_67 : decode cX1_refusalOfHolders 67 = .ok (.getfield 11, 3) := by decide +kernel
theorem dX1_refusalOfHolders_70 : decode cX1_refusalOfHolders 70 = .ok (.iload_n 2, 1) := by decide +kernel
theorem dX1_refusalOfHolders_71 : decode cX1_refusalOfHolders 71 = .ok (.aaload, 1) := by decide +kernel
theorem dX1_refusalOfHolders_72 : decode cX1_refusalOfHolders 72 = .ok (.iload 4, 2) := by decide +kernel
theorem dX1_refusalOfHolders_74 : decode cX1_refusalOfHolders 74 = .ok (.iaload, 1) := by decide +kernel
theorem dX1_refusalOfHolders_75 : decode cX1_refusalOfHolders 75 = .ok (.invokevirtual 125, 3) := by decide +kernel
theorem dX1_refusalOfHolders_78 : decode cX1_refusalOfHolders 78 = .ok (.ifCond .ne 9, 3) := by decide +kernel
theorem dX1_refusalOfHolders_81 : decode cX1_refusalOfHolders 81 = .ok (.aload_n 0, 1) := by decide +kernel
theorem dX1_refusalOfHolders_82 : decode cX1_refusalOfHolders 82 = .ok (.iconst 3, 1) := by decide +kernel
theorem dX1_refusalOfHolders_83 : decode cX1_refusalOfHolders 83 = .ok (.invokevirtual 87, 3) := by decide +kernel
theorem dX1_refusalOfHolders_86 : decode cX1_refusalOfHolders 86 = .ok (.ireturn, 1) := by decide +kernel
theorem dX1_refusalOfHolders_87 : decode cX1_refusalOfHolders 87 = .ok (.iinc 4 1, 3) := by decide +kernel
theorem dX1_refusalOfHolders_90 : decode cX1_refusalOfHolders 90 = .ok (.goto (-34), 3) := by decide +kernel
theorem dX1_refusalOfHolders_93 : decode cX1_refusalOfHolders 93 = .ok (.iconst 0, 1) := by decide +kernel
theorem dX1_refusalOfHolders_94 : decode cX1_refusalOfHolders 94 = .ok (.ireturn, 1) := by decide +kernel
theorem dX1_darings_0 : decode cX1_darings 0 = .ok (.aload_n 0, 1) := by decide +kernel
theorem dX1_darings_1 : decode cX1_darings 1 = .ok (.iload_n 1, 1) := by decide +kernel
theorem dX1_darings_2 : decode cX1_darings 2 = .ok (.iload_n 2, 1) := by decide +kernel
theorem dX1_darings_3 : decode cX1_darings 3 = .ok (.invokevirtual 191, 3) := by decide +kernel
theorem dX1_darings_6 : decode cX1_darings 6 = .ok (.istore_n 3, 1) := by decide +kernel
theorem dX1_darings_7 : decode cX1_darings 7 = .ok (.iload_n 3, 1) := by decide +kernel
theorem dX1_darings_8 : decode cX1_darings 8 = .ok (.ifCond .eq 7, 3) := by decide +kernel
theorem dX1_darings_11 : decode cX1_darings 11 = .ok (.iload_n 3, 1) := by decide +kernel
theorem dX1_darings_12 : decode cX1_darings 12 = .ok (.goto 9, 3) := by decide +kernel
theorem dX1_darings_15 : decode cX1_darings 15 = .ok (.aload_n 0, 1) := by decide +kernel
theorem dX1_darings_16 : decode cX1_darings 16 = .ok (.iload_n 1, 1) := by decide +kernel
theorem dX1_darings_17 : decode cX1_darings 17 = .ok (.iload_n 2, 1) := by decide +kernel
theorem dX1_darings_18 : decode cX1_darings 18 = .ok (.invokevirtual 194, 3) := by decide +kernel
theorem dX1_darings_21 : decode cX1_darings 21 = .ok (.ireturn, 1) := by decide +kernel
theorem dX1_kinds_0 : decode cX1_kinds 0 = .ok (.aload_n 0, 1) := by decide +kernel
theorem dX1_kinds_1 : decode cX1_kinds 1 = .ok (.iload_n 1, 1) := by decide +kernel
theorem dX1_kinds_2 : decode cX1_kinds 2 = .ok (.iload_n 2, 1) := by decide +kernel
theorem dX1_kinds_3 : decode cX1_kinds 3 = .ok (.invokevirtual 191, 3) := by decide +kernel
theorem dX1_kinds_6 : decode cX1_kinds 6 = .ok (.istore_n 3, 1) := by decide +kernel
theorem dX1_kinds_7 : decode cX1_kinds 7 = .ok (.iload_n 3, 1) := by decide +kernel
theorem dX1_kinds_8 : decode cX1_kinds 8 = .ok (.ifCond .eq 5, 3) := by decide +kernel
theorem dX1_kinds_11 : decode cX1_kinds 11 = .ok (.iload_n 3, 1) := by decide +kernel
theorem dX1_kinds_12 : decode cX1_kinds 12 = .ok (.ireturn, 1) := by decide +kernel
theorem dX1_kinds_13 : decode cX1_kinds 13 = .ok (.iconst 0, 1) := by decide +kernel
theorem dX1_kinds_14 : decode cX1_kinds 14 = .ok (.istore 4, 2) := by decide +kernel
theorem dX1_kinds_16 : decode cX1_kinds 16 = .ok (.iconst 0, 1) := by decide +kernel
theorem dX1_kinds_17 : decode cX1_kinds 17 = .ok (.istore 5, 2) := by decide +kernel
theorem dX1_kinds_19 : decode cX1_kinds 19 = .ok (.iload 5, 2) := by decide +kernel
theorem dX1_kinds_21 : decode cX1_kinds 21 = .ok (.bipush 6, 2) := by decide +kernel
theorem dX1_kinds_23 : decode cX1_kinds 23 = .ok (.if_icmp .ge 48, 3) := by decide +kernel
theorem dX1_kinds_26 : decode cX1_kinds 26 = .ok (.aload_n 0, 1) := by decide +kernel
theorem dX1_kinds_27 : decode cX1_kinds 27 = .ok (.getfield 36, 3) := by decide +kernel
theorem dX1_kinds_30 : decode cX1_kinds 30 = .ok (.aload_n 0, 1) := by decide +kernel
theorem dX1_kinds_31 : decode cX1_kinds 31 = .ok (.getfield 33, 3) := by decide +kernel
theorem dX1_kinds_34 : decode cX1_kinds 34 = .ok (.invokevirtual 118, 3) := by decide +kernel
theorem dX1_kinds_37 : decode cX1_kinds 37 = .ok (.aload_n 0, 1) := by decide +kernel
theorem dX1_kinds_38 : decode cX1_kinds 38 = .ok (.getfield 36, 3) := by decide +kernel
theorem dX1_kinds_41 : decode cX1_kinds 41 = .ok (.getfield 135, 3) := by decide +kernel
theorem dX1_kinds_44 : decode cX1_kinds 44 = .ok (.iload_n 1, 1) := by decide +kernel
theorem dX1_kinds_45 : decode cX1_kinds 45 = .ok (.iload 5, 2) := by decide +kernel
theorem dX1_kinds_47 : decode cX1_kinds 47 = .ok (.iastore, 1) := by decide +kernel
theorem dX1_kinds_48 : decode cX1_kinds 48 = .ok (.aload_n 0, 1) := by decide +kernel
theorem dX1_kinds_49 : decode cX1_kinds 49 = .ok (.iload_n 2, 1) := by decide +kernel
theorem dX1_kinds_50 : decode cX1_kinds 50 = .ok (.invokevirtual 197, 3) := by decide +kernel
theorem dX1_kinds_53 : decode cX1_kinds 53 = .ok (.ifCond .eq 12, 3) := by decide +kernel
theorem dX1_kinds_56 : decode cX1_kinds 56 = .ok (.iload 4, 2) := by decide +kernel
theorem dX1_kinds_58 : decode cX1_kinds 58 = .ok (.iconst 1, 1) := by decide +kernel
theorem dX1_kinds_59 : decode cX1_kinds 59 = .ok (.iload 5, 2) := by decide +kernel
theorem dX1_kinds_61 : decode cX1_kinds 61 = .ok (.ishl, 1) := by decide +kernel
theorem dX1_kinds_62 : decode cX1_kinds 62 = .ok (.ior, 1) := by decide +kernel
theorem dX1_kinds_63 : decode cX1_kinds 63 = .ok (.istore 4, 2) := by decide +kernel
theorem dX1_kinds_65 : decode cX1_kinds 65 = .ok (.iinc 5 1, 3) := by decide +kernel
theorem dX1_kinds_68 : decode cX1_kinds 68 = .ok (.goto (-49), 3) := by decide +kernel
theorem dX1_kinds_71 : decode cX1_kinds 71 = .ok (.iload 4, 2) := by decide +kernel
theorem dX1_kinds_73 : decode cX1_kinds 73 = .ok (.ireturn, 1) := by decide +kernel
theorem dX1_placeOf_0 : decode cX1_placeOf 0 = .ok (.iload_n 0, 1) := by decide +kernel
theorem dX1_placeOf_1 : decode cX1_placeOf 1 = .ok (.bipush (-9), 2) := by decide +kernel
theorem dX1_placeOf_3 : decode cX1_placeOf 3 = .ok (.if_icmp .ne 8, 3) := by decide +kernel
theorem dX1_placeOf_6 : decode cX1_placeOf 6 = .ok (.bipush 6, 2) := by decide +kernel
theorem dX1_placeOf_8 : decode cX1_placeOf 8 = .ok (.goto 4, 3) := by decide +kernel
theorem dX1_placeOf_11 : decode cX1_placeOf 11 = .ok (.iload_n 0, 1) := by decide +kernel
theorem dX1_placeOf_12 : decode cX1_placeOf 12 = .ok (.ireturn, 1) := by decide +kernel
theorem dX1_countParts_0 : decode cX1_countParts 0 = .ok (.iconst 0, 1) := by decide +kernel
theorem dX1_countParts_1 : decode cX1_countParts 1 = .ok (.istore_n 3, 1) := by decide +kernel
theorem dX1_countParts_2 : decode cX1_countParts 2 = .ok (.iload_n 3, 1) := by decide +kernel
theorem dX1_countParts_3 : decode cX1_countParts 3 = .ok (.bipush 20, 2) := by decide +kernel
theorem dX1_countParts_5 : decode cX1_countParts 5 = .ok (.if_icmp .ge 19, 3) := by decide +kernel
theorem dX1_countParts_8 : decode cX1_countParts 8 = .ok (.aload_n 0, 1) := by decide +kernel
theorem dX1_countParts_9 : decode cX1_countParts 9 = .ok (.getfield 74, 3) := by decide +kernel
theorem dX1_countParts_12 : decode cX1_countParts 12 = .ok (.iload_n 3, 1) := by decide +kernel
theorem dX1_countParts_13 : decode cX1_countParts 13 = .ok (.aaload, 1) := by decide +kernel
theorem dX1_countParts_14 : decode cX1_countParts 14 = .ok (.iconst 0, 1) := by decide +kernel
theorem dX1_countParts_15 : decode cX1_countParts 15 = .ok (.invokestatic 77, 3) := by decide +kernel
theorem dX1_countParts_18 : decode cX1_countParts 18 = .ok (.iinc 3 1, 3) := by decide +kernel
theorem dX1_countParts_21 : decode cX1_countParts 21 = .ok (.goto (-19), 3) := by decide +kernel
theorem dX1_countParts_24 : decode cX1_countParts 24 = .ok (.iconst 0, 1) := by decide +kernel
theorem dX1_countParts_25 : decode cX1_countParts 25 = .ok (.istore_n 3, 1) := by decide +kernel
theorem dX1_countParts_26 : decode cX1_countParts 26 = .ok (.iload_n 3, 1) := by decide +kernel
theorem dX1_countParts_27 : decode cX1_countParts 27 = .ok (.bipush 20, 2) := by decide +kernel
theorem dX1_countParts_29 : decode cX1_countParts 29 = .ok (.if_icmp .gt 76, 3) := by decide +kernel
theorem dX1_countParts_32 : decode cX1_countParts 32 = .ok (.iload_n 2, 1) := by decide +kernel
theorem dX1_countParts_33 : decode cX1_countParts 33 = .ok (.iload_n 3, 1) := by decide +kernel
theorem dX1_countParts_34 : decode cX1_countParts 34 = .ok (.ishr, 1) := by decide +kernel
theorem dX1_countParts_35 : decode cX1_countParts 35 = .ok (.iconst 1, 1) := by decide +kernel
theorem dX1_countParts_36 : decode cX1_countParts 36 = .ok (.iand, 1) := by decide +kernel
theorem dX1_countParts_37 : decode cX1_countParts 37 = .ok (.ifCond .eq 62, 3) := by decide +kernel
theorem dX1_countParts_40 : decode cX1_countParts 40 = .ok (.aload_n 0, 1) := by decide +kernel
theorem dX1_countParts_41 : decode cX1_countParts 41 = .ok (.getfield 36, 3) := by decide +kernel
theorem dX1_countParts_44 : decode cX1_countParts 44 = .ok (.aload_n 0, 1) := by decide +kernel
theorem dX1_countParts_45 : decode cX1_countParts 45 = .ok (.getfield 33, 3) := by decide +kernel
theorem dX1_countParts_48 : decode cX1_countParts 48 = .ok (.invokevirtual 118, 3) := by decide +kernel
theorem dX1_countParts_51 : decode cX1_countParts 51 = .ok (.aload_n 0, 1) := by decide +kernel
theorem dX1_countParts_52 : decode cX1_countParts 52 = .ok (.getfield 36, 3) := by decide +kernel
theorem dX1_countParts_55 : decode cX1_countParts 55 = .ok (.getfield 156, 3) := by decide +kernel
theorem dX1_countParts_58 : decode cX1_countParts 58 = .ok (.iload_n 1, 1) := by decide +kernel
theorem dX1_countParts_59 : decode cX1_countParts 59 = .ok (.iload_n 3, 1) := by decide +kernel
theorem dX1_countParts_60 : decode cX1_countParts 60 = .ok (.iastore, 1) := by decide +kernel
theorem dX1_countParts_61 : decode cX1_countParts 61 = .ok (.iconst 0, 1) := by decide +kernel
theorem dX1_countParts_62 : decode cX1_countParts 62 = .ok (.istore 4, 2) := by decide +kernel
theorem dX1_countParts_64 : decode cX1_countParts 64 = .ok (.iload 4, 2) := by decide +kernel
theorem dX1_countParts_66 : decode cX1_countParts 66 = .ok (.bipush 20, 2) := by decide +kernel
theorem dX1_countParts_68 : decode cX1_countParts 68 = .ok (.if_icmp .ge 31, 3) := by decide +kernel
theorem dX1_countParts_71 : decode cX1_countParts 71 = .ok (.aload_n 0, 1) := by decide +kernel
theorem dX1_countParts_72 : decode cX1_countParts 72 = .ok (.getfield 74, 3) := by decide +kernel
theorem dX1_countParts_75 : decode cX1_countParts 75 = .ok (.iload 4, 2) := by decide +kernel
theorem dX1_countParts_77 : decode cX1_countParts 77 = .ok (.aaload, 1) := by decide +kernel
theorem dX1_countParts_78 : decode cX1_countParts 78 = .ok (.aload_n 0, 1) := by decide +kernel
theorem dX1_countParts_79 : decode cX1_countParts 79 = .ok (.getfield 36, 3) := by decide +kernel
theorem dX1_countParts_82 : decode cX1_countParts 82 = .ok (.invokevirtual 184, 3) := by decide +kernel
theorem dX1_countParts_85 : decode cX1_countParts 85 = .ok (.invokestatic 296, 3) := by decide +kernel
theorem dX1_countParts_88 : decode cX1_countParts 88 = .ok (.dup2, 1) := by decide +kernel
theorem dX1_countParts_89 : decode cX1_countParts 89 = .ok (.iaload, 1) := by decide +kernel
theorem dX1_countParts_90 : decode cX1_countParts 90 = .ok (.iconst 1, 1) := by decide +kernel
theorem dX1_countParts_91 : decode cX1_countParts 91 = .ok (.iadd, 1) := by decide +kernel
theorem dX1_countParts_92 : decode cX1_countParts 92 = .ok (.iastore, 1) := by decide +kernel
theorem dX1_countParts_93 : decode cX1_countParts 93 = .ok (.iinc 4 1, 3) := by decide +kernel
theorem dX1_countParts_96 : decode cX1_countParts 96 = .ok (.goto (-32), 3) := by decide +kernel
theorem dX1_countParts_99 : decode cX1_countParts 99 = .ok (.iinc 3 1, 3) := by decide +kernel
theorem dX1_countParts_102 : decode cX1_countParts 102 = .ok (.goto (-76), 3) := by decide +kernel
theorem dX1_countParts_105 : decode cX1_countParts 105 = .ok (.return_, 1) := by decide +kernel
theorem dX1_greatestPart_0 : decode cX1_greatestPart 0 = .ok (.iconst 0, 1) := by decide +kernel
theorem dX1_greatestPart_1 : decode cX1_greatestPart 1 = .ok (.istore_n 2, 1) := by decide +kernel
theorem dX1_greatestPart_2 : decode cX1_greatestPart 2 = .ok (.aload_n 0, 1) := by decide +kernel
theorem dX1_greatestPart_3 : decode cX1_greatestPart 3 = .ok (.getfield 74, 3) := by decide +kernel
theorem dX1_greatestPart_6 : decode cX1_greatestPart 6 = .ok (.iload_n 1, 1) := by decide +kernel
theorem dX1_greatestPart_7 : decode cX1_greatestPart 7 = .ok (.aaload, 1) := by decide +kernel
theorem dX1_greatestPart_8 : decode cX1_greatestPart 8 = .ok (.astore_n 3, 1) := by decide +kernel
theorem dX1_greatestPart_9 : decode cX1_greatestPart 9 = .ok (.aload_n 3, 1) := by decide +kernel
theorem dX1_greatestPart_10 : decode cX1_greatestPart 10 = .ok (.arraylength, 1) := by decide +kernel
theorem dX1_greatestPart_11 : decode cX1_greatestPart 11 = .ok (.istore 4, 2) := by decide +kernel
theorem dX1_greatestPart_13 : decode cX1_greatestPart 13 = .ok (.iconst 0, 1) := by decide +kernel
theorem dX1_greatestPart_14 : decode cX1_greatestPart 14 = .ok (.istore 5, 2) := by decide +kernel
theorem dX1_greatestPart_16 : decode cX1_greatestPart 16 = .ok (.iload 5, 2) := by decide +kernel
theorem dX1_greatestPart_18 : decode cX1_greatestPart 18 = .ok (.iload 4, 2) := by decide +kernel
theorem dX1_greatestPart_20 : decode cX1_greatestPart 20 = .ok (.if_icmp .ge 22, 3) := by decide +kernel
theorem dX1_greatestPart_23 : decode cX1_greatestPart 23 = .ok (.aload_n 3, 1) := by decide +kernel
theorem dX1_greatestPart_24 : decode cX1_greatestPart 24 = .ok (.iload 5, 2) := by decide +kernel
theorem dX1_greatestPart_26 : decode cX1_greatestPart 26 = .ok (.iaload, 1) := by decide +kernel
theorem dX1_greatestPart_27 : decode cX1_greatestPart 27 = .ok (.istore 6, 2) := by decide +kernel
theorem dX1_greatestPart_29 : decode cX1_greatestPart 29 = .ok (.iload_n 2, 1) := by decide +kernel
theorem dX1_greatestPart_30 : decode cX1_greatestPart 30 = .ok (.iload 6, 2) := by decide +kernel
theorem dX1_greatestPart_32 : decode cX1_greatestPart 32 = .ok (.invokestatic 288, 3) := by decide +kernel
theorem dX1_greatestPart_35 : decode cX1_greatestPart 35 = .ok (.istore_n 2, 1) := by decide +kernel
theorem dX1_greatestPart_36 : decode cX1_greatestPart 36 = .ok (.iinc 5 1, 3) := by decide +kernel
theorem dX1_greatestPart_39 : decode cX1_greatestPart 39 = .ok (.goto (-23), 3) := by decide +kernel
theorem dX1_greatestPart_42 : decode cX1_greatestPart 42 = .ok (.iload_n 2, 1) := by decide +kernel
theorem dX1_greatestPart_43 : decode cX1_greatestPart 43 = .ok (.ireturn, 1) := by decide +kernel
theorem dX1_look_0 : decode cX1_look 0 = .ok (.aload_n 0, 1) := by decide +kernel
theorem dX1_look_1 : decode cX1_look 1 = .ok (.iload_n 1, 1) := by decide +kernel
theorem dX1_look_2 : decode cX1_look 2 = .ok (.iload_n 2, 1) := by decide +kernel
theorem dX1_look_3 : decode cX1_look 3 = .ok (.invokevirtual 191, 3) := by decide +kernel
theorem dX1_look_6 : decode cX1_look 6 = .ok (.istore_n 3, 1) := by decide +kernel
theorem dX1_look_7 : decode cX1_look 7 = .ok (.iload_n 3, 1) := by decide +kernel
theorem dX1_look_8 : decode cX1_look 8 = .ok (.ifCond .eq 5, 3) := by decide +kernel
theorem dX1_look_11 : decode cX1_look 11 = .ok (.iload_n 3, 1) := by decide +kernel
theorem dX1_look_12 : decode cX1_look 12 = .ok (.ireturn, 1) := by decide +kernel
theorem dX1_look_13 : decode cX1_look 13 = .ok (.aload_n 0, 1) := by decide +kernel
theorem dX1_look_14 : decode cX1_look 14 = .ok (.iload_n 1, 1) := by decide +kernel
theorem dX1_look_15 : decode cX1_look 15 = .ok (.iload_n 2, 1) := by decide +kernel
theorem dX1_look_16 : decode cX1_look 16 = .ok (.invokevirtual 194, 3) := by decide +kernel
theorem dX1_look_19 : decode cX1_look 19 = .ok (.istore 4, 2) := by decide +kernel
theorem dX1_look_21 : decode cX1_look 21 = .ok (.iload 4, 2) := by decide +kernel
theorem dX1_look_23 : decode cX1_look 23 = .ok (.ifCond .ne 6, 3) := by decide +kernel
theorem dX1_look_26 : decode cX1_look 26 = .ok (.bipush (-9), 2) := by decide +kernel
theorem dX1_look_28 : decode cX1_look 28 = .ok (.ireturn, 1) := by decide +kernel
theorem dX1_look_29 : decode cX1_look 29 = .ok (.aload_n 0, 1) := by decide +kernel
theorem dX1_look_30 : decode cX1_look 30 = .ok (.iload_n 1, 1) := by decide +kernel
theorem dX1_look_31 : decode cX1_look 31 = .ok (.iload 4, 2) := by decide +kernel
theorem dX1_look_33 : decode cX1_look 33 = .ok (.invokevirtual 200, 3) := by decide +kernel
theorem dX1_look_36 : decode cX1_look 36 = .ok (.iconst 0, 1) := by decide +kernel
theorem dX1_look_37 : decode cX1_look 37 = .ok (.istore 5, 2) := by decide +kernel
theorem dX1_look_39 : decode cX1_look 39 = .ok (.iconst 1, 1) := by decide +kernel
theorem dX1_look_40 : decode cX1_look 40 = .ok (.istore 6, 2) := by decide +kernel
theorem dX1_look_42 : decode cX1_look 42 = .ok (.iload 6, 2) := by decide +kernel
theorem dX1_look_44 : decode cX1_look 44 = .ok (.bipush 20, 2) := by decide +kernel
theorem dX1_look_46 : decode cX1_look 46 = .ok (.if_icmp .ge 28, 3) := by decide +kernel
theorem dX1_look_49 : decode cX1_look 49 = .ok (.aload_n 0, 1) := by decide +kernel
theorem dX1_look_50 : decode cX1_look 50 = .ok (.iload 6, 2) := by decide +kernel
theorem dX1_look_52 : decode cX1_look 52 = .ok (.invokevirtual 203, 3) := by decide +kernel
theorem dX1_look_55 : decode cX1_look 55 = .ok (.aload_n 0, 1) := by decide +kernel
theorem dX1_look_56 : decode cX1_look 56 = .ok (.iload 5, 2) := by decide +kernel
theorem dX1_look_58 : decode cX1_look 58 = .ok (.invokevirtual 203, 3) := by decide +kernel
theorem dX1_look_61 : decode cX1_look 61 = .ok (.if_icmp .ge 7, 3) := by decide +kernel
theorem dX1_look_64 : decode cX1_look 64 = .ok (.iload 6, 2) := by decide +kernel
theorem dX1_look_66 : decode cX1_look 66 = .ok (.istore 5, 2) := by decide +kernel
theorem dX1_look_68 : decode cX1_look 68 = .ok (.iinc 6 1, 3) := by decide +kernel
theorem dX1_look_71 : decode cX1_look 71 = .ok (.goto (-29), 3) := by decide +kernel
theorem dX1_look_74 : decode cX1_look 74 = .ok (.aload_n 0, 1) := by decide +kernel
theorem dX1_look_75 : decode cX1_look 75 = .ok (.aload_n 0, 1) := by decide +kernel
theorem dX1_look_76 : decode cX1_look 76 = .ok (.iload 5, 2) := by decide +kernel
theorem dX1_look_78 : decode cX1_look 78 = .ok (.invokevirtual 203, 3) := by decide +kernel
theorem dX1_look_81 : decode cX1_look 81 = .ok (.invokevirtual 99, 3) := by decide +kernel
theorem dX1_look_84 : decode cX1_look 84 = .ok (.pop, 1) := by decide +kernel
theorem dX1_look_85 : decode cX1_look 85 = .ok (.iload 5, 2) := by decide +kernel
theorem dX1_look_87 : decode cX1_look 87 = .ok (.iconst 1, 1) := by decide +kernel
theorem dX1_look_88 : decode cX1_look 88 = .ok (.iadd, 1) := by decide +kernel
theorem dX1_look_89 : decode cX1_look 89 = .ok (.ireturn, 1) := by decide +kernel
theorem dX1_greatestDivisor_0 : decode cX1_greatestDivisor 0 = .ok (.lload_n 0, 1) := by decide +kernel
theorem dX1_greatestDivisor_1 : decode cX1_greatestDivisor 1 = .ok (.lstore 4, 2) := by decide +kernel
theorem dX1_greatestDivisor_3 : decode cX1_greatestDivisor 3 = .ok (.lload_n 2, 1) := by decide +kernel
theorem dX1_greatestDivisor_4 : decode cX1_greatestDivisor 4 = .ok (.lstore 6, 2) := by decide +kernel
theorem dX1_greatestDivisor_6 : decode cX1_greatestDivisor 6 = .ok (.iconst 0, 1) := by decide +kernel
theorem dX1_greatestDivisor_7 : decode cX1_greatestDivisor 7 = .ok (.istore 8, 2) := by decide +kernel
theorem dX1_greatestDivisor_9 : decode cX1_greatestDivisor 9 = .ok (.iload 8, 2) := by decide +kernel
theorem dX1_greatestDivisor_11 : decode cX1_greatestDivisor 11 = .ok (.sipush 1000, 3) := by decide +kernel
theorem dX1_greatestDivisor_14 : decode cX1_greatestDivisor 14 = .ok (.if_icmp .ge 31, 3) := by decide +kernel
theorem dX1_greatestDivisor_17 : decode cX1_greatestDivisor 17 = .ok (.lload 6, 2) := by decide +kernel
theorem dX1_greatestDivisor_19 : decode cX1_greatestDivisor 19 = .ok (.lconst 0, 1) := by decide +kernel
theorem dX1_greatestDivisor_20 : decode cX1_greatestDivisor 20 = .ok (.lcmp, 1) := by decide +kernel
theorem dX1_greatestDivisor_21 : decode cX1_greatestDivisor 21 = .ok (.ifCond .eq 24, 3) := by decide +kernel
theorem dX1_greatestDivisor_24 : decode cX1_greatestDivisor 24 = .ok (.lload 4, 2) := by decide +kernel
theorem dX1_greatestDivisor_26 : decode cX1_greatestDivisor 26 = .ok (.lload 6, 2) := by decide +kernel
theorem dX1_greatestDivisor_28 : decode cX1_greatestDivisor 28 = .ok (.lrem, 1) := by decide +kernel
theorem dX1_greatestDivisor_29 : decode cX1_greatestDivisor 29 = .ok (.lstore 9, 2) := by decide +kernel
theorem dX1_greatestDivisor_31 : decode cX1_greatestDivisor 31 = .ok (.lload 6, 2) := by decide +kernel
theorem dX1_greatestDivisor_33 : decode cX1_greatestDivisor 33 = .ok (.lstore 4, 2) := by decide +kernel
theorem dX1_greatestDivisor_35 : decode cX1_greatestDivisor 35 = .ok (.lload 9, 2) := by decide +kernel
theorem dX1_greatestDivisor_37 : decode cX1_greatestDivisor 37 = .ok (.lstore 6, 2) := by decide +kernel
theorem dX1_greatestDivisor_39 : decode cX1_greatestDivisor 39 = .ok (.iinc 8 1, 3) := by decide +kernel
theorem dX1_greatestDivisor_42 : decode cX1_greatestDivisor 42 = .ok (.goto (-33), 3) := by decide +kernel
theorem dX1_greatestDivisor_45 : decode cX1_greatestDivisor 45 = .ok (.lload 4, 2) := by decide +kernel
theorem dX1_greatestDivisor_47 : decode cX1_greatestDivisor 47 = .ok (.lreturn, 1) := by decide +kernel
theorem dX1_tellRatio_0 : decode cX1_tellRatio 0 = .ok (.lload_n 1, 1) := by decide +kernel
theorem dX1_tellRatio_1 : decode cX1_tellRatio 1 = .ok (.lload_n 3, 1) := by decide +kernel
theorem dX1_tellRatio_2 : decode cX1_tellRatio 2 = .ok (.invokestatic 257, 3) := by decide +kernel
theorem dX1_tellRatio_5 : decode cX1_tellRatio 5 = .ok (.lstore 5, 2) := by decide +kernel
theorem dX1_tellRatio_7 : decode cX1_tellRatio 7 = .ok (.lload 5, 2) := by decide +kernel
theorem dX1_tellRatio_9 : decode cX1_tellRatio 9 = .ok (.lconst 0, 1) := by decide +kernel
theorem dX1_tellRatio_10 : decode cX1_tellRatio 10 = .ok (.lcmp, 1) := by decide +kernel
theorem dX1_tellRatio_11 : decode cX1_tellRatio 11 = .ok (.ifCond .le 19, 3) := by decide +kernel
theorem dX1_tellRatio_14 : decode cX1_tellRatio 14 = .ok (.aload_n 0, 1) := by decide +kernel
theorem dX1_tellRatio_15 : decode cX1_tellRatio 15 = .ok (.lload_n 1, 1) := by decide +kernel
theorem dX1_tellRatio_16 : decode cX1_tellRatio 16 = .ok (.lload 5, 2) := by decide +kernel
theorem dX1_tellRatio_18 : decode cX1_tellRatio 18 = .ok (.ldiv, 1) := by decide +kernel
theorem dX1_tellRatio_19 : decode cX1_tellRatio 19 = .ok (.putfield 55, 3) := by decide +kernel
theorem dX1_tellRatio_22 : decode cX1_tellRatio 22 = .ok (.aload_n 0, 1) := by decide +kernel
theorem dX1_tellRatio_23 : decode cX1_tellRatio 23 = .ok (.lload_n 3, 1) := by decide +kernel
theorem dX1_tellRatio_24 : decode cX1_tellRatio 24 = .ok (.lload 5, 2) := by decide +kernel
theorem dX1_tellRatio_26 : decode cX1_tellRatio 26 = .ok (.ldiv, 1) := by decide +kernel
theorem dX1_tellRatio_27 : decode cX1_tellRatio 27 = .ok (.putfield 59, 3) := by decide +kernel
theorem dX1_tellRatio_30 : decode cX1_tellRatio 30 = .ok (.return_, 1) := by decide +kernel
theorem dX1_sets_0 : decode cX1_sets 0 = .ok (.iload_n 1, 1) := by decide +kernel
theorem dX1_sets_1 : decode cX1_sets 1 = .ok (.iconst 0, 1) := by decide +kernel
theorem dX1_sets_2 : decode cX1_sets 2 = .ok (.bipush 120, 2) := by decide +kernel
theorem dX1_sets_4 : decode cX1_sets 4 = .ok (.invokestatic 128, 3) := by decide +kernel
theorem dX1_sets_7 : decode cX1_sets 7 = .ok (.ifCond .ne 5, 3) := by decide +kernel
theorem dX1_sets_10 : decode cX1_sets 10 = .ok (.iconst (-1), 1) := by decide +kernel
theorem dX1_sets_11 : decode cX1_sets 11 = .ok (.ireturn, 1) := by decide +kernel
theorem dX1_sets_12 : decode cX1_sets 12 = .ok (.aload_n 0, 1) := by decide +kernel
theorem dX1_sets_13 : decode cX1_sets 13 = .ok (.getfield 33, 3) := by decide +kernel
theorem dX1_sets_16 : decode cX1_sets 16 = .ok (.getfield 122, 3) := by decide +kernel
theorem dX1_sets_19 : decode cX1_sets 19 = .ok (.ifCond .ne 6, 3) := by decide +kernel
theorem dX1_sets_22 : decode cX1_sets 22 = .ok (.bipush (-4), 2) := by decide +kernel
theorem dX1_sets_24 : decode cX1_sets 24 = .ok (.ireturn, 1) := by decide +kernel
theorem dX1_sets_25 : decode cX1_sets 25 = .ok (.iconst 0, 1) := by decide +kernel
theorem dX1_sets_26 : decode cX1_sets 26 = .ok (.istore_n 2, 1) := by decide +kernel
theorem dX1_sets_27 : decode cX1_sets 27 = .ok (.bipush (-9), 2) := by decide +kernel
theorem dX1_sets_29 : decode cX1_sets 29 = .ok (.istore_n 3, 1) := by decide +kernel
theorem dX1_sets_30 : decode cX1_sets 30 = .ok (.iconst 0, 1) := by decide +kernel
theorem dX1_sets_31 : decode cX1_sets 31 = .ok (.istore 4, 2) := by decide +kernel
theorem dX1_sets_33 : decode cX1_sets 33 = .ok (.iload 4, 2) := by decide +kernel
theorem dX1_sets_35 : decode cX1_sets 35 = .ok (.iconst 1, 1) := by decide +kernel
theorem dX1_sets_36 : decode cX1_sets 36 = .ok (.aload_n 0, 1) := by decide +kernel
theorem dX1_sets_37 : decode cX1_sets 37 = .ok (.getfield 33, 3) := by decide +kernel
theorem dX1_sets_40 : decode cX1_sets 40 = .ok (.getfield 122, 3) := by decide +kernel
theorem dX1_sets_43 : decode cX1_sets 43 = .ok (.ishl, 1) := by decide +kernel
theorem dX1_sets_44 : decode cX1_sets 44 = .ok (.if_icmp .ge 36, 3) := by decide +kernel
theorem dX1_sets_47 : decode cX1_sets 47 = .ok (.aload_n 0, 1) := by decide +kernel
theorem dX1_sets_48 : decode cX1_sets 48 = .ok (.getfield 33, 3) := by decide +kernel
theorem dX1_sets_51 : decode cX1_sets 51 = .ok (.iload 4, 2) := by decide +kernel
theorem dX1_sets_53 : decode cX1_sets 53 = .ok (.invokevirtual 206, 3) := by decide +kernel
theorem dX1_sets_56 : decode cX1_sets 56 = .ok (.iload_n 1, 1) := by decide +kernel
theorem dX1_sets_57 : decode cX1_sets 57 = .ok (.if_icmp .ne 17, 3) := by decide +kernel
theorem dX1_sets_60 : decode cX1_sets 60 = .ok (.iload_n 2, 1) := by decide +kernel
theorem dX1_sets_61 : decode cX1_sets 61 = .ok (.ifCond .ne 8, 3) := by decide +kernel
theorem dX1_sets_64 : decode cX1_sets 64 = .ok (.iload 4, 2) := by decide +kernel
theorem dX1_sets_66 : decode cX1_sets 66 = .ok (.goto 4, 3) := by decide +kernel
theorem dX1_sets_69 : decode cX1_sets 69 = .ok (.iload_n 3, 1) := by decide +kernel
theorem dX1_sets_70 : decode cX1_sets 70 = .ok (.istore_n 3, 1) := by decide +kernel
theorem dX1_sets_71 : decode cX1_sets 71 = .ok (.iinc 2 1, 3) := by decide +kernel
theorem dX1_sets_74 : decode cX1_sets 74 = .ok (.iinc 4 1, 3) := by decide +kernel
theorem dX1_sets_77 : decode cX1_sets 77 = .ok (.goto (-44), 3) := by decide +kernel
theorem dX1_sets_80 : decode cX1_sets 80 = .ok (.aload_n 0, 1) := by decide +kernel
theorem dX1_sets_81 : decode cX1_sets 81 = .ok (.iload_n 2, 1) := by decide +kernel
theorem dX1_sets_82 : decode cX1_sets 82 = .ok (.i2l, 1) := by decide +kernel
theorem dX1_sets_83 : decode cX1_sets 83 = .ok (.lconst 1, 1) := by decide +kernel
theorem dX1_sets_84 : decode cX1_sets 84 = .ok (.invokevirtual 209, 3) := by decide +kernel
theorem dX1_sets_87 : decode cX1_sets 87 = .ok (.aload_n 0, 1) := by decide +kernel
theorem dX1_sets_88 : decode cX1_sets 88 = .ok (.iload_n 3, 1) := by decide +kernel
theorem dX1_sets_89 : decode cX1_sets 89 = .ok (.invokevirtual 99, 3) := by decide +kernel
theorem dX1_sets_92 : decode cX1_sets 92 = .ok (.ireturn, 1) := by decide +kernel
theorem dX1_sure_0 : decode cX1_sure 0 = .ok (.iload_n 1, 1) := by decide +kernel
theorem dX1_sure_1 : decode cX1_sure 1 = .ok (.iconst 0, 1) := by decide +kernel
theorem dX1_sure_2 : decode cX1_sure 2 = .ok (.bipush 120, 2) := by decide +kernel
theorem dX1_sure_4 : decode cX1_sure 4 = .ok (.invokestatic 128, 3) := by decide +kernel
theorem dX1_sure_7 : decode cX1_sure 7 = .ok (.ifCond .ne 5, 3) := by decide +kernel
theorem dX1_sure_10 : decode cX1_sure 10 = .ok (.iconst (-1), 1) := by decide +kernel
theorem dX1_sure_11 : decode cX1_sure 11 = .ok (.ireturn, 1) := by decide +kernel
theorem dX1_sure_12 : decode cX1_sure 12 = .ok (.aload_n 0, 1) := by decide +kernel
theorem dX1_sure_13 : decode cX1_sure 13 = .ok (.getfield 33, 3) := by decide +kernel
theorem dX1_sure_16 : decode cX1_sure 16 = .ok (.getfield 122, 3) := by decide +kernel
theorem dX1_sure_19 : decode cX1_sure 19 = .ok (.ifCond .ne 6, 3) := by decide +kernel
theorem dX1_sure_22 : decode cX1_sure 22 = .ok (.bipush (-4), 2) := by decide +kernel
theorem dX1_sure_24 : decode cX1_sure 24 = .ok (.ireturn, 1) := by decide +kernel
theorem dX1_sure_25 : decode cX1_sure 25 = .ok (.iconst 1, 1) := by decide +kernel
theorem dX1_sure_26 : decode cX1_sure 26 = .ok (.aload_n 0, 1) := by decide +kernel
theorem dX1_sure_27 : decode cX1_sure 27 = .ok (.getfield 33, 3) := by decide +kernel
theorem dX1_sure_30 : decode cX1_sure 30 = .ok (.getfield 122, 3) := by decide +kernel
theorem dX1_sure_33 : decode cX1_sure 33 = .ok (.ishl, 1) := by decide +kernel
theorem dX1_sure_34 : decode cX1_sure 34 = .ok (.iconst 1, 1) := by decide +kernel
theorem dX1_sure_35 : decode cX1_sure 35 = .ok (.isub, 1) := by decide +kernel
theorem dX1_sure_36 : decode cX1_sure 36 = .ok (.istore_n 2, 1) := by decide +kernel
theorem dX1_sure_37 : decode cX1_sure 37 = .ok (.iload_n 2, 1) := by decide +kernel
theorem dX1_sure_38 : decode cX1_sure 38 = .ok (.istore_n 3, 1) := by decide +kernel
theorem dX1_sure_39 : decode cX1_sure 39 = .ok (.iconst 0, 1) := by decide +kernel
theorem dX1_sure_40 : decode cX1_sure 40 = .ok (.istore 4, 2) := by decide +kernel
theorem dX1_sure_42 : decode cX1_sure 42 = .ok (.iconst 1, 1) := by decide +kernel
theorem dX1_sure_43 : decode cX1_sure 43 = .ok (.istore 5, 2) := by decide +kernel
theorem dX1_sure_45 : decode cX1_sure 45 = .ok (.iconst 0, 1) := by decide +kernel
theorem dX1_sure_46 : decode cX1_sure 46 = .ok (.istore 6, 2) := by decide +kernel
theorem dX1_sure_48 : decode cX1_sure 48 = .ok (.iload 6, 2) := by decide +kernel
theorem dX1_sure_50 : decode cX1_sure 50 = .ok (.iload_n 2, 1) := by decide +kernel
theorem dX1_sure_51 : decode cX1_sure 51 = .ok (.if_icmp .gt 37, 3) := by decide +kernel
theorem dX1_sure_54 : decode cX1_sure 54 = .ok (.aload_n 0, 1) := by decide +kernel
theorem dX1_sure_55 : decode cX1_sure 55 = .ok (.getfield 33, 3) := by decide +kernel
theorem dX1_sure_58 : decode cX1_sure 58 = .ok (.iload 6, 2) := by decide +kernel
theorem dX1_sure_60 : decode cX1_sure 60 = .ok (.invokevirtual 206, 3) := by decide +kernel
theorem dX1_sure_63 : decode cX1_sure 63 = .ok (.iload_n 1, 1) := by decide +kernel
theorem dX1_sure_64 : decode cX1_sure 64 = .ok (.if_icmp .ne 18, 3) := by decide +kernel
theorem dX1_sure_67 : decode cX1_sure 67 = .ok (.iload_n 3, 1) := by decide +kernel
theorem dX1_sure_68 : decode cX1_sure 68 = .ok (.iload 6, 2) := by decide +kernel
theorem dX1_sure_70 : decode cX1_sure 70 = .ok (.iand, 1) := by decide +kernel
theorem dX1_sure_71 : decode cX1_sure 71 = .ok (.istore_n 3, 1) := by decide +kernel
theorem dX1_sure_72 : decode cX1_sure 72 = .ok (.iload 4, 2) := by decide +kernel
theorem dX1_sure_74 : decode cX1_sure 74 = .ok (.iload 6, 2) := by decide +kernel
theorem dX1_sure_76 : decode cX1_sure 76 = .ok (.ior, 1) := by decide +kernel
theorem dX1_sure_77 : decode cX1_sure 77 = .ok (.istore 4, 2) := by decide +kernel
theorem dX1_sure_79 : decode cX1_sure 79 = .ok (.iconst 0, 1) := by decide +kernel
theorem dX1_sure_80 : decode cX1_sure 80 = .ok (.istore 5, 2) := by decide +kernel
theorem dX1_sure_82 : decode cX1_sure 82 = .ok (.iinc 6 1, 3) := by decide +kernel
theorem dX1_sure_85 : decode cX1_sure 85 = .ok (.goto (-37), 3) := by decide +kernel
theorem dX1_sure_88 : decode cX1_sure 88 = .ok (.iload 5, 2) := by decide +kernel
theorem dX1_sure_90 : decode cX1_sure 90 = .ok (.ifCond .eq 9, 3) := by decide +kernel
theorem dX1_sure_93 : decode cX1_sure 93 = .ok (.aload_n 0, 1) := by decide +kernel
theorem dX1_sure_94 : decode cX1_sure 94 = .ok (.iconst 4, 1) := by decide +kernel
theorem dX1_sure_95 : decode cX1_sure 95 = .ok (.invokevirtual 87, 3) := by decide +kernel
theorem dX1_sure_98 : decode cX1_sure 98 = .ok (.ireturn, 1) := by decide +kernel
theorem dX1_sure_99 : decode cX1_sure 99 = .ok (.aload_n 0, 1) := by decide +kernel
theorem dX1_sure_100 : decode cX1_sure 100 = .ok (.iload_n 2, 1) := by decide +kernel
theorem dX1_sure_101 : decode cX1_sure 101 = .ok (.iload 4, 2) := by decide +kernel
theorem dX1_sure_103 : decode cX1_sure 103 = .ok (.iconst (-1), 1) := by decide +kernel
theorem dX1_sure_104 : decode cX1_sure 104 = .ok (.ixor, 1) := by decide +kernel
theorem dX1_sure_105 : decode cX1_sure 105 = .ok (.iand, 1) := by decide +kernel
theorem dX1_sure_106 : decode cX1_sure 106 = .ok (.invokevirtual 99, 3) := by decide +kernel
theorem dX1_sure_109 : decode cX1_sure 109 = .ok (.pop, 1) := by decide +kernel
theorem dX1_sure_110 : decode cX1_sure 110 = .ok (.iload_n 3, 1) := by decide +kernel
theorem dX1_sure_111 : decode cX1_sure 111 = .ok (.ireturn, 1) := by decide +kernel
theorem mt_X1_goesAsideBy : (Cond.instanceMethod yX1_goesAsideBy ∈ gd_tbl ∧ Cond.selects yX1_goesAsideBy.cls yX1_goesAsideBy yX1_goesAsideBy ∈ gd_tbl) ∧ Cond.initialized yX1_goesAsideBy.cls ∈ gd_tbl ∧ Cond.code yX1_goesAsideBy cX1_goesAsideBy 3 (some .boolean) ∈ gd_tbl := ⟨⟨in_gd (i := 376) (by decide +kernel) rfl, in_gd (i := 23) (by decide +kernel) rfl⟩, in_gd (i := 36) (by decide +kernel) rfl, in_gd (i := 377) (by decide +kernel) rfl⟩
theorem yo_X1_goesAsideBy : yOk yX1_goesAsideBy 1 := ⟨by decide, by decide, by decide +kernel⟩
theorem l_X1_197 : mlV RX1 197 yX1_goesAsideBy cX1_goesAsideBy 3 (some .boolean) := ⟨in_gd (i := 374) (by decide +kernel) rfl, mt_X1_goesAsideBy⟩
theorem mt_X1_refusalOfHolders : (Cond.instanceMethod yX1_refusalOfHolders ∈ gd_tbl ∧ Cond.selects yX1_refusalOfHolders.cls yX1_refusalOfHolders yX1_refusalOfHolders ∈ gd_tbl) ∧ Cond.initialized yX1_refusalOfHolders.cls ∈ gd_tbl ∧ Cond.code yX1_refusalOfHolders cX1_refusalOfHolders 5 (some .int) ∈ gd_tbl := ⟨⟨in_gd (i := 368) (by decide +kernel) rfl, in_gd (i := 21) (by decide +kernel) rfl⟩, in_gd (i := 36) (by decide +kernel) rfl, in_gd (i := 369) (by decide +kernel) rfl⟩
theorem yo_X1_refusalOfHolders : yOk yX1_refusalOfHolders 2 := ⟨by decide, by decide, by decide +kernel⟩
theorem l_X1_191 : mlV RX1 191 yX1_refusalOfHolders cX1_refusalOfHolders 5 (some .int) := ⟨in_gd (i := 366) (by decide +kernel) rfl, mt_X1_refusalOfHolders⟩
theorem mt_X1_daringsBy : (Cond.instanceMethod yX1_daringsBy ∈ gd_tbl ∧ Cond.selects yX1_daringsBy.cls yX1_daringsBy yX1_daringsBy ∈ gd_tbl) ∧ Cond.initialized yX1_daringsBy.cls ∈ gd_tbl ∧ Cond.code yX1_daringsBy cX1_daringsBy 5 (some .int) ∈ gd_tbl := ⟨⟨in_gd (i := 372) (by decide +kernel) rfl, in_gd (i := 22) (by decide +kernel) rfl⟩, in_gd (i := 36) (by decide +kernel) rfl, in_gd (i := 373) (by decide +kernel) rfl⟩
theorem yo_X1_daringsBy : yOk yX1_daringsBy 2 := ⟨by decide, by decide, by decide +kernel⟩
theorem l_X1_194 : mlV RX1 194 yX1_daringsBy cX1_daringsBy 5 (some .int) := ⟨in_gd (i := 370) (by decide +kernel) rfl, mt_X1_daringsBy⟩
theorem fl_X1_74 : FLk RX1 74 1 18 := Or.inl (in_gd (i := 111) (by decide +kernel) rfl)
theorem mt_X1_placeOf : Cond.static yX1_placeOf ∈ gd_tbl ∧ Cond.initialized yX1_placeOf.cls ∈ gd_tbl ∧ Cond.code yX1_placeOf cX1_placeOf 1 (some .int) ∈ gd_tbl := ⟨in_gd (i := 391) (by decide +kernel) rfl, in_gd (i := 36) (by decide +kernel) rfl, in_gd (i := 392) (by decide +kernel) rfl⟩
theorem yo_X1_placeOf : yOk yX1_placeOf 1 := ⟨by decide, by decide, by decide +kernel⟩
theorem l_X1_296 : mlS RX1 296 yX1_placeOf cX1_placeOf 1 (some .int) := ⟨in_gd (i := 390) (by decide +kernel) rfl, mt_X1_placeOf⟩
theorem mt_X1_countParts : (Cond.instanceMethod yX1_countParts ∈ gd_tbl ∧ Cond.selects yX1_countParts.cls yX1_countParts yX1_countParts ∈ gd_tbl) ∧ Cond.initialized yX1_countParts.cls ∈ gd_tbl ∧ Cond.code yX1_countParts cX1_countParts 5 (none) ∈ gd_tbl := ⟨⟨in_gd (i := 388) (by decide +kernel) rfl, in_gd (i := 24) (by decide +kernel) rfl⟩, in_gd (i := 36) (by decide +kernel) rfl, in_gd (i := 389) (by decide +kernel) rfl⟩
theorem yo_X1_countParts : yOk yX1_countParts 2 := ⟨by decide, by decide, by decide +kernel⟩
theorem l_X1_200 : mlV RX1 200 yX1_countParts cX1_countParts 5 (none) := ⟨in_gd (i := 386) (by decide +kernel) rfl, mt_X1_countParts⟩
theorem mt_X1_greatestPart : (Cond.instanceMethod yX1_greatestPart ∈ gd_tbl ∧ Cond.selects yX1_greatestPart.cls yX1_greatestPart yX1_greatestPart ∈ gd_tbl) ∧ Cond.initialized yX1_greatestPart.cls ∈ gd_tbl ∧ Cond.code yX1_greatestPart cX1_greatestPart 7 (some .int) ∈ gd_tbl := ⟨⟨in_gd (i := 395) (by decide +kernel) rfl, in_gd (i := 25) (by decide +kernel) rfl⟩, in_gd (i := 36) (by decide +kernel) rfl, in_gd (i := 396) (by decide +kernel) rfl⟩
theorem yo_X1_greatestPart : yOk yX1_greatestPart 1 := ⟨by decide, by decide, by decide +kernel⟩
theorem l_X1_203 : mlV RX1 203 yX1_greatestPart cX1_greatestPart 7 (some .int) := ⟨in_gd (i := 393) (by decide +kernel) rfl, mt_X1_greatestPart⟩
theorem mt_X1_greatestDivisor : Cond.static yX1_greatestDivisor ∈ gd_tbl ∧ Cond.initialized yX1_greatestDivisor.cls ∈ gd_tbl ∧ Cond.code yX1_greatestDivisor cX1_greatestDivisor 11 (some .long) ∈ gd_tbl := ⟨in_gd (i := 410) (by decide +kernel) rfl, in_gd (i := 36) (by decide +kernel) rfl, in_gd (i := 411) (by decide +kernel) rfl⟩
theorem yo_X1_greatestDivisor : yOk yX1_greatestDivisor 2 := ⟨by decide, by decide, by decide +kernel⟩
theorem l_X1_257 : mlS RX1 257 yX1_greatestDivisor cX1_greatestDivisor 11 (some .long) := ⟨in_gd (i := 409) (by decide +kernel) rfl, mt_X1_greatestDivisor⟩
theorem fl_X1_55 : FLk RX1 55 1 12 := Or.inl (in_gd (i := 105) (by decide +kernel) rfl)
theorem fl_X1_59 : FLk RX1 59 1 13 := Or.inl (in_gd (i := 106) (by decide +kernel) rfl)
theorem mt_X1_tellRatio : (Cond.instanceMethod yX1_tellRatio ∈ gd_tbl ∧ Cond.selects yX1_tellRatio.cls yX1_tellRatio yX1_tellRatio ∈ gd_tbl) ∧ Cond.initialized yX1_tellRatio.cls ∈ gd_tbl ∧ Cond.code yX1_tellRatio cX1_tellRatio 7 (none) ∈ gd_tbl := ⟨⟨in_gd (i := 407) (by decide +kernel) rfl, in_gd (i := 27) (by decide +kernel) rfl⟩, in_gd (i := 36) (by decide +kernel) rfl, in_gd (i := 408) (by decide +kernel) rfl⟩
theorem yo_X1_tellRatio : yOk yX1_tellRatio 2 := ⟨by decide, by decide, by decide +kernel⟩
theorem l_X1_209 : mlV RX1 209 yX1_tellRatio cX1_tellRatio 7 (none) := ⟨in_gd (i := 405) (by decide +kernel) rfl, mt_X1_tellRatio⟩
theorem mt_X0_daringOf : (Cond.instanceMethod yX0_daringOf ∈ gd_tbl ∧ Cond.selects yX0_daringOf.cls yX0_daringOf yX0_daringOf ∈ gd_tbl) ∧ Cond.initialized yX0_daringOf.cls ∈ gd_tbl ∧ Cond.code yX0_daringOf cX0_daringOf 4 (some .int) ∈ gd_tbl := ⟨⟨in_gd (i := 403) (by decide +kernel) rfl, in_gd (i := 26) (by decide +kernel) rfl⟩, in_gd (i := 37) (by decide +kernel) rfl, in_gd (i := 404) (by decide +kernel) rfl⟩
theorem yo_X0_daringOf : yOk yX0_daringOf 1 := ⟨by decide, by decide, by decide +kernel⟩
theorem l_X1_206 : mlW RX1 206 yX0_daringOf cX0_daringOf 4 (some .int) "DareFord" := ⟨in_ns (i := 401) (by decide +kernel) rfl, mt_X0_daringOf⟩
def fX1_daringsBy_L5 (p1 : Int) (p2 : Int) : Nat → Int → Int → Mem → Option (Int × Mem)
  | 0, _, _, _ => none
  | n4 + 1, x1, x2, μ3 =>
    if 20 < x2 then
      some (x1, μ3)
    else
      (fX0_become 25 20 μ3).bind fun μ5 =>
      grd (0 ≤ p1 ∧ p1 < 6) <|
      mlet (wr μ5 28 (p1).toNat x2) fun μ6 =>
      bnd2 (fX1_goesAsideBy p2 μ6) fun x7 μ8 =>
      mlet (fun (x9 : Int) =>
        mlet (w32 (x2 + 1)) fun x11 =>
        fX1_daringsBy_L5 p1 p2 n4 x9 x11 μ8
        ) fun (K10 : Int → Option (Int × Mem)) =>
      if x7 = 0 then
        K10 x1
      else
        mlet ((bor x1 (bshl 1 x2))) fun x12 =>
        K10 x12
def fX1_daringsBy (p1 : Int) (p2 : Int) (μ : Mem) : Option (Int × Mem) :=
  fX1_daringsBy_L5 p1 p2 fuel 0 0 μ
theorem K_X1_daringsBy {σ : Scr}  (p1 : Int) (p2 : Int)  (μ : Mem) : Con σ yX1_daringsBy cX1_daringsBy 5 (some .int) 8 [.inr (.inr 0), .inl p1, .inl p2] μ (fX1_daringsBy p1 p2 μ) wI := by
  refine con_of (own := RX1) (by decide) rfl (Nat.le_of_ble_eq_true rfl) ?_
  show Sim σ cX1_daringsBy 5 RX1 (8) (some .int) wI 0 [(0, .inr (.inr 0)), (1, .inl p1), (2, .inl p2)] [] μ (fX1_daringsBy p1 p2 μ)
  unfold fX1_daringsBy
  refine S_iconst dX1_daringsBy_0 rfl ?_
  refine S_istore_n (lv' := [(3, .inl 0), (0, .inr (.inr 0)), (1, .inl p1), (2, .inl p2)]) dX1_daringsBy_1 rfl rfl ?_
  refine S_iconst dX1_daringsBy_2 rfl ?_
  refine S_istore (lv' := [(4, .inl 0), (3, .inl 0), (0, .inr (.inr 0)), (1, .inl p1), (2, .inl p2)]) dX1_daringsBy_3 rfl rfl ?_
  have hL5 : ∀ (n4 : Nat) (x1 : Int) (x2 : Int) (μ3 : Mem), Sim σ cX1_daringsBy 5 RX1 (8) (some .int) wI 5 [(0, .inr (.inr 0)), (1, .inl p1), (2, .inl p2), (3, .inl x1), (4, .inl x2)] [] μ3 (fX1_daringsBy_L5 p1 p2 n4 x1 x2 μ3) := by
    intro n4
    induction n4 with
    | zero =>
      intro x1 x2 μ3
      exact S_none rfl
    | succ n4 ih =>
      intro x1 x2 μ3
      rw [fX1_daringsBy_L5]
      refine S_iload dX1_daringsBy_5 rfl ?_
      refine S_bipush dX1_daringsBy_7 rfl (by decide) ?_
      refine S_ic_gt (tgt := 55) dX1_daringsBy_9 (by decide) (fun h14 => ?_) (fun h14 => ?_)
      · refine S_iload_n dX1_daringsBy_55 rfl ?_
        exact S_iret dX1_daringsBy_56 rfl rfl
      · refine S_aload_n dX1_daringsBy_12 rfl ?_
        refine S_getR (c1 := 25) dX1_daringsBy_13 rfl fl_X1_36 rfl rfl rfl ?_
        refine S_aload_n dX1_daringsBy_16 rfl ?_
        refine S_getR (c1 := 20) dX1_daringsBy_17 rfl fl_X1_33 rfl rfl rfl ?_
        refine S_callW_V dX1_daringsBy_20 [.inr (.inr 20)] (K_X0_become (by unfold isBk; decide) (by unfold isBk; decide) μ3) l_X1_118 yo_X0_become rfl rfl rfl rfl rfl (fun μ5 => ?_)
        refine S_aload_n dX1_daringsBy_23 rfl ?_
        refine S_getR (c1 := 25) dX1_daringsBy_24 rfl fl_X1_36 rfl rfl rfl ?_
        refine S_getR (c1 := 28) dX1_daringsBy_27 rfl fl_X1_156 rfl rfl rfl ?_
        refine S_iload_n dX1_daringsBy_30 rfl ?_
        refine S_iload dX1_daringsBy_31 rfl ?_
        refine S_iast (N := 6) dX1_daringsBy_33 rfl (by decide) rfl (fun μ6 => ?_)
        refine S_aload_n dX1_daringsBy_34 rfl ?_
        refine S_iload_n dX1_daringsBy_35 rfl ?_
        refine S_callV_M2 dX1_daringsBy_36 [.inl p2] (K_X1_goesAsideBy p2 μ6) l_X1_197 yo_X1_goesAsideBy rfl rfl rfl rfl rfl (fun x7 μ8 => ?_)
        refine S_jn (fun (K10 : Int → Option (Int × Mem)) => ∀ (x9 : Int), Sim σ cX1_daringsBy 5 RX1 (8) (some .int) wI 49 [(0, .inr (.inr 0)), (1, .inl p1), (2, .inl p2), (3, .inl x9), (4, .inl x2)] [] μ8 (K10 x9)) ?_ (fun K10 hK10 => ?_)
        · intro x9
          refine S_iinc (lv' := fun x11 => [(4, .inl x11), (0, .inr (.inr 0)), (1, .inl p1), (2, .inl p2), (3, .inl x9)]) dX1_daringsBy_49 rfl rfl rfl (fun _ => rfl) (fun x11 => ?_)
          refine S_goto (tgt := 5) dX1_daringsBy_52 (by decide) ?_
          exact S_sub [1, 2, 3, 4, 0] rfl (ih x9 x11 μ8)
        refine S_if_eq (tgt := 49) dX1_daringsBy_39 (by decide) (fun h13 => ?_) (fun h13 => ?_)
        · exact S_sub [0, 1, 2, 3, 4] rfl (hK10 x1)
        · refine S_iload_n dX1_daringsBy_42 rfl ?_
          refine S_iconst dX1_daringsBy_43 rfl ?_
          refine S_iload dX1_daringsBy_44 rfl ?_
          refine S_ishl dX1_daringsBy_46 ?_
          refine S_ior dX1_daringsBy_47 ?_
          refine S_let (fun x12 => ?_)
          refine S_istore_n (lv' := [(3, .inl x12), (0, .inr (.inr 0)), (1, .inl p1), (2, .inl p2), (4, .inl x2)]) dX1_daringsBy_48 rfl rfl ?_
          exact S_sub [1, 2, 3, 0, 4] rfl (hK10 x12)
  exact S_sub [2, 3, 4, 1, 0] rfl (hL5 fuel 0 0 μ)
def fX1_refusalOfHolders_L56 (x3 : Int) (μ : Mem) (p2 : Int) (K5 : Option (Int × Mem)) : Nat → Int → Option (Int × Mem)
  | 0, _ => none
  | n9 + 1, x8 =>
    if x3 ≤ x8 then
      some (0, μ)
    else
      grd (0 ≤ p2 ∧ p2 < 6) <|
      mlet (2 + (p2).toNat) fun c10 =>
      grd (0 ≤ x8 ∧ x8 < 40) <|
      (fX0_has 20 (μ c10 (x8).toNat) μ).bind fun x11 =>
      if ¬ x11 = 0 then
        mlet (w32 (x8 + 1)) fun x12 =>
        fX1_refusalOfHolders_L56 x3 μ p2 K5 n9 x12
      else
        K5
def fX1_refusalOfHolders (p1 : Int) (p2 : Int) (μ : Mem) : Option (Int × Mem) :=
  (fX0_has 20 p1 μ).bind fun x1 =>
  if x1 = 0 then
    some ((-1), μ)
  else
    (fX1_isRow p2 μ).bind fun x2 =>
    if ¬ x2 = 0 then
      grd (0 ≤ p2 ∧ p2 < 6) <|
      mlet ((μ 8 (p2).toNat)) fun x3 =>
      if 0 ≤ x3 then
        (fX1_isWithin x3 1 10 μ).bind fun x4 =>
        if ¬ x4 = 0 then
          mlet (
            bnd2 (fX1_found 3 μ) fun x6 μ7 =>
            some (x6, μ7)
            : Option (Int × Mem)) fun (K5 : Option (Int × Mem)) =>
          fX1_refusalOfHolders_L56 x3 μ p2 K5 fuel 0
        else
          bnd2 (fX1_found 5 μ) fun x15 μ16 =>
          some (x15, μ16)
      else
        bnd2 (fX1_found 1 μ) fun x18 μ19 =>
        some (x18, μ19)
    else
      some ((-1), μ)
theorem K_X1_refusalOfHolders {σ : Scr}  (p1 : Int) (p2 : Int)  (μ : Mem) : Con σ yX1_refusalOfHolders cX1_refusalOfHolders 5 (some .int) 4 [.inr (.inr 0), .inl p1, .inl p2] μ (fX1_refusalOfHolders p1 p2 μ) wI := by
  refine con_of (own := RX1) (by decide) rfl (Nat.le_of_ble_eq_true rfl) ?_
  show Sim σ cX1_refusalOfHolders 5 RX1 (4) (some .int) wI 0 [(0, .inr (.inr 0)), (1, .inl p1), (2, .inl p2)] [] μ (fX1_refusalOfHolders p1 p2 μ)
  unfold fX1_refusalOfHolders
  refine S_aload_n dX1_refusalOfHolders_0 rfl ?_
  refine S_getR (c1 := 20) dX1_refusalOfHolders_1 rfl fl_X1_33 rfl rfl rfl ?_
  refine S_iload_n dX1_refusalOfHolders_4 rfl ?_
  refine S_callW_I dX1_refusalOfHolders_5 [.inl p1] (K_X0_has (by unfold isBk; decide) p1 μ) l_X1_125 yo_X0_has rfl rfl rfl rfl rfl (fun x1 => ?_)
  refine S_if_eq (tgt := 18) dX1_refusalOfHolders_8 (by decide) (fun h22 => ?_) (fun h22 => ?_)
  · refine S_iconst dX1_refusalOfHolders_18 rfl ?_
    exact S_iret dX1_refusalOfHolders_19 rfl rfl
  · refine S_iload_n dX1_refusalOfHolders_11 rfl ?_
    refine S_callS_I dX1_refusalOfHolders_12 [.inl p2] (K_X1_isRow p2 μ) l_X1_83 yo_X1_isRow rfl rfl rfl (fun x2 => ?_)
    refine S_if_ne (tgt := 20) dX1_refusalOfHolders_15 (by decide) (fun h21 => ?_) (fun h21 => ?_)
    · refine S_aload_n dX1_refusalOfHolders_20 rfl ?_
      refine S_getR (c1 := 8) dX1_refusalOfHolders_21 rfl fl_X1_14 rfl rfl rfl ?_
      refine S_iload_n dX1_refusalOfHolders_24 rfl ?_
      refine S_iald (N := 6) dX1_refusalOfHolders_25 rfl (by decide) rfl ?_
      refine S_let (fun x3 => ?_)
      refine S_istore_n (lv' := [(3, .inl x3), (0, .inr (.inr 0)), (1, .inl p1), (2, .inl p2)]) dX1_refusalOfHolders_26 rfl rfl ?_
      refine S_iload_n dX1_refusalOfHolders_27 rfl ?_
      refine S_if_ge (tgt := 37) dX1_refusalOfHolders_28 (by decide) (fun h20 => ?_) (fun h20 => ?_)
      · refine S_iload_n dX1_refusalOfHolders_37 rfl ?_
        refine S_iconst dX1_refusalOfHolders_38 rfl ?_
        refine S_bipush dX1_refusalOfHolders_39 rfl (by decide) ?_
        refine S_callS_I dX1_refusalOfHolders_41 [.inl x3, .inl 1, .inl 10] (K_X1_isWithin x3 1 10 μ) l_X1_128 yo_X1_isWithin rfl rfl rfl (fun x4 => ?_)
        refine S_if_ne (tgt := 53) dX1_refusalOfHolders_44 (by decide) (fun h17 => ?_) (fun h17 => ?_)
        · refine S_iconst dX1_refusalOfHolders_53 rfl ?_
          refine S_istore (lv' := [(4, .inl 0), (3, .inl x3), (0, .inr (.inr 0)), (1, .inl p1), (2, .inl p2)]) dX1_refusalOfHolders_54 rfl rfl ?_
          refine S_jn (fun (K5 : Option (Int × Mem)) => Sim σ cX1_refusalOfHolders 5 RX1 (4) (some .int) wI 81 [(0, .inr (.inr 0))] [] μ K5) ?_ (fun K5 hK5 => ?_)
          · skip
            refine S_aload_n dX1_refusalOfHolders_81 rfl ?_
            refine S_iconst dX1_refusalOfHolders_82 rfl ?_
            refine S_callV_M2 dX1_refusalOfHolders_83 [.inl 3] (K_X1_found 3 μ) l_X1_87 yo_X1_found rfl rfl rfl rfl rfl (fun x6 μ7 => ?_)
            exact S_iret dX1_refusalOfHolders_86 rfl rfl
          have hL56 : ∀ (n9 : Nat) (x8 : Int), Sim σ cX1_refusalOfHolders 5 RX1 (4) (some .int) wI 56 [(0, .inr (.inr 0)), (2, .inl p2), (3, .inl x3), (4, .inl x8)] [] μ (fX1_refusalOfHolders_L56 x3 μ p2 K5 n9 x8) := by
            intro n9
            induction n9 with
            | zero =>
              intro x8
              exact S_none rfl
            | succ n9 ih =>
              intro x8
              rw [fX1_refusalOfHolders_L56]
              refine S_iload dX1_refusalOfHolders_56 rfl ?_
              refine S_iload_n dX1_refusalOfHolders_58 rfl ?_
              refine S_ic_ge (tgt := 93) dX1_refusalOfHolders_59 (by decide) (fun h14 => ?_) (fun h14 => ?_)
              · refine S_iconst dX1_refusalOfHolders_93 rfl ?_
                exact S_iret dX1_refusalOfHolders_94 rfl rfl
              · refine S_aload_n dX1_refusalOfHolders_62 rfl ?_
                refine S_getR (c1 := 20) dX1_refusalOfHolders_63 rfl fl_X1_33 rfl rfl rfl ?_
                refine S_aload_n dX1_refusalOfHolders_66 rfl ?_
                refine S_getR (c1 := 1) dX1_refusalOfHolders_67 rfl fl_X1_11 rfl rfl rfl ?_
                refine S_iload_n dX1_refusalOfHolders_70 rfl ?_
                refine S_aald (N := 6) (c1 := 2) (c2 := 8) dX1_refusalOfHolders_71 rfl (by decide) (by decide) rfl rfl rfl (fun c10 hc10 => ?_)
                refine S_iload dX1_refusalOfHolders_72 rfl ?_
                refine S_iald (N := 40) dX1_refusalOfHolders_74 (kd_row hc10) (fam_lt hc10 (by decide)) rfl ?_
                refine S_callW_I dX1_refusalOfHolders_75 [.inl (μ c10 (x8).toNat)] (K_X0_has (by unfold isBk; decide) (μ c10 (x8).toNat) μ) l_X1_125 yo_X0_has rfl rfl rfl rfl rfl (fun x11 => ?_)
                refine S_if_ne (tgt := 87) dX1_refusalOfHolders_78 (by decide) (fun h13 => ?_) (fun h13 => ?_)
                · refine S_iinc (lv' := fun x12 => [(4, .inl x12), (0, .inr (.inr 0)), (2, .inl p2), (3, .inl x3)]) dX1_refusalOfHolders_87 rfl rfl rfl (fun _ => rfl) (fun x12 => ?_)
                  refine S_goto (tgt := 56) dX1_refusalOfHolders_90 (by decide) ?_
                  exact S_sub [1, 2, 3, 0] rfl (ih x12)
                · exact S_sub [0] rfl (hK5)
          exact S_sub [2, 4, 1, 0] rfl (hL56 fuel 0)
        · refine S_aload_n dX1_refusalOfHolders_47 rfl ?_
          refine S_iconst dX1_refusalOfHolders_48 rfl ?_
          refine S_callV_M2 dX1_refusalOfHolders_49 [.inl 5] (K_X1_found 5 μ) l_X1_87 yo_X1_found rfl rfl rfl rfl rfl (fun x15 μ16 => ?_)
          exact S_iret dX1_refusalOfHolders_52 rfl rfl
      · refine S_aload_n dX1_refusalOfHolders_31 rfl ?_
        refine S_iconst dX1_refusalOfHolders_32 rfl ?_
        refine S_callV_M2 dX1_refusalOfHolders_33 [.inl 1] (K_X1_found 1 μ) l_X1_87 yo_X1_found rfl rfl rfl rfl rfl (fun x18 μ19 => ?_)
        exact S_iret dX1_refusalOfHolders_36 rfl rfl
    · refine S_iconst dX1_refusalOfHolders_18 rfl ?_
      exact S_iret dX1_refusalOfHolders_19 rfl rfl
def fX1_darings (p1 : Int) (p2 : Int) (μ : Mem) : Option (Int × Mem) :=
  bnd2 (fX1_refusalOfHolders p1 p2 μ) fun x1 μ2 =>
  if x1 = 0 then
    bnd2 (fX1_daringsBy p1 p2 μ2) fun x3 μ4 =>
    some (x3, μ4)
  else
    some (x1, μ2)
theorem K_X1_darings {σ : Scr}  (p1 : Int) (p2 : Int)  (μ : Mem) : Con σ yX1_darings cX1_darings 4 (some .int) 9 [.inr (.inr 0), .inl p1, .inl p2] μ (fX1_darings p1 p2 μ) wI := by
  refine con_of (own := RX1) (by decide) rfl (Nat.le_of_ble_eq_true rfl) ?_
  show Sim σ cX1_darings 4 RX1 (9) (some .int) wI 0 [(0, .inr (.inr 0)), (1, .inl p1), (2, .inl p2)] [] μ (fX1_darings p1 p2 μ)
  unfold fX1_darings
  refine S_aload_n dX1_darings_0 rfl ?_
  refine S_iload_n dX1_darings_1 rfl ?_
  refine S_iload_n dX1_darings_2 rfl ?_
  refine S_callV_M2 dX1_darings_3 [.inl p1, .inl p2] (K_X1_refusalOfHolders p1 p2 μ) l_X1_191 yo_X1_refusalOfHolders rfl rfl rfl rfl rfl (fun x1 μ2 => ?_)
  refine S_istore_n (lv' := [(3, .inl x1), (0, .inr (.inr 0)), (1, .inl p1), (2, .inl p2)]) dX1_darings_6 rfl rfl ?_
  refine S_iload_n dX1_darings_7 rfl ?_
  refine S_if_eq (tgt := 15) dX1_darings_8 (by decide) (fun h5 => ?_) (fun h5 => ?_)
  · refine S_aload_n dX1_darings_15 rfl ?_
    refine S_iload_n dX1_darings_16 rfl ?_
    refine S_iload_n dX1_darings_17 rfl ?_
    refine S_callV_M2 dX1_darings_18 [.inl p1, .inl p2] (K_X1_daringsBy p1 p2 μ2) l_X1_194 yo_X1_daringsBy rfl rfl rfl rfl rfl (fun x3 μ4 => ?_)
    exact S_iret dX1_darings_21 rfl rfl
  · refine S_iload_n dX1_darings_11 rfl ?_
    refine S_goto (tgt := 21) dX1_darings_12 (by decide) ?_
    exact S_iret dX1_darings_21 rfl rfl
def fX1_kinds_L19 (p1 : Int) (p2 : Int) : Nat → Int → Int → Mem → Option (Int × Mem)
  | 0, _, _, _ => none
  | n6 + 1, x3, x4, μ5 =>
    if 6 ≤ x4 then
      some (x3, μ5)
    else
      (fX0_become 25 20 μ5).bind fun μ7 =>
      grd (0 ≤ p1 ∧ p1 < 6) <|
      mlet (wr μ7 26 (p1).toNat x4) fun μ8 =>
      bnd2 (fX1_goesAsideBy p2 μ8) fun x9 μ10 =>
      mlet (fun (x11 : Int) =>
        mlet (w32 (x4 + 1)) fun x13 =>
        fX1_kinds_L19 p1 p2 n6 x11 x13 μ10
        ) fun (K12 : Int → Option (Int × Mem)) =>
      if x9 = 0 then
        K12 x3
      else
        mlet ((bor x3 (bshl 1 x4))) fun x14 =>
        K12 x14
def fX1_kinds (p1 : Int) (p2 : Int) (μ : Mem) : Option (Int × Mem) :=
  bnd2 (fX1_refusalOfHolders p1 p2 μ) fun x1 μ2 =>
  if x1 = 0 then
    fX1_kinds_L19 p1 p2 fuel 0 0 μ2
  else
    some (x1, μ2)
theorem K_X1_kinds {σ : Scr}  (p1 : Int) (p2 : Int)  (μ : Mem) : Con σ yX1_kinds cX1_kinds 6 (some .int) 8 [.inr (.inr 0), .inl p1, .inl p2] μ (fX1_kinds p1 p2 μ) wI := by
  refine con_of (own := RX1) (by decide) rfl (Nat.le_of_ble_eq_true rfl) ?_
  show Sim σ cX1_kinds 6 RX1 (8) (some .int) wI 0 [(0, .inr (.inr 0)), (1, .inl p1), (2, .inl p2)] [] μ (fX1_kinds p1 p2 μ)
  unfold fX1_kinds
  refine S_aload_n dX1_kinds_0 rfl ?_
  refine S_iload_n dX1_kinds_1 rfl ?_
  refine S_iload_n dX1_kinds_2 rfl ?_
  refine S_callV_M2 dX1_kinds_3 [.inl p1, .inl p2] (K_X1_refusalOfHolders p1 p2 μ) l_X1_191 yo_X1_refusalOfHolders rfl rfl rfl rfl rfl (fun x1 μ2 => ?_)
  refine S_istore_n (lv' := [(3, .inl x1), (0, .inr (.inr 0)), (1, .inl p1), (2, .inl p2)]) dX1_kinds_6 rfl rfl ?_
  refine S_iload_n dX1_kinds_7 rfl ?_
  refine S_if_eq (tgt := 13) dX1_kinds_8 (by decide) (fun h17 => ?_) (fun h17 => ?_)
  · refine S_iconst dX1_kinds_13 rfl ?_
    refine S_istore (lv' := [(4, .inl 0), (3, .inl x1), (0, .inr (.inr 0)), (1, .inl p1), (2, .inl p2)]) dX1_kinds_14 rfl rfl ?_
    refine S_iconst dX1_kinds_16 rfl ?_
    refine S_istore (lv' := [(5, .inl 0), (4, .inl 0), (3, .inl x1), (0, .inr (.inr 0)), (1, .inl p1), (2, .inl p2)]) dX1_kinds_17 rfl rfl ?_
    have hL19 : ∀ (n6 : Nat) (x3 : Int) (x4 : Int) (μ5 : Mem), Sim σ cX1_kinds 6 RX1 (8) (some .int) wI 19 [(0, .inr (.inr 0)), (1, .inl p1), (2, .inl p2), (4, .inl x3), (5, .inl x4)] [] μ5 (fX1_kinds_L19 p1 p2 n6 x3 x4 μ5) := by
      intro n6
      induction n6 with
      | zero =>
        intro x3 x4 μ5
        exact S_none rfl
      | succ n6 ih =>
        intro x3 x4 μ5
        rw [fX1_kinds_L19]
        refine S_iload dX1_kinds_19 rfl ?_
        refine S_bipush dX1_kinds_21 rfl (by decide) ?_
        refine S_ic_ge (tgt := 71) dX1_kinds_23 (by decide) (fun h16 => ?_) (fun h16 => ?_)
        · refine S_iload dX1_kinds_71 rfl ?_
          exact S_iret dX1_kinds_73 rfl rfl
        · refine S_aload_n dX1_kinds_26 rfl ?_
          refine S_getR (c1 := 25) dX1_kinds_27 rfl fl_X1_36 rfl rfl rfl ?_
          refine S_aload_n dX1_kinds_30 rfl ?_
          refine S_getR (c1 := 20) dX1_kinds_31 rfl fl_X1_33 rfl rfl rfl ?_
          refine S_callW_V dX1_kinds_34 [.inr (.inr 20)] (K_X0_become (by unfold isBk; decide) (by unfold isBk; decide) μ5) l_X1_118 yo_X0_become rfl rfl rfl rfl rfl (fun μ7 => ?_)
          refine S_aload_n dX1_kinds_37 rfl ?_
          refine S_getR (c1 := 25) dX1_kinds_38 rfl fl_X1_36 rfl rfl rfl ?_
          refine S_getR (c1 := 26) dX1_kinds_41 rfl fl_X1_135 rfl rfl rfl ?_
          refine S_iload_n dX1_kinds_44 rfl ?_
          refine S_iload dX1_kinds_45 rfl ?_
          refine S_iast (N := 6) dX1_kinds_47 rfl (by decide) rfl (fun μ8 => ?_)
          refine S_aload_n dX1_kinds_48 rfl ?_
          refine S_iload_n dX1_kinds_49 rfl ?_
          refine S_callV_M2 dX1_kinds_50 [.inl p2] (K_X1_goesAsideBy p2 μ8) l_X1_197 yo_X1_goesAsideBy rfl rfl rfl rfl rfl (fun x9 μ10 => ?_)
          refine S_jn (fun (K12 : Int → Option (Int × Mem)) => ∀ (x11 : Int), Sim σ cX1_kinds 6 RX1 (8) (some .int) wI 65 [(0, .inr (.inr 0)), (1, .inl p1), (2, .inl p2), (4, .inl x11), (5, .inl x4)] [] μ10 (K12 x11)) ?_ (fun K12 hK12 => ?_)
          · intro x11
            refine S_iinc (lv' := fun x13 => [(5, .inl x13), (0, .inr (.inr 0)), (1, .inl p1), (2, .inl p2), (4, .inl x11)]) dX1_kinds_65 rfl rfl rfl (fun _ => rfl) (fun x13 => ?_)
            refine S_goto (tgt := 19) dX1_kinds_68 (by decide) ?_
            exact S_sub [1, 2, 3, 4, 0] rfl (ih x11 x13 μ10)
          refine S_if_eq (tgt := 65) dX1_kinds_53 (by decide) (fun h15 => ?_) (fun h15 => ?_)
          · exact S_sub [0, 1, 2, 3, 4] rfl (hK12 x3)
          · refine S_iload dX1_kinds_56 rfl ?_
            refine S_iconst dX1_kinds_58 rfl ?_
            refine S_iload dX1_kinds_59 rfl ?_
            refine S_ishl dX1_kinds_61 ?_
            refine S_ior dX1_kinds_62 ?_
            refine S_let (fun x14 => ?_)
            refine S_istore (lv' := [(4, .inl x14), (0, .inr (.inr 0)), (1, .inl p1), (2, .inl p2), (5, .inl x4)]) dX1_kinds_63 rfl rfl ?_
            exact S_sub [1, 2, 3, 0, 4] rfl (hK12 x14)
    exact S_sub [3, 4, 5, 1, 0] rfl (hL19 fuel 0 0 μ2)
  · refine S_iload_n dX1_kinds_11 rfl ?_
    exact S_iret dX1_kinds_12 rfl rfl
def fX1_placeOf (p1 : Int) (μ : Mem) : Option Int :=
  if ¬ p1 = (-9) then
    some p1
  else
    some 6
theorem K_X1_placeOf {σ : Scr}  (p1 : Int)  (μ : Mem) : Con σ yX1_placeOf cX1_placeOf 1 (some .int) 2 [.inl p1] μ (fX1_placeOf p1 μ) (rI μ) := by
  refine con_of (own := RX1) (by decide) rfl (Nat.le_of_ble_eq_true rfl) ?_
  show Sim σ cX1_placeOf 1 RX1 (2) (some .int) (rI μ) 0 [(0, .inl p1)] [] μ (fX1_placeOf p1 μ)
  unfold fX1_placeOf
  refine S_iload_n dX1_placeOf_0 rfl ?_
  refine S_bipush dX1_placeOf_1 rfl (by decide) ?_
  refine S_ic_ne (tgt := 11) dX1_placeOf_3 (by decide) (fun h1 => ?_) (fun h1 => ?_)
  · refine S_iload_n dX1_placeOf_11 rfl ?_
    exact S_iret dX1_placeOf_12 rfl rfl
  · refine S_bipush dX1_placeOf_6 rfl (by decide) ?_
    refine S_goto (tgt := 12) dX1_placeOf_8 (by decide) ?_
    exact S_iret dX1_placeOf_12 rfl rfl
def fX1_countParts_L64 (K7 : Mem → Option Mem) : Nat → Int → Mem → Option Mem
  | 0, _, _ => none
  | n13 + 1, x11, μ12 =>
    if 20 ≤ x11 then
      K7 μ12
    else
      grd (0 ≤ x11 ∧ x11 < 20) <|
      mlet (40 + (x11).toNat) fun c14 =>
      bnd2 (fX0_passNight 25 μ12) fun x15 μ16 =>
      (fX1_placeOf x15 μ16).bind fun x17 =>
      grd (0 ≤ x17 ∧ x17 < 7) <|
      grd (0 ≤ x17 ∧ x17 < 7) <|
      mlet (wr μ16 c14 (x17).toNat (w32 ((μ16 c14 (x17).toNat) + 1))) fun μ18 =>
      mlet (w32 (x11 + 1)) fun x19 =>
      fX1_countParts_L64 K7 n13 x19 μ18
def fX1_countParts_L26 (p2 : Int) (p1 : Int) : Nat → Int → Mem → Option Mem
  | 0, _, _ => none
  | n5 + 1, x3, μ4 =>
    if 20 < x3 then
      some μ4
    else
      mlet (fun (μ6 : Mem) =>
        mlet (w32 (x3 + 1)) fun x8 =>
        fX1_countParts_L26 p2 p1 n5 x8 μ6
        ) fun (K7 : Mem → Option Mem) =>
      if (band (bshr p2 x3) 1) = 0 then
        K7 μ4
      else
        (fX0_become 25 20 μ4).bind fun μ9 =>
        grd (0 ≤ p1 ∧ p1 < 6) <|
        mlet (wr μ9 28 (p1).toNat x3) fun μ10 =>
        fX1_countParts_L64 K7 fuel 0 μ10
def fX1_countParts_L2 (K2 : Mem → Option Mem) : Nat → Int → Mem → Option Mem
  | 0, _, _ => none
  | n25 + 1, x23, μ24 =>
    if 20 ≤ x23 then
      K2 μ24
    else
      grd (0 ≤ x23 ∧ x23 < 20) <|
      mlet (40 + (x23).toNat) fun c26 =>
      (some (filM μ24 c26 7 0)).bind fun μ27 =>
      mlet (w32 (x23 + 1)) fun x28 =>
      fX1_countParts_L2 K2 n25 x28 μ27
def fX1_countParts (p1 : Int) (p2 : Int) (μ : Mem) : Option Mem :=
  mlet (fun (μ1 : Mem) =>
    fX1_countParts_L26 p2 p1 fuel 0 μ1
    ) fun (K2 : Mem → Option Mem) =>
  fX1_countParts_L2 K2 fuel 0 μ
theorem K_X1_countParts {σ : Scr}  (p1 : Int) (p2 : Int)  (μ : Mem) : Con σ yX1_countParts cX1_countParts 5 (none) 7 [.inr (.inr 0), .inl p1, .inl p2] μ (fX1_countParts p1 p2 μ) wV := by
  refine con_of (own := RX1) (by decide) rfl (Nat.le_of_ble_eq_true rfl) ?_
  show Sim σ cX1_countParts 5 RX1 (7) (none) wV 0 [(0, .inr (.inr 0)), (1, .inl p1), (2, .inl p2)] [] μ (fX1_countParts p1 p2 μ)
  unfold fX1_countParts
  refine S_iconst dX1_countParts_0 rfl ?_
  refine S_istore_n (lv' := [(3, .inl 0), (0, .inr (.inr 0)), (1, .inl p1), (2, .inl p2)]) dX1_countParts_1 rfl rfl ?_
  refine S_jn (fun (K2 : Mem → Option Mem) => ∀ (μ1 : Mem), Sim σ cX1_countParts 5 RX1 (7) (none) wV 24 [(0, .inr (.inr 0)), (1, .inl p1), (2, .inl p2)] [] μ1 (K2 μ1)) ?_ (fun K2 hK2 => ?_)
  · intro μ1
    refine S_iconst dX1_countParts_24 rfl ?_
    refine S_istore_n (lv' := [(3, .inl 0), (0, .inr (.inr 0)), (1, .inl p1), (2, .inl p2)]) dX1_countParts_25 rfl rfl ?_
    have hL26 : ∀ (n5 : Nat) (x3 : Int) (μ4 : Mem), Sim σ cX1_countParts 5 RX1 (7) (none) wV 26 [(0, .inr (.inr 0)), (1, .inl p1), (2, .inl p2), (3, .inl x3)] [] μ4 (fX1_countParts_L26 p2 p1 n5 x3 μ4) := by
      intro n5
      induction n5 with
      | zero =>
        intro x3 μ4
        exact S_none rfl
      | succ n5 ih =>
        intro x3 μ4
        rw [fX1_countParts_L26]
        refine S_iload_n dX1_countParts_26 rfl ?_
        refine S_bipush dX1_countParts_27 rfl (by decide) ?_
        refine S_ic_gt (tgt := 105) dX1_countParts_29 (by decide) (fun h22 => ?_) (fun h22 => ?_)
        · exact S_vret dX1_countParts_105 rfl rfl
        · refine S_iload_n dX1_countParts_32 rfl ?_
          refine S_iload_n dX1_countParts_33 rfl ?_
          refine S_ishr dX1_countParts_34 ?_
          refine S_iconst dX1_countParts_35 rfl ?_
          refine S_iand dX1_countParts_36 ?_
          refine S_jn (fun (K7 : Mem → Option Mem) => ∀ (μ6 : Mem), Sim σ cX1_countParts 5 RX1 (7) (none) wV 99 [(0, .inr (.inr 0)), (1, .inl p1), (2, .inl p2), (3, .inl x3)] [] μ6 (K7 μ6)) ?_ (fun K7 hK7 => ?_)
          · intro μ6
            refine S_iinc (lv' := fun x8 => [(3, .inl x8), (0, .inr (.inr 0)), (1, .inl p1), (2, .inl p2)]) dX1_countParts_99 rfl rfl rfl (fun _ => rfl) (fun x8 => ?_)
            refine S_goto (tgt := 26) dX1_countParts_102 (by decide) ?_
            exact S_sub [1, 2, 3, 0] rfl (ih x8 μ6)
          refine S_if_eq (tgt := 99) dX1_countParts_37 (by decide) (fun h21 => ?_) (fun h21 => ?_)
          · exact S_sub [0, 1, 2, 3] rfl (hK7 μ4)
          · refine S_aload_n dX1_countParts_40 rfl ?_
            refine S_getR (c1 := 25) dX1_countParts_41 rfl fl_X1_36 rfl rfl rfl ?_
            refine S_aload_n dX1_countParts_44 rfl ?_
            refine S_getR (c1 := 20) dX1_countParts_45 rfl fl_X1_33 rfl rfl rfl ?_
            refine S_callW_V dX1_countParts_48 [.inr (.inr 20)] (K_X0_become (by unfold isBk; decide) (by unfold isBk; decide) μ4) l_X1_118 yo_X0_become rfl rfl rfl rfl rfl (fun μ9 => ?_)
            refine S_aload_n dX1_countParts_51 rfl ?_
            refine S_getR (c1 := 25) dX1_countParts_52 rfl fl_X1_36 rfl rfl rfl ?_
            refine S_getR (c1 := 28) dX1_countParts_55 rfl fl_X1_156 rfl rfl rfl ?_
            refine S_iload_n dX1_countParts_58 rfl ?_
            refine S_iload_n dX1_countParts_59 rfl ?_
            refine S_iast (N := 6) dX1_countParts_60 rfl (by decide) rfl (fun μ10 => ?_)
            refine S_iconst dX1_countParts_61 rfl ?_
            refine S_istore (lv' := [(4, .inl 0), (0, .inr (.inr 0)), (1, .inl p1), (2, .inl p2), (3, .inl x3)]) dX1_countParts_62 rfl rfl ?_
            have hL64 : ∀ (n13 : Nat) (x11 : Int) (μ12 : Mem), Sim σ cX1_countParts 5 RX1 (7) (none) wV 64 [(0, .inr (.inr 0)), (1, .inl p1), (2, .inl p2), (3, .inl x3), (4, .inl x11)] [] μ12 (fX1_countParts_L64 K7 n13 x11 μ12) := by
              intro n13
              induction n13 with
              | zero =>
                intro x11 μ12
                exact S_none rfl
              | succ n13 ih =>
                intro x11 μ12
                rw [fX1_countParts_L64]
                refine S_iload dX1_countParts_64 rfl ?_
                refine S_bipush dX1_countParts_66 rfl (by decide) ?_
                refine S_ic_ge (tgt := 99) dX1_countParts_68 (by decide) (fun h20 => ?_) (fun h20 => ?_)
                · exact S_sub [0, 1, 2, 3] rfl (hK7 μ12)
                · refine S_aload_n dX1_countParts_71 rfl ?_
                  refine S_getR (c1 := 39) dX1_countParts_72 rfl fl_X1_74 rfl rfl rfl ?_
                  refine S_iload dX1_countParts_75 rfl ?_
                  refine S_aald (N := 20) (c1 := 40) (c2 := 60) dX1_countParts_77 rfl (by decide) (by decide) rfl rfl rfl (fun c14 hc14 => ?_)
                  refine S_aload_n dX1_countParts_78 rfl ?_
                  refine S_getR (c1 := 25) dX1_countParts_79 rfl fl_X1_36 rfl rfl rfl ?_
                  refine S_callW_M2 dX1_countParts_82 [] (K_X0_passNight (by unfold isBk; decide) μ12) l_X1_184 yo_X0_passNight rfl rfl rfl rfl rfl (fun x15 μ16 => ?_)
                  refine S_callS_I dX1_countParts_85 [.inl x15] (K_X1_placeOf x15 μ16) l_X1_296 yo_X1_placeOf rfl rfl rfl (fun x17 => ?_)
                  refine S_dup2 dX1_countParts_88 rfl rfl ?_
                  refine S_iald (N := 7) dX1_countParts_89 (kd_part hc14) (fam_lt hc14 (by decide)) rfl ?_
                  refine S_iconst dX1_countParts_90 rfl ?_
                  refine S_iadd dX1_countParts_91 ?_
                  refine S_iast (N := 7) dX1_countParts_92 (kd_part hc14) (fam_lt hc14 (by decide)) rfl (fun μ18 => ?_)
                  refine S_iinc (lv' := fun x19 => [(4, .inl x19), (0, .inr (.inr 0)), (1, .inl p1), (2, .inl p2), (3, .inl x3)]) dX1_countParts_93 rfl rfl rfl (fun _ => rfl) (fun x19 => ?_)
                  refine S_goto (tgt := 64) dX1_countParts_96 (by decide) ?_
                  exact S_sub [1, 2, 3, 4, 0] rfl (ih x19 μ18)
            exact S_sub [1, 2, 3, 4, 0] rfl (hL64 fuel 0 μ10)
    exact S_sub [1, 2, 3, 0] rfl (hL26 fuel 0 μ1)
  have hL2 : ∀ (n25 : Nat) (x23 : Int) (μ24 : Mem), Sim σ cX1_countParts 5 RX1 (7) (none) wV 2 [(0, .inr (.inr 0)), (1, .inl p1), (2, .inl p2), (3, .inl x23)] [] μ24 (fX1_countParts_L2 K2 n25 x23 μ24) := by
    intro n25
    induction n25 with
    | zero =>
      intro x23 μ24
      exact S_none rfl
    | succ n25 ih =>
      intro x23 μ24
      rw [fX1_countParts_L2]
      refine S_iload_n dX1_countParts_2 rfl ?_
      refine S_bipush dX1_countParts_3 rfl (by decide) ?_
      refine S_ic_ge (tgt := 24) dX1_countParts_5 (by decide) (fun h29 => ?_) (fun h29 => ?_)
      · exact S_sub [0, 1, 2] rfl (hK2 μ24)
      · refine S_aload_n dX1_countParts_8 rfl ?_
        refine S_getR (c1 := 39) dX1_countParts_9 rfl fl_X1_74 rfl rfl rfl ?_
        refine S_iload_n dX1_countParts_12 rfl ?_
        refine S_aald (N := 20) (c1 := 40) (c2 := 60) dX1_countParts_13 rfl (by decide) (by decide) rfl rfl rfl (fun c26 hc26 => ?_)
        refine S_iconst dX1_countParts_14 rfl ?_
        refine S_callS_V dX1_countParts_15 [.inr (.inr c26), .inl 0] (K_fillI (kd_part hc26) (fam_lt hc26 (by decide)) (by decide) 0 μ24) jl_X1_77 jy_fillI rfl rfl rfl (fun μ27 => ?_)
        refine S_iinc (lv' := fun x28 => [(3, .inl x28), (0, .inr (.inr 0)), (1, .inl p1), (2, .inl p2)]) dX1_countParts_18 rfl rfl rfl (fun _ => rfl) (fun x28 => ?_)
        refine S_goto (tgt := 2) dX1_countParts_21 (by decide) ?_
        exact S_sub [1, 2, 3, 0] rfl (ih x28 μ27)
  exact S_sub [1, 2, 3, 0] rfl (hL2 fuel 0 μ)
def fX1_greatestPart_L16 (μ : Mem) (c1 : Nat) : Nat → Int → Int → Option Int
  | 0, _, _ => none
  | n4 + 1, x2, x3 =>
    if 7 ≤ x3 then
      some x2
    else
      grd (0 ≤ x3 ∧ x3 < 7) <|
      mlet ((μ c1 (x3).toNat)) fun x5 =>
      mlet ((mmax x2 x5)) fun x6 =>
      mlet (w32 (x3 + 1)) fun x7 =>
      fX1_greatestPart_L16 μ c1 n4 x6 x7
def fX1_greatestPart (p1 : Int) (μ : Mem) : Option Int :=
  grd (0 ≤ p1 ∧ p1 < 20) <|
  mlet (40 + (p1).toNat) fun c1 =>
  fX1_greatestPart_L16 μ c1 fuel 0 0
theorem K_X1_greatestPart {σ : Scr}  (p1 : Int)  (μ : Mem) : Con σ yX1_greatestPart cX1_greatestPart 7 (some .int) 2 [.inr (.inr 0), .inl p1] μ (fX1_greatestPart p1 μ) (rI μ) := by
  refine con_of (own := RX1) (by decide) rfl (Nat.le_of_ble_eq_true rfl) ?_
  show Sim σ cX1_greatestPart 7 RX1 (2) (some .int) (rI μ) 0 [(0, .inr (.inr 0)), (1, .inl p1)] [] μ (fX1_greatestPart p1 μ)
  unfold fX1_greatestPart
  refine S_iconst dX1_greatestPart_0 rfl ?_
  refine S_istore_n (lv' := [(2, .inl 0), (0, .inr (.inr 0)), (1, .inl p1)]) dX1_greatestPart_1 rfl rfl ?_
  refine S_aload_n dX1_greatestPart_2 rfl ?_
  refine S_getR (c1 := 39) dX1_greatestPart_3 rfl fl_X1_74 rfl rfl rfl ?_
  refine S_iload_n dX1_greatestPart_6 rfl ?_
  refine S_aald (N := 20) (c1 := 40) (c2 := 60) dX1_greatestPart_7 rfl (by decide) (by decide) rfl rfl rfl (fun c1 hc1 => ?_)
  refine S_astore_n (lv' := [(3, .inr (.inr c1)), (2, .inl 0), (0, .inr (.inr 0)), (1, .inl p1)]) dX1_greatestPart_8 rfl rfl ?_
  refine S_aload_n dX1_greatestPart_9 rfl ?_
  refine S_alen (N := 7) dX1_greatestPart_10 (kd_part hc1) (fam_lt hc1 (by decide)) (by decide) rfl rfl ?_
  refine S_istore (lv' := [(4, .inl 7), (3, .inr (.inr c1)), (2, .inl 0), (0, .inr (.inr 0)), (1, .inl p1)]) dX1_greatestPart_11 rfl rfl ?_
  refine S_iconst dX1_greatestPart_13 rfl ?_
  refine S_istore (lv' := [(5, .inl 0), (4, .inl 7), (3, .inr (.inr c1)), (2, .inl 0), (0, .inr (.inr 0)), (1, .inl p1)]) dX1_greatestPart_14 rfl rfl ?_
  have hL16 : ∀ (n4 : Nat) (x2 : Int) (x3 : Int), Sim σ cX1_greatestPart 7 RX1 (2) (some .int) (rI μ) 16 [(2, .inl x2), (3, .inr (.inr c1)), (4, .inl 7), (5, .inl x3)] [] μ (fX1_greatestPart_L16 μ c1 n4 x2 x3) := by
    intro n4
    induction n4 with
    | zero =>
      intro x2 x3
      exact S_none rfl
    | succ n4 ih =>
      intro x2 x3
      rw [fX1_greatestPart_L16]
      refine S_iload dX1_greatestPart_16 rfl ?_
      refine S_iload dX1_greatestPart_18 rfl ?_
      refine S_ic_ge (tgt := 42) dX1_greatestPart_20 (by decide) (fun h8 => ?_) (fun h8 => ?_)
      · refine S_iload_n dX1_greatestPart_42 rfl ?_
        exact S_iret dX1_greatestPart_43 rfl rfl
      · refine S_aload_n dX1_greatestPart_23 rfl ?_
        refine S_iload dX1_greatestPart_24 rfl ?_
        refine S_iald (N := 7) dX1_greatestPart_26 (kd_part hc1) (fam_lt hc1 (by decide)) rfl ?_
        refine S_let (fun x5 => ?_)
        refine S_istore (lv' := [(6, .inl x5), (2, .inl x2), (3, .inr (.inr c1)), (4, .inl 7), (5, .inl x3)]) dX1_greatestPart_27 rfl rfl ?_
        refine S_iload_n dX1_greatestPart_29 rfl ?_
        refine S_iload dX1_greatestPart_30 rfl ?_
        refine S_mmax dX1_greatestPart_32 jl_X1_288 jm_max jm_M jc_max rfl rfl ?_
        refine S_let (fun x6 => ?_)
        refine S_istore_n (lv' := [(2, .inl x6), (6, .inl x5), (3, .inr (.inr c1)), (4, .inl 7), (5, .inl x3)]) dX1_greatestPart_35 rfl rfl ?_
        refine S_iinc (lv' := fun x7 => [(5, .inl x7), (2, .inl x6), (6, .inl x5), (3, .inr (.inr c1)), (4, .inl 7)]) dX1_greatestPart_36 rfl rfl rfl (fun _ => rfl) (fun x7 => ?_)
        refine S_goto (tgt := 16) dX1_greatestPart_39 (by decide) ?_
        exact S_sub [1, 3, 4, 0] rfl (ih x6 x7)
  exact S_sub [3, 2, 1, 0] rfl (hL16 fuel 0 0)
def fX1_look_L42 (K7 : Int → Option (Int × Mem)) (μ5 : Mem) : Nat → Int → Int → Option (Int × Mem)
  | 0, _, _ => none
  | n13 + 1, x11, x12 =>
    if 20 ≤ x12 then
      K7 x11
    else
      (fX1_greatestPart x12 μ5).bind fun x14 =>
      (fX1_greatestPart x11 μ5).bind fun x15 =>
      mlet (fun (x16 : Int) =>
        mlet (w32 (x12 + 1)) fun x18 =>
        fX1_look_L42 K7 μ5 n13 x16 x18
        ) fun (K17 : Int → Option (Int × Mem)) =>
      if x15 ≤ x14 then
        K17 x11
      else
        K17 x12
def fX1_look (p1 : Int) (p2 : Int) (μ : Mem) : Option (Int × Mem) :=
  bnd2 (fX1_refusalOfHolders p1 p2 μ) fun x1 μ2 =>
  if x1 = 0 then
    bnd2 (fX1_daringsBy p1 p2 μ2) fun x3 μ4 =>
    if ¬ x3 = 0 then
      (fX1_countParts p1 x3 μ4).bind fun μ5 =>
      mlet (fun (x6 : Int) =>
        (fX1_greatestPart x6 μ5).bind fun x8 =>
        bnd2 (fX1_tell x8 μ5) fun x9 μ10 =>
        some ((w32 (x6 + 1)), μ10)
        ) fun (K7 : Int → Option (Int × Mem)) =>
      fX1_look_L42 K7 μ5 fuel 0 1
    else
      some ((-9), μ4)
  else
    some (x1, μ2)
theorem K_X1_look {σ : Scr}  (p1 : Int) (p2 : Int)  (μ : Mem) : Con σ yX1_look cX1_look 7 (some .int) 9 [.inr (.inr 0), .inl p1, .inl p2] μ (fX1_look p1 p2 μ) wI := by
  refine con_of (own := RX1) (by decide) rfl (Nat.le_of_ble_eq_true rfl) ?_
  show Sim σ cX1_look 7 RX1 (9) (some .int) wI 0 [(0, .inr (.inr 0)), (1, .inl p1), (2, .inl p2)] [] μ (fX1_look p1 p2 μ)
  unfold fX1_look
  refine S_aload_n dX1_look_0 rfl ?_
  refine S_iload_n dX1_look_1 rfl ?_
  refine S_iload_n dX1_look_2 rfl ?_
  refine S_callV_M2 dX1_look_3 [.inl p1, .inl p2] (K_X1_refusalOfHolders p1 p2 μ) l_X1_191 yo_X1_refusalOfHolders rfl rfl rfl rfl rfl (fun x1 μ2 => ?_)
  refine S_istore_n (lv' := [(3, .inl x1), (0, .inr (.inr 0)), (1, .inl p1), (2, .inl p2)]) dX1_look_6 rfl rfl ?_
  refine S_iload_n dX1_look_7 rfl ?_
  refine S_if_eq (tgt := 13) dX1_look_8 (by decide) (fun h22 => ?_) (fun h22 => ?_)
  · refine S_aload_n dX1_look_13 rfl ?_
    refine S_iload_n dX1_look_14 rfl ?_
    refine S_iload_n dX1_look_15 rfl ?_
    refine S_callV_M2 dX1_look_16 [.inl p1, .inl p2] (K_X1_daringsBy p1 p2 μ2) l_X1_194 yo_X1_daringsBy rfl rfl rfl rfl rfl (fun x3 μ4 => ?_)
    refine S_istore (lv' := [(4, .inl x3), (3, .inl x1), (0, .inr (.inr 0)), (1, .inl p1), (2, .inl p2)]) dX1_look_19 rfl rfl ?_
    refine S_iload dX1_look_21 rfl ?_
    refine S_if_ne (tgt := 29) dX1_look_23 (by decide) (fun h21 => ?_) (fun h21 => ?_)
    · refine S_aload_n dX1_look_29 rfl ?_
      refine S_iload_n dX1_look_30 rfl ?_
      refine S_iload dX1_look_31 rfl ?_
      refine S_callV_V dX1_look_33 [.inl p1, .inl x3] (K_X1_countParts p1 x3 μ4) l_X1_200 yo_X1_countParts rfl rfl rfl rfl rfl (fun μ5 => ?_)
      refine S_iconst dX1_look_36 rfl ?_
      refine S_istore (lv' := [(5, .inl 0), (4, .inl x3), (3, .inl x1), (0, .inr (.inr 0)), (1, .inl p1), (2, .inl p2)]) dX1_look_37 rfl rfl ?_
      refine S_iconst dX1_look_39 rfl ?_
      refine S_istore (lv' := [(6, .inl 1), (5, .inl 0), (4, .inl x3), (3, .inl x1), (0, .inr (.inr 0)), (1, .inl p1), (2, .inl p2)]) dX1_look_40 rfl rfl ?_
      refine S_jn (fun (K7 : Int → Option (Int × Mem)) => ∀ (x6 : Int), Sim σ cX1_look 7 RX1 (9) (some .int) wI 74 [(0, .inr (.inr 0)), (5, .inl x6)] [] μ5 (K7 x6)) ?_ (fun K7 hK7 => ?_)
      · intro x6
        refine S_aload_n dX1_look_74 rfl ?_
        refine S_aload_n dX1_look_75 rfl ?_
        refine S_iload dX1_look_76 rfl ?_
        refine S_callV_I dX1_look_78 [.inl x6] (K_X1_greatestPart x6 μ5) l_X1_203 yo_X1_greatestPart rfl rfl rfl rfl rfl (fun x8 => ?_)
        refine S_callV_M2 dX1_look_81 [.inl x8] (K_X1_tell x8 μ5) l_X1_99 yo_X1_tell rfl rfl rfl rfl rfl (fun x9 μ10 => ?_)
        refine S_pop dX1_look_84 rfl ?_
        refine S_iload dX1_look_85 rfl ?_
        refine S_iconst dX1_look_87 rfl ?_
        refine S_iadd dX1_look_88 ?_
        exact S_iret dX1_look_89 rfl rfl
      have hL42 : ∀ (n13 : Nat) (x11 : Int) (x12 : Int), Sim σ cX1_look 7 RX1 (9) (some .int) wI 42 [(0, .inr (.inr 0)), (5, .inl x11), (6, .inl x12)] [] μ5 (fX1_look_L42 K7 μ5 n13 x11 x12) := by
        intro n13
        induction n13 with
        | zero =>
          intro x11 x12
          exact S_none rfl
        | succ n13 ih =>
          intro x11 x12
          rw [fX1_look_L42]
          refine S_iload dX1_look_42 rfl ?_
          refine S_bipush dX1_look_44 rfl (by decide) ?_
          refine S_ic_ge (tgt := 74) dX1_look_46 (by decide) (fun h20 => ?_) (fun h20 => ?_)
          · exact S_sub [0, 1] rfl (hK7 x11)
          · refine S_aload_n dX1_look_49 rfl ?_
            refine S_iload dX1_look_50 rfl ?_
            refine S_callV_I dX1_look_52 [.inl x12] (K_X1_greatestPart x12 μ5) l_X1_203 yo_X1_greatestPart rfl rfl rfl rfl rfl (fun x14 => ?_)
            refine S_aload_n dX1_look_55 rfl ?_
            refine S_iload dX1_look_56 rfl ?_
            refine S_callV_I dX1_look_58 [.inl x11] (K_X1_greatestPart x11 μ5) l_X1_203 yo_X1_greatestPart rfl rfl rfl rfl rfl (fun x15 => ?_)
            refine S_jn (fun (K17 : Int → Option (Int × Mem)) => ∀ (x16 : Int), Sim σ cX1_look 7 RX1 (9) (some .int) wI 68 [(0, .inr (.inr 0)), (5, .inl x16), (6, .inl x12)] [] μ5 (K17 x16)) ?_ (fun K17 hK17 => ?_)
            · intro x16
              refine S_iinc (lv' := fun x18 => [(6, .inl x18), (0, .inr (.inr 0)), (5, .inl x16)]) dX1_look_68 rfl rfl rfl (fun _ => rfl) (fun x18 => ?_)
              refine S_goto (tgt := 42) dX1_look_71 (by decide) ?_
              exact S_sub [1, 2, 0] rfl (ih x16 x18)
            refine S_ic_ge (tgt := 68) dX1_look_61 (by decide) (fun h19 => ?_) (fun h19 => ?_)
            · exact S_sub [0, 1, 2] rfl (hK17 x11)
            · refine S_iload dX1_look_64 rfl ?_
              refine S_istore (lv' := [(5, .inl x12), (0, .inr (.inr 0)), (6, .inl x12)]) dX1_look_66 rfl rfl ?_
              exact S_sub [1, 0, 2] rfl (hK17 x12)
      exact S_sub [4, 1, 0] rfl (hL42 fuel 0 1)
    · refine S_bipush dX1_look_26 rfl (by decide) ?_
      exact S_iret dX1_look_28 rfl rfl
  · refine S_iload_n dX1_look_11 rfl ?_
    exact S_iret dX1_look_12 rfl rfl
def fX1_greatestDivisor_L9 : Nat → Int → Int → Int → Option Int
  | 0, _, _, _ => none
  | n4 + 1, x1, x2, x3 =>
    if 1000 ≤ x3 then
      some x1
    else
      if (lcmpZ x2 0) = 0 then
        some x1
      else
        grd (¬ x2 = 0) <|
        mlet ((x1.tmod x2)) fun x5 =>
        mlet (w32 (x3 + 1)) fun x6 =>
        fX1_greatestDivisor_L9 n4 x2 x5 x6
def fX1_greatestDivisor (p1 : Int) (p2 : Int) (μ : Mem) : Option Int :=
  fX1_greatestDivisor_L9 fuel p1 p2 0
theorem K_X1_greatestDivisor {σ : Scr}  (p1 : Int) (p2 : Int)  (μ : Mem) : Con σ yX1_greatestDivisor cX1_greatestDivisor 11 (some .long) 2 [.inr (.inl p1), .inr (.inl p2)] μ (fX1_greatestDivisor p1 p2 μ) (rL μ) := by
  refine con_of (own := RX1) (by decide) rfl (Nat.le_of_ble_eq_true rfl) ?_
  show Sim σ cX1_greatestDivisor 11 RX1 (2) (some .long) (rL μ) 0 [(0, .inr (.inl p1)), (2, .inr (.inl p2))] [] μ (fX1_greatestDivisor p1 p2 μ)
  unfold fX1_greatestDivisor
  refine S_lload_n dX1_greatestDivisor_0 rfl ?_
  refine S_lstore (lv' := [(4, .inr (.inl p1)), (0, .inr (.inl p1)), (2, .inr (.inl p2))]) dX1_greatestDivisor_1 rfl rfl ?_
  refine S_lload_n dX1_greatestDivisor_3 rfl ?_
  refine S_lstore (lv' := [(6, .inr (.inl p2)), (4, .inr (.inl p1)), (0, .inr (.inl p1)), (2, .inr (.inl p2))]) dX1_greatestDivisor_4 rfl rfl ?_
  refine S_iconst dX1_greatestDivisor_6 rfl ?_
  refine S_istore (lv' := [(8, .inl 0), (6, .inr (.inl p2)), (4, .inr (.inl p1)), (0, .inr (.inl p1)), (2, .inr (.inl p2))]) dX1_greatestDivisor_7 rfl rfl ?_
  have hL9 : ∀ (n4 : Nat) (x1 : Int) (x2 : Int) (x3 : Int), Sim σ cX1_greatestDivisor 11 RX1 (2) (some .long) (rL μ) 9 [(4, .inr (.inl x1)), (6, .inr (.inl x2)), (8, .inl x3)] [] μ (fX1_greatestDivisor_L9 n4 x1 x2 x3) := by
    intro n4
    induction n4 with
    | zero =>
      intro x1 x2 x3
      exact S_none rfl
    | succ n4 ih =>
      intro x1 x2 x3
      rw [fX1_greatestDivisor_L9]
      refine S_iload dX1_greatestDivisor_9 rfl ?_
      refine S_sipush dX1_greatestDivisor_11 rfl (by decide) ?_
      refine S_ic_ge (tgt := 45) dX1_greatestDivisor_14 (by decide) (fun h8 => ?_) (fun h8 => ?_)
      · refine S_lload dX1_greatestDivisor_45 rfl ?_
        exact S_lret dX1_greatestDivisor_47 rfl rfl
      · refine S_lload dX1_greatestDivisor_17 rfl ?_
        refine S_lconst (n := 0) dX1_greatestDivisor_19 (by decide) rfl ?_
        refine S_lcmp dX1_greatestDivisor_20 ?_
        refine S_if_eq (tgt := 45) dX1_greatestDivisor_21 (by decide) (fun h7 => ?_) (fun h7 => ?_)
        · refine S_lload dX1_greatestDivisor_45 rfl ?_
          exact S_lret dX1_greatestDivisor_47 rfl rfl
        · refine S_lload dX1_greatestDivisor_24 rfl ?_
          refine S_lload dX1_greatestDivisor_26 rfl ?_
          refine S_lrem dX1_greatestDivisor_28 ?_
          refine S_letL (fun x5 => ?_)
          refine S_lstore (lv' := [(9, .inr (.inl x5)), (4, .inr (.inl x1)), (6, .inr (.inl x2)), (8, .inl x3)]) dX1_greatestDivisor_29 rfl rfl ?_
          refine S_lload dX1_greatestDivisor_31 rfl ?_
          refine S_lstore (lv' := [(4, .inr (.inl x2)), (9, .inr (.inl x5)), (6, .inr (.inl x2)), (8, .inl x3)]) dX1_greatestDivisor_33 rfl rfl ?_
          refine S_lload dX1_greatestDivisor_35 rfl ?_
          refine S_lstore (lv' := [(6, .inr (.inl x5)), (4, .inr (.inl x2)), (9, .inr (.inl x5)), (8, .inl x3)]) dX1_greatestDivisor_37 rfl rfl ?_
          refine S_iinc (lv' := fun x6 => [(8, .inl x6), (6, .inr (.inl x5)), (4, .inr (.inl x2)), (9, .inr (.inl x5))]) dX1_greatestDivisor_39 rfl rfl rfl (fun _ => rfl) (fun x6 => ?_)
          refine S_goto (tgt := 9) dX1_greatestDivisor_42 (by decide) ?_
          exact S_sub [2, 1, 0] rfl (ih x2 x5 x6)
  exact S_sub [2, 1, 0] rfl (hL9 fuel p1 p2 0)
def fX1_tellRatio (p1 : Int) (p2 : Int) (μ : Mem) : Option Mem :=
  (fX1_greatestDivisor p1 p2 μ).bind fun x1 =>
  if (lcmpZ x1 0) ≤ 0 then
    some μ
  else
    grd (¬ x1 = 0) <|
    mlet (wr μ 0 12 (w64 (p1.tdiv x1))) fun μ2 =>
    grd (¬ x1 = 0) <|
    mlet (wr μ2 0 13 (w64 (p2.tdiv x1))) fun μ3 =>
    some μ3
theorem K_X1_tellRatio {σ : Scr}  (p1 : Int) (p2 : Int)  (μ : Mem) : Con σ yX1_tellRatio cX1_tellRatio 7 (none) 3 [.inr (.inr 0), .inr (.inl p1), .inr (.inl p2)] μ (fX1_tellRatio p1 p2 μ) wV := by
  refine con_of (own := RX1) (by decide) rfl (Nat.le_of_ble_eq_true rfl) ?_
  show Sim σ cX1_tellRatio 7 RX1 (3) (none) wV 0 [(0, .inr (.inr 0)), (1, .inr (.inl p1)), (3, .inr (.inl p2))] [] μ (fX1_tellRatio p1 p2 μ)
  unfold fX1_tellRatio
  refine S_lload_n dX1_tellRatio_0 rfl ?_
  refine S_lload_n dX1_tellRatio_1 rfl ?_
  refine S_callS_L dX1_tellRatio_2 [.inr (.inl p1), .inr (.inl p2)] (K_X1_greatestDivisor p1 p2 μ) l_X1_257 yo_X1_greatestDivisor rfl rfl rfl (fun x1 => ?_)
  refine S_lstore (lv' := [(5, .inr (.inl x1)), (0, .inr (.inr 0)), (1, .inr (.inl p1)), (3, .inr (.inl p2))]) dX1_tellRatio_5 rfl rfl ?_
  refine S_lload dX1_tellRatio_7 rfl ?_
  refine S_lconst (n := 0) dX1_tellRatio_9 (by decide) rfl ?_
  refine S_lcmp dX1_tellRatio_10 ?_
  refine S_if_le (tgt := 30) dX1_tellRatio_11 (by decide) (fun h4 => ?_) (fun h4 => ?_)
  · exact S_vret dX1_tellRatio_30 rfl rfl
  · refine S_aload_n dX1_tellRatio_14 rfl ?_
    refine S_lload_n dX1_tellRatio_15 rfl ?_
    refine S_lload dX1_tellRatio_16 rfl ?_
    refine S_ldiv dX1_tellRatio_18 ?_
    refine S_putL dX1_tellRatio_19 rfl fl_X1_55 rfl rfl rfl rfl (fun μ2 => ?_)
    refine S_aload_n dX1_tellRatio_22 rfl ?_
    refine S_lload_n dX1_tellRatio_23 rfl ?_
    refine S_lload dX1_tellRatio_24 rfl ?_
    refine S_ldiv dX1_tellRatio_26 ?_
    refine S_putL dX1_tellRatio_27 rfl fl_X1_59 rfl rfl rfl rfl (fun μ3 => ?_)
    exact S_vret dX1_tellRatio_30 rfl rfl
def fX1_sets_L33 (μ : Mem) (K4 : Int → Int → Option (Int × Mem)) (p1 : Int) : Nat → Int → Int → Int → Option (Int × Mem)
  | 0, _, _, _ => none
  | n11 + 1, x8, x9, x10 =>
    if (bshl 1 (μ 20 4)) ≤ x10 then
      K4 x8 x9
    else
      (fX0_daringOf 20 x10 μ).bind fun x12 =>
      mlet (fun (x13 : Int) (x14 : Int) =>
        mlet (w32 (x10 + 1)) fun x16 =>
        fX1_sets_L33 μ K4 p1 n11 x13 x14 x16
        ) fun (K15 : Int → Int → Option (Int × Mem)) =>
      if ¬ x12 = p1 then
        K15 x8 x9
      else
        mlet (fun (x17 : Int) =>
          mlet (w32 (x8 + 1)) fun x19 =>
          K15 x19 x17
          ) fun (K18 : Int → Option (Int × Mem)) =>
        if ¬ x8 = 0 then
          K18 x9
        else
          K18 x10
def fX1_sets (p1 : Int) (μ : Mem) : Option (Int × Mem) :=
  (fX1_isWithin p1 0 120 μ).bind fun x1 =>
  if ¬ x1 = 0 then
    if ¬ (μ 20 4) = 0 then
      mlet (fun (x2 : Int) (x3 : Int) =>
        (fX1_tellRatio x2 1 μ).bind fun μ5 =>
        bnd2 (fX1_tell x3 μ5) fun x6 μ7 =>
        some (x6, μ7)
        ) fun (K4 : Int → Int → Option (Int × Mem)) =>
      fX1_sets_L33 μ K4 p1 fuel 0 (-9) 0
    else
      some ((-4), μ)
  else
    some ((-1), μ)
theorem K_X1_sets {σ : Scr}  (p1 : Int)  (μ : Mem) : Con σ yX1_sets cX1_sets 5 (some .int) 4 [.inr (.inr 0), .inl p1] μ (fX1_sets p1 μ) wI := by
  refine con_of (own := RX1) (by decide) rfl (Nat.le_of_ble_eq_true rfl) ?_
  show Sim σ cX1_sets 5 RX1 (4) (some .int) wI 0 [(0, .inr (.inr 0)), (1, .inl p1)] [] μ (fX1_sets p1 μ)
  unfold fX1_sets
  refine S_iload_n dX1_sets_0 rfl ?_
  refine S_iconst dX1_sets_1 rfl ?_
  refine S_bipush dX1_sets_2 rfl (by decide) ?_
  refine S_callS_I dX1_sets_4 [.inl p1, .inl 0, .inl 120] (K_X1_isWithin p1 0 120 μ) l_X1_128 yo_X1_isWithin rfl rfl rfl (fun x1 => ?_)
  refine S_if_ne (tgt := 12) dX1_sets_7 (by decide) (fun h24 => ?_) (fun h24 => ?_)
  · refine S_aload_n dX1_sets_12 rfl ?_
    refine S_getR (c1 := 20) dX1_sets_13 rfl fl_X1_33 rfl rfl rfl ?_
    refine S_getI dX1_sets_16 rfl fl_X1_122 rfl rfl ?_
    refine S_if_ne (tgt := 25) dX1_sets_19 (by decide) (fun h23 => ?_) (fun h23 => ?_)
    · refine S_iconst dX1_sets_25 rfl ?_
      refine S_istore_n (lv' := [(2, .inl 0), (0, .inr (.inr 0)), (1, .inl p1)]) dX1_sets_26 rfl rfl ?_
      refine S_bipush dX1_sets_27 rfl (by decide) ?_
      refine S_istore_n (lv' := [(3, .inl (-9)), (2, .inl 0), (0, .inr (.inr 0)), (1, .inl p1)]) dX1_sets_29 rfl rfl ?_
      refine S_iconst dX1_sets_30 rfl ?_
      refine S_istore (lv' := [(4, .inl 0), (3, .inl (-9)), (2, .inl 0), (0, .inr (.inr 0)), (1, .inl p1)]) dX1_sets_31 rfl rfl ?_
      refine S_jn (fun (K4 : Int → Int → Option (Int × Mem)) => ∀ (x2 : Int) (x3 : Int), Sim σ cX1_sets 5 RX1 (4) (some .int) wI 80 [(0, .inr (.inr 0)), (2, .inl x2), (3, .inl x3)] [] μ (K4 x2 x3)) ?_ (fun K4 hK4 => ?_)
      · intro x2 x3
        refine S_aload_n dX1_sets_80 rfl ?_
        refine S_iload_n dX1_sets_81 rfl ?_
        refine S_i2l dX1_sets_82 ?_
        refine S_lconst (n := 1) dX1_sets_83 (by decide) rfl ?_
        refine S_callV_V dX1_sets_84 [.inr (.inl x2), .inr (.inl 1)] (K_X1_tellRatio x2 1 μ) l_X1_209 yo_X1_tellRatio rfl rfl rfl rfl rfl (fun μ5 => ?_)
        refine S_aload_n dX1_sets_87 rfl ?_
        refine S_iload_n dX1_sets_88 rfl ?_
        refine S_callV_M2 dX1_sets_89 [.inl x3] (K_X1_tell x3 μ5) l_X1_99 yo_X1_tell rfl rfl rfl rfl rfl (fun x6 μ7 => ?_)
        exact S_iret dX1_sets_92 rfl rfl
      have hL33 : ∀ (n11 : Nat) (x8 : Int) (x9 : Int) (x10 : Int), Sim σ cX1_sets 5 RX1 (4) (some .int) wI 33 [(0, .inr (.inr 0)), (1, .inl p1), (2, .inl x8), (3, .inl x9), (4, .inl x10)] [] μ (fX1_sets_L33 μ K4 p1 n11 x8 x9 x10) := by
        intro n11
        induction n11 with
        | zero =>
          intro x8 x9 x10
          exact S_none rfl
        | succ n11 ih =>
          intro x8 x9 x10
          rw [fX1_sets_L33]
          refine S_iload dX1_sets_33 rfl ?_
          refine S_iconst dX1_sets_35 rfl ?_
          refine S_aload_n dX1_sets_36 rfl ?_
          refine S_getR (c1 := 20) dX1_sets_37 rfl fl_X1_33 rfl rfl rfl ?_
          refine S_getI dX1_sets_40 rfl fl_X1_122 rfl rfl ?_
          refine S_ishl dX1_sets_43 ?_
          refine S_ic_ge (tgt := 80) dX1_sets_44 (by decide) (fun h22 => ?_) (fun h22 => ?_)
          · exact S_sub [0, 2, 3] rfl (hK4 x8 x9)
          · refine S_aload_n dX1_sets_47 rfl ?_
            refine S_getR (c1 := 20) dX1_sets_48 rfl fl_X1_33 rfl rfl rfl ?_
            refine S_iload dX1_sets_51 rfl ?_
            refine S_callW_I dX1_sets_53 [.inl x10] (K_X0_daringOf (by unfold isBk; decide) x10 μ) l_X1_206 yo_X0_daringOf rfl rfl rfl rfl rfl (fun x12 => ?_)
            refine S_iload_n dX1_sets_56 rfl ?_
            refine S_jn (fun (K15 : Int → Int → Option (Int × Mem)) => ∀ (x13 : Int) (x14 : Int), Sim σ cX1_sets 5 RX1 (4) (some .int) wI 74 [(0, .inr (.inr 0)), (1, .inl p1), (2, .inl x13), (3, .inl x14), (4, .inl x10)] [] μ (K15 x13 x14)) ?_ (fun K15 hK15 => ?_)
            · intro x13 x14
              refine S_iinc (lv' := fun x16 => [(4, .inl x16), (0, .inr (.inr 0)), (1, .inl p1), (2, .inl x13), (3, .inl x14)]) dX1_sets_74 rfl rfl rfl (fun _ => rfl) (fun x16 => ?_)
              refine S_goto (tgt := 33) dX1_sets_77 (by decide) ?_
              exact S_sub [1, 2, 3, 4, 0] rfl (ih x13 x14 x16)
            refine S_ic_ne (tgt := 74) dX1_sets_57 (by decide) (fun h21 => ?_) (fun h21 => ?_)
            · exact S_sub [0, 1, 2, 3, 4] rfl (hK15 x8 x9)
            · refine S_iload_n dX1_sets_60 rfl ?_
              refine S_jn (fun (K18 : Int → Option (Int × Mem)) => ∀ (x17 : Int), Sim σ cX1_sets 5 RX1 (4) (some .int) wI 70 [(0, .inr (.inr 0)), (1, .inl p1), (2, .inl x8), (4, .inl x10)] [.inl x17] μ (K18 x17)) ?_ (fun K18 hK18 => ?_)
              · intro x17
                refine S_istore_n (lv' := [(3, .inl x17), (0, .inr (.inr 0)), (1, .inl p1), (2, .inl x8), (4, .inl x10)]) dX1_sets_70 rfl rfl ?_
                refine S_iinc (lv' := fun x19 => [(2, .inl x19), (3, .inl x17), (0, .inr (.inr 0)), (1, .inl p1), (4, .inl x10)]) dX1_sets_71 rfl rfl rfl (fun _ => rfl) (fun x19 => ?_)
                exact S_sub [2, 3, 0, 1, 4] rfl (hK15 x19 x17)
              refine S_if_ne (tgt := 69) dX1_sets_61 (by decide) (fun h20 => ?_) (fun h20 => ?_)
              · refine S_iload_n dX1_sets_69 rfl ?_
                exact S_sub [0, 1, 2, 4] rfl (hK18 x9)
              · refine S_iload dX1_sets_64 rfl ?_
                refine S_goto (tgt := 70) dX1_sets_66 (by decide) ?_
                exact S_sub [0, 1, 2, 4] rfl (hK18 x10)
      exact S_sub [3, 4, 2, 1, 0] rfl (hL33 fuel 0 (-9) 0)
    · refine S_bipush dX1_sets_22 rfl (by decide) ?_
      exact S_iret dX1_sets_24 rfl rfl
  · refine S_iconst dX1_sets_10 rfl ?_
    exact S_iret dX1_sets_11 rfl rfl
def fX1_sure_L48 (x2 : Int) (K6 : Int → Int → Int → Option (Int × Mem)) (μ : Mem) (p1 : Int) : Nat → Int → Int → Int → Int → Option (Int × Mem)
  | 0, _, _, _, _ => none
  | n16 + 1, x12, x13, x14, x15 =>
    if x2 < x15 then
      K6 x12 x13 x14
    else
      (fX0_daringOf 20 x15 μ).bind fun x17 =>
      mlet (fun (x18 : Int) (x19 : Int) (x20 : Int) =>
        mlet (w32 (x15 + 1)) fun x22 =>
        fX1_sure_L48 x2 K6 μ p1 n16 x18 x19 x20 x22
        ) fun (K21 : Int → Int → Int → Option (Int × Mem)) =>
      if ¬ x17 = p1 then
        K21 x12 x13 x14
      else
        mlet ((band x12 x15)) fun x23 =>
        mlet ((bor x13 x15)) fun x24 =>
        K21 x23 x24 0
def fX1_sure (p1 : Int) (μ : Mem) : Option (Int × Mem) :=
  (fX1_isWithin p1 0 120 μ).bind fun x1 =>
  if ¬ x1 = 0 then
    if ¬ (μ 20 4) = 0 then
      mlet ((w32 ((bshl 1 (μ 20 4)) - 1))) fun x2 =>
      mlet (fun (x3 : Int) (x4 : Int) (x5 : Int) =>
        if x5 = 0 then
          bnd2 (fX1_tell (band x2 (bxor x4 (-1))) μ) fun x7 μ8 =>
          some (x3, μ8)
        else
          bnd2 (fX1_found 4 μ) fun x9 μ10 =>
          some (x9, μ10)
        ) fun (K6 : Int → Int → Int → Option (Int × Mem)) =>
      fX1_sure_L48 x2 K6 μ p1 fuel x2 0 1 0
    else
      some ((-4), μ)
  else
    some ((-1), μ)
theorem K_X1_sure {σ : Scr}  (p1 : Int)  (μ : Mem) : Con σ yX1_sure cX1_sure 7 (some .int) 4 [.inr (.inr 0), .inl p1] μ (fX1_sure p1 μ) wI := by
  refine con_of (own := RX1) (by decide) rfl (Nat.le_of_ble_eq_true rfl) ?_
  show Sim σ cX1_sure 7 RX1 (4) (some .int) wI 0 [(0, .inr (.inr 0)), (1, .inl p1)] [] μ (fX1_sure p1 μ)
  unfold fX1_sure
  refine S_iload_n dX1_sure_0 rfl ?_
  refine S_iconst dX1_sure_1 rfl ?_
  refine S_bipush dX1_sure_2 rfl (by decide) ?_
  refine S_callS_I dX1_sure_4 [.inl p1, .inl 0, .inl 120] (K_X1_isWithin p1 0 120 μ) l_X1_128 yo_X1_isWithin rfl rfl rfl (fun x1 => ?_)
  refine S_if_ne (tgt := 12) dX1_sure_7 (by decide) (fun h28 => ?_) (fun h28 => ?_)
  · refine S_aload_n dX1_sure_12 rfl ?_
    refine S_getR (c1 := 20) dX1_sure_13 rfl fl_X1_33 rfl rfl rfl ?_
    refine S_getI dX1_sure_16 rfl fl_X1_122 rfl rfl ?_
    refine S_if_ne (tgt := 25) dX1_sure_19 (by decide) (fun h27 => ?_) (fun h27 => ?_)
    · refine S_iconst dX1_sure_25 rfl ?_
      refine S_aload_n dX1_sure_26 rfl ?_
      refine S_getR (c1 := 20) dX1_sure_27 rfl fl_X1_33 rfl rfl rfl ?_
      refine S_getI dX1_sure_30 rfl fl_X1_122 rfl rfl ?_
      refine S_ishl dX1_sure_33 ?_
      refine S_iconst dX1_sure_34 rfl ?_
      refine S_isub dX1_sure_35 ?_
      refine S_let (fun x2 => ?_)
      refine S_istore_n (lv' := [(2, .inl x2), (0, .inr (.inr 0)), (1, .inl p1)]) dX1_sure_36 rfl rfl ?_
      refine S_iload_n dX1_sure_37 rfl ?_
      refine S_istore_n (lv' := [(3, .inl x2), (2, .inl x2), (0, .inr (.inr 0)), (1, .inl p1)]) dX1_sure_38 rfl rfl ?_
      refine S_iconst dX1_sure_39 rfl ?_
      refine S_istore (lv' := [(4, .inl 0), (3, .inl x2), (2, .inl x2), (0, .inr (.inr 0)), (1, .inl p1)]) dX1_sure_40 rfl rfl ?_
      refine S_iconst dX1_sure_42 rfl ?_
      refine S_istore (lv' := [(5, .inl 1), (4, .inl 0), (3, .inl x2), (2, .inl x2), (0, .inr (.inr 0)), (1, .inl p1)]) dX1_sure_43 rfl rfl ?_
      refine S_iconst dX1_sure_45 rfl ?_
      refine S_istore (lv' := [(6, .inl 0), (5, .inl 1), (4, .inl 0), (3, .inl x2), (2, .inl x2), (0, .inr (.inr 0)), (1, .inl p1)]) dX1_sure_46 rfl rfl ?_
      refine S_jn (fun (K6 : Int → Int → Int → Option (Int × Mem)) => ∀ (x3 : Int) (x4 : Int) (x5 : Int), Sim σ cX1_sure 7 RX1 (4) (some .int) wI 88 [(0, .inr (.inr 0)), (2, .inl x2), (3, .inl x3), (4, .inl x4), (5, .inl x5)] [] μ (K6 x3 x4 x5)) ?_ (fun K6 hK6 => ?_)
      · intro x3 x4 x5
        refine S_iload dX1_sure_88 rfl ?_
        refine S_if_eq (tgt := 99) dX1_sure_90 (by decide) (fun h11 => ?_) (fun h11 => ?_)
        · refine S_aload_n dX1_sure_99 rfl ?_
          refine S_iload_n dX1_sure_100 rfl ?_
          refine S_iload dX1_sure_101 rfl ?_
          refine S_iconst dX1_sure_103 rfl ?_
          refine S_ixor dX1_sure_104 ?_
          refine S_iand dX1_sure_105 ?_
          refine S_callV_M2 dX1_sure_106 [.inl (band x2 (bxor x4 (-1)))] (K_X1_tell (band x2 (bxor x4 (-1))) μ) l_X1_99 yo_X1_tell rfl rfl rfl rfl rfl (fun x7 μ8 => ?_)
          refine S_pop dX1_sure_109 rfl ?_
          refine S_iload_n dX1_sure_110 rfl ?_
          exact S_iret dX1_sure_111 rfl rfl
        · refine S_aload_n dX1_sure_93 rfl ?_
          refine S_iconst dX1_sure_94 rfl ?_
          refine S_callV_M2 dX1_sure_95 [.inl 4] (K_X1_found 4 μ) l_X1_87 yo_X1_found rfl rfl rfl rfl rfl (fun x9 μ10 => ?_)
          exact S_iret dX1_sure_98 rfl rfl
      have hL48 : ∀ (n16 : Nat) (x12 : Int) (x13 : Int) (x14 : Int) (x15 : Int), Sim σ cX1_sure 7 RX1 (4) (some .int) wI 48 [(0, .inr (.inr 0)), (1, .inl p1), (2, .inl x2), (3, .inl x12), (4, .inl x13), (5, .inl x14), (6, .inl x15)] [] μ (fX1_sure_L48 x2 K6 μ p1 n16 x12 x13 x14 x15) := by
        intro n16
        induction n16 with
        | zero =>
          intro x12 x13 x14 x15
          exact S_none rfl
        | succ n16 ih =>
          intro x12 x13 x14 x15
          rw [fX1_sure_L48]
          refine S_iload dX1_sure_48 rfl ?_
          refine S_iload_n dX1_sure_50 rfl ?_
          refine S_ic_gt (tgt := 88) dX1_sure_51 (by decide) (fun h26 => ?_) (fun h26 => ?_)
          · exact S_sub [0, 2, 3, 4, 5] rfl (hK6 x12 x13 x14)
          · refine S_aload_n dX1_sure_54 rfl ?_
            refine S_getR (c1 := 20) dX1_sure_55 rfl fl_X1_33 rfl rfl rfl ?_
            refine S_iload dX1_sure_58 rfl ?_
            refine S_callW_I dX1_sure_60 [.inl x15] (K_X0_daringOf (by unfold isBk; decide) x15 μ) l_X1_206 yo_X0_daringOf rfl rfl rfl rfl rfl (fun x17 => ?_)
            refine S_iload_n dX1_sure_63 rfl ?_
            refine S_jn (fun (K21 : Int → Int → Int → Option (Int × Mem)) => ∀ (x18 : Int) (x19 : Int) (x20 : Int), Sim σ cX1_sure 7 RX1 (4) (some .int) wI 82 [(0, .inr (.inr 0)), (1, .inl p1), (2, .inl x2), (3, .inl x18), (4, .inl x19), (5, .inl x20), (6, .inl x15)] [] μ (K21 x18 x19 x20)) ?_ (fun K21 hK21 => ?_)
            · intro x18 x19 x20
              refine S_iinc (lv' := fun x22 => [(6, .inl x22), (0, .inr (.inr 0)), (1, .inl p1), (2, .inl x2), (3, .inl x18), (4, .inl x19), (5, .inl x20)]) dX1_sure_82 rfl rfl rfl (fun _ => rfl) (fun x22 => ?_)
              refine S_goto (tgt := 48) dX1_sure_85 (by decide) ?_
              exact S_sub [1, 2, 3, 4, 5, 6, 0] rfl (ih x18 x19 x20 x22)
            refine S_ic_ne (tgt := 82) dX1_sure_64 (by decide) (fun h25 => ?_) (fun h25 => ?_)
            · exact S_sub [0, 1, 2, 3, 4, 5, 6] rfl (hK21 x12 x13 x14)
            · refine S_iload_n dX1_sure_67 rfl ?_
              refine S_iload dX1_sure_68 rfl ?_
              refine S_iand dX1_sure_70 ?_
              refine S_let (fun x23 => ?_)
              refine S_istore_n (lv' := [(3, .inl x23), (0, .inr (.inr 0)), (1, .inl p1), (2, .inl x2), (4, .inl x13), (5, .inl x14), (6, .inl x15)]) dX1_sure_71 rfl rfl ?_
              refine S_iload dX1_sure_72 rfl ?_
              refine S_iload dX1_sure_74 rfl ?_
              refine S_ior dX1_sure_76 ?_
              refine S_let (fun x24 => ?_)
              refine S_istore (lv' := [(4, .inl x24), (3, .inl x23), (0, .inr (.inr 0)), (1, .inl p1), (2, .inl x2), (5, .inl x14), (6, .inl x15)]) dX1_sure_77 rfl rfl ?_
              refine S_iconst dX1_sure_79 rfl ?_
              refine S_istore (lv' := [(5, .inl 0), (4, .inl x24), (3, .inl x23), (0, .inr (.inr 0)), (1, .inl p1), (2, .inl x2), (6, .inl x15)]) dX1_sure_80 rfl rfl ?_
              exact S_sub [3, 4, 5, 2, 1, 0, 6] rfl (hK21 x23 x24 0)
      exact S_sub [5, 6, 4, 3, 2, 1, 0] rfl (hL48 fuel x2 0 1 0)
    · refine S_bipush dX1_sure_22 rfl (by decide) ?_
      exact S_iret dX1_sure_24 rfl rfl
  · refine S_iconst dX1_sure_10 rfl ?_
    exact S_iret dX1_sure_11 rfl rfl
