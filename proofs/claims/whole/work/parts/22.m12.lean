theorem dX2_noRow_0 : decode cX2_noRow 0 = .ok (.aload_n 0, 1) := by decide +kernel
theorem dX2_noRow_1 : decode cX2_noRow 1 = .ok (.getfield 16, 3) := by decide +kernel
theorem dX2_noRow_4 : decode cX2_noRow 4 = .ok (.iload_n 1, 1) := by decide +kernel
theorem dX2_noRow_5 : decode cX2_noRow 5 = .ok (.iaload, 1) := by decide +kernel
theorem dX2_noRow_6 : decode cX2_noRow 6 = .ok (.ifCond .ge 9, 3) := by decide +kernel
theorem dX2_noRow_9 : decode cX2_noRow 9 = .ok (.aload_n 0, 1) := by decide +kernel
theorem dX2_noRow_10 : decode cX2_noRow 10 = .ok (.iconst 1, 1) := by decide +kernel
theorem dX2_noRow_11 : decode cX2_noRow 11 = .ok (.invokevirtual 69, 3) := by decide +kernel
theorem dX2_noRow_14 : decode cX2_noRow 14 = .ok (.ireturn, 1) := by decide +kernel
theorem dX2_noRow_15 : decode cX2_noRow 15 = .ok (.aload_n 0, 1) := by decide +kernel
theorem dX2_noRow_16 : decode cX2_noRow 16 = .ok (.getfield 16, 3) := by decide +kernel
theorem dX2_noRow_19 : decode cX2_noRow 19 = .ok (.iload_n 1, 1) := by decide +kernel
theorem dX2_noRow_20 : decode cX2_noRow 20 = .ok (.iaload, 1) := by decide +kernel
theorem dX2_noRow_21 : decode cX2_noRow 21 = .ok (.i2l, 1) := by decide +kernel
theorem dX2_noRow_22 : decode cX2_noRow 22 = .ok (.lconst 1, 1) := by decide +kernel
theorem dX2_noRow_23 : decode cX2_noRow 23 = .ok (.ldc2_w 214, 3) := by decide +kernel
theorem dX2_noRow_26 : decode cX2_noRow 26 = .ok (.invokestatic 59, 3) := by decide +kernel
theorem dX2_noRow_29 : decode cX2_noRow 29 = .ok (.ifCond .ne 9, 3) := by decide +kernel
theorem dX2_noRow_32 : decode cX2_noRow 32 = .ok (.aload_n 0, 1) := by decide +kernel
theorem dX2_noRow_33 : decode cX2_noRow 33 = .ok (.iconst 5, 1) := by decide +kernel
theorem dX2_noRow_34 : decode cX2_noRow 34 = .ok (.invokevirtual 69, 3) := by decide +kernel
theorem dX2_noRow_37 : decode cX2_noRow 37 = .ok (.ireturn, 1) := by decide +kernel
theorem dX2_noRow_38 : decode cX2_noRow 38 = .ok (.iconst 1, 1) := by decide +kernel
theorem dX2_noRow_39 : decode cX2_noRow 39 = .ok (.istore_n 2, 1) := by decide +kernel
theorem dX2_noRow_40 : decode cX2_noRow 40 = .ok (.iconst 0, 1) := by decide +kernel
theorem dX2_noRow_41 : decode cX2_noRow 41 = .ok (.istore_n 3, 1) := by decide +kernel
theorem dX2_noRow_42 : decode cX2_noRow 42 = .ok (.iload_n 3, 1) := by decide +kernel
theorem dX2_noRow_43 : decode cX2_noRow 43 = .ok (.aload_n 0, 1) := by decide +kernel
theorem dX2_noRow_44 : decode cX2_noRow 44 = .ok (.getfield 16, 3) := by decide +kernel
theorem dX2_noRow_47 : decode cX2_noRow 47 = .ok (.iload_n 1, 1) := by decide +kernel
theorem dX2_noRow_48 : decode cX2_noRow 48 = .ok (.iaload, 1) := by decide +kernel
theorem dX2_noRow_49 : decode cX2_noRow 49 = .ok (.if_icmp .ge 37, 3) := by decide +kernel
theorem dX2_noRow_52 : decode cX2_noRow 52 = .ok (.iload_n 2, 1) := by decide +kernel
theorem dX2_noRow_53 : decode cX2_noRow 53 = .ok (.ifCond .eq 25, 3) := by decide +kernel
theorem dX2_noRow_56 : decode cX2_noRow 56 = .ok (.aload_n 0, 1) := by decide +kernel
theorem dX2_noRow_57 : decode cX2_noRow 57 = .ok (.aload_n 0, 1) := by decide +kernel
theorem dX2_noRow_58 : decode cX2_noRow 58 = .ok (.getfield 19, 3) := by decide +kernel
theorem dX2_noRow_61 : decode cX2_noRow 61 = .ok (.bipush 40, 2) := by decide +kernel
theorem dX2_noRow_63 : decode cX2_noRow 63 = .ok (.iload_n 1, 1) := by decide +kernel
theorem dX2_noRow_64 : decode cX2_noRow 64 = .ok (.imul, 1) := by decide +kernel
theorem dX2_noRow_65 : decode cX2_noRow 65 = .ok (.iload_n 3, 1) := by decide +kernel
theorem dX2_noRow_66 : decode cX2_noRow 66 = .ok (.iadd, 1) := by decide +kernel
theorem dX2_noRow_67 : decode cX2_noRow 67 = .ok (.iaload, 1) := by decide +kernel
theorem dX2_noRow_68 : decode cX2_noRow 68 = .ok (.invokevirtual 162, 3) := by decide +kernel
theorem dX2_noRow_71 : decode cX2_noRow 71 = .ok (.ifCond .eq 7, 3) := by decide +kernel
theorem dX2_noRow_74 : decode cX2_noRow 74 = .ok (.iconst 1, 1) := by decide +kernel
theorem dX2_noRow_75 : decode cX2_noRow 75 = .ok (.goto 4, 3) := by decide +kernel
theorem dX2_noRow_78 : decode cX2_noRow 78 = .ok (.iconst 0, 1) := by decide +kernel
theorem dX2_noRow_79 : decode cX2_noRow 79 = .ok (.istore_n 2, 1) := by decide +kernel
theorem dX2_noRow_80 : decode cX2_noRow 80 = .ok (.iinc 3 1, 3) := by decide +kernel
theorem dX2_noRow_83 : decode cX2_noRow 83 = .ok (.goto (-41), 3) := by decide +kernel
theorem dX2_noRow_86 : decode cX2_noRow 86 = .ok (.iload_n 2, 1) := by decide +kernel
theorem dX2_noRow_87 : decode cX2_noRow 87 = .ok (.ifCond .eq 7, 3) := by decide +kernel
theorem dX2_noRow_90 : decode cX2_noRow 90 = .ok (.iconst 0, 1) := by decide +kernel
theorem dX2_noRow_91 : decode cX2_noRow 91 = .ok (.goto 8, 3) := by decide +kernel
theorem dX2_noRow_94 : decode cX2_noRow 94 = .ok (.aload_n 0, 1) := by decide +kernel
theorem dX2_noRow_95 : decode cX2_noRow 95 = .ok (.iconst 3, 1) := by decide +kernel
theorem dX2_noRow_96 : decode cX2_noRow 96 = .ok (.invokevirtual 69, 3) := by decide +kernel
theorem dX2_noRow_99 : decode cX2_noRow 99 = .ok (.ireturn, 1) := by decide +kernel
theorem dX2_isSo_0 : decode cX2_isSo 0 = .ok (.iconst 1, 1) := by decide +kernel
theorem dX2_isSo_1 : decode cX2_isSo 1 = .ok (.istore_n 2, 1) := by decide +kernel
theorem dX2_isSo_2 : decode cX2_isSo 2 = .ok (.iconst 0, 1) := by decide +kernel
theorem dX2_isSo_3 : decode cX2_isSo 3 = .ok (.istore_n 3, 1) := by decide +kernel
theorem dX2_isSo_4 : decode cX2_isSo 4 = .ok (.iload_n 3, 1) := by decide +kernel
theorem dX2_isSo_5 : decode cX2_isSo 5 = .ok (.aload_n 0, 1) := by decide +kernel
theorem dX2_isSo_6 : decode cX2_isSo 6 = .ok (.getfield 16, 3) := by decide +kernel
theorem dX2_isSo_9 : decode cX2_isSo 9 = .ok (.iload_n 1, 1) := by decide +kernel
theorem dX2_isSo_10 : decode cX2_isSo 10 = .ok (.iaload, 1) := by decide +kernel
theorem dX2_isSo_11 : decode cX2_isSo 11 = .ok (.if_icmp .ge 40, 3) := by decide +kernel
theorem dX2_isSo_14 : decode cX2_isSo 14 = .ok (.iload_n 2, 1) := by decide +kernel
theorem dX2_isSo_15 : decode cX2_isSo 15 = .ok (.ifCond .eq 28, 3) := by decide +kernel
theorem dX2_isSo_18 : decode cX2_isSo 18 = .ok (.aload_n 0, 1) := by decide +kernel
theorem dX2_isSo_19 : decode cX2_isSo 19 = .ok (.sipush 3284, 3) := by decide +kernel
theorem dX2_isSo_22 : decode cX2_isSo 22 = .ok (.invokevirtual 177, 3) := by decide +kernel
theorem dX2_isSo_25 : decode cX2_isSo 25 = .ok (.aload_n 0, 1) := by decide +kernel
theorem dX2_isSo_26 : decode cX2_isSo 26 = .ok (.getfield 19, 3) := by decide +kernel
theorem dX2_isSo_29 : decode cX2_isSo 29 = .ok (.bipush 40, 2) := by decide +kernel
theorem dX2_isSo_31 : decode cX2_isSo 31 = .ok (.iload_n 1, 1) := by decide +kernel
theorem dX2_isSo_32 : decode cX2_isSo 32 = .ok (.imul, 1) := by decide +kernel
theorem dX2_isSo_33 : decode cX2_isSo 33 = .ok (.iload_n 3, 1) := by decide +kernel
theorem dX2_isSo_34 : decode cX2_isSo 34 = .ok (.iadd, 1) := by decide +kernel
theorem dX2_isSo_35 : decode cX2_isSo 35 = .ok (.iaload, 1) := by decide +kernel
theorem dX2_isSo_36 : decode cX2_isSo 36 = .ok (.if_icmp .ne 7, 3) := by decide +kernel
theorem dX2_isSo_39 : decode cX2_isSo 39 = .ok (.iconst 1, 1) := by decide +kernel
theorem dX2_isSo_40 : decode cX2_isSo 40 = .ok (.goto 4, 3) := by decide +kernel
theorem dX2_isSo_43 : decode cX2_isSo 43 = .ok (.iconst 0, 1) := by decide +kernel
theorem dX2_isSo_44 : decode cX2_isSo 44 = .ok (.istore_n 2, 1) := by decide +kernel
theorem dX2_isSo_45 : decode cX2_isSo 45 = .ok (.iinc 3 1, 3) := by decide +kernel
theorem dX2_isSo_48 : decode cX2_isSo 48 = .ok (.goto (-44), 3) := by decide +kernel
theorem dX2_isSo_51 : decode cX2_isSo 51 = .ok (.iload_n 2, 1) := by decide +kernel
theorem dX2_isSo_52 : decode cX2_isSo 52 = .ok (.ireturn, 1) := by decide +kernel
theorem dX2_daringsBy_0 : decode cX2_daringsBy 0 = .ok (.iconst 0, 1) := by decide +kernel
theorem dX2_daringsBy_1 : decode cX2_daringsBy 1 = .ok (.istore_n 3, 1) := by decide +kernel
theorem dX2_daringsBy_2 : decode cX2_daringsBy 2 = .ok (.iconst 0, 1) := by decide +kernel
theorem dX2_daringsBy_3 : decode cX2_daringsBy 3 = .ok (.istore 4, 2) := by decide +kernel
theorem dX2_daringsBy_5 : decode cX2_daringsBy 5 = .ok (.iload 4, 2) := by decide +kernel
theorem dX2_daringsBy_7 : decode cX2_daringsBy 7 = .ok (.bipush 21, 2) := by decide +kernel
theorem dX2_daringsBy_9 : decode cX2_daringsBy 9 = .ok (.if_icmp .ge 44, 3) := by decide +kernel
theorem dX2_daringsBy_12 : decode cX2_daringsBy 12 = .ok (.aload_n 0, 1) := by decide +kernel
theorem dX2_daringsBy_13 : decode cX2_daringsBy 13 = .ok (.invokevirtual 196, 3) := by decide +kernel
theorem dX2_daringsBy_16 : decode cX2_daringsBy 16 = .ok (.aload_n 0, 1) := by decide +kernel
theorem dX2_daringsBy_17 : decode cX2_daringsBy 17 = .ok (.getfield 7, 3) := by decide +kernel
theorem dX2_daringsBy_20 : decode cX2_daringsBy 20 = .ok (.sipush 3293, 3) := by decide +kernel
theorem dX2_daringsBy_23 : decode cX2_daringsBy 23 = .ok (.iload_n 1, 1) := by decide +kernel
theorem dX2_daringsBy_24 : decode cX2_daringsBy 24 = .ok (.iadd, 1) := by decide +kernel
theorem dX2_daringsBy_25 : decode cX2_daringsBy 25 = .ok (.iload 4, 2) := by decide +kernel
theorem dX2_daringsBy_27 : decode cX2_daringsBy 27 = .ok (.iastore, 1) := by decide +kernel
theorem dX2_daringsBy_28 : decode cX2_daringsBy 28 = .ok (.iload_n 3, 1) := by decide +kernel
theorem dX2_daringsBy_29 : decode cX2_daringsBy 29 = .ok (.aload_n 0, 1) := by decide +kernel
theorem dX2_daringsBy_30 : decode cX2_daringsBy 30 = .ok (.iload_n 2, 1) := by decide +kernel
theorem dX2_daringsBy_31 : decode cX2_daringsBy 31 = .ok (.invokevirtual 216, 3) := by decide +kernel
theorem dX2_daringsBy_34 : decode cX2_daringsBy 34 = .ok (.ifCond .eq 10, 3) := by decide +kernel
theorem dX2_daringsBy_37 : decode cX2_daringsBy 37 = .ok (.iconst 1, 1) := by decide +kernel
theorem dX2_daringsBy_38 : decode cX2_daringsBy 38 = .ok (.iload 4, 2) := by decide +kernel
theorem dX2_daringsBy_40 : decode cX2_daringsBy 40 = .ok (.ishl, 1) := by decide +kernel
theorem dX2_daringsBy_41 : decode cX2_daringsBy 41 = .ok (.goto 4, 3) := by decide +kernel
theorem dX2_daringsBy_44 : decode cX2_daringsBy 44 = .ok (.iconst 0, 1) := by decide +kernel
theorem dX2_daringsBy_45 : decode cX2_daringsBy 45 = .ok (.ior, 1) := by decide +kernel
theorem dX2_daringsBy_46 : decode cX2_daringsBy 46 = .ok (.istore_n 3, 1) := by decide +kernel
theorem dX2_daringsBy_47 : decode cX2_daringsBy 47 = .ok (.iinc 4 1, 3) := by decide +kernel
theorem dX2_daringsBy_50 : decode cX2_daringsBy 50 = .ok (.goto (-45), 3) := by decide +kernel
theorem dX2_daringsBy_53 : decode cX2_daringsBy 53 = .ok (.iload_n 3, 1) := by decide +kernel
theorem dX2_daringsBy_54 : decode cX2_daringsBy 54 = .ok (.ireturn, 1) := by decide +kernel
theorem dX2_darings_0 : decode cX2_darings 0 = .ok (.aload_n 0, 1) := by decide +kernel
theorem dX2_darings_1 : decode cX2_darings 1 = .ok (.iload_n 1, 1) := by decide +kernel
theorem dX2_darings_2 : decode cX2_darings 2 = .ok (.invokevirtual 162, 3) := by decide +kernel
theorem dX2_darings_5 : decode cX2_darings 5 = .ok (.ifCond .eq 10, 3) := by decide +kernel
theorem dX2_darings_8 : decode cX2_darings 8 = .ok (.iload_n 2, 1) := by decide +kernel
theorem dX2_darings_9 : decode cX2_darings 9 = .ok (.invokestatic 65, 3) := by decide +kernel
theorem dX2_darings_12 : decode cX2_darings 12 = .ok (.ifCond .ne 5, 3) := by decide +kernel
theorem dX2_darings_15 : decode cX2_darings 15 = .ok (.iconst (-1), 1) := by decide +kernel
theorem dX2_darings_16 : decode cX2_darings 16 = .ok (.ireturn, 1) := by decide +kernel
theorem dX2_darings_17 : decode cX2_darings 17 = .ok (.aload_n 0, 1) := by decide +kernel
theorem dX2_darings_18 : decode cX2_darings 18 = .ok (.iload_n 2, 1) := by decide +kernel
theorem dX2_darings_19 : decode cX2_darings 19 = .ok (.invokevirtual 219, 3) := by decide +kernel
theorem dX2_darings_22 : decode cX2_darings 22 = .ok (.istore_n 3, 1) := by decide +kernel
theorem dX2_darings_23 : decode cX2_darings 23 = .ok (.iload_n 3, 1) := by decide +kernel
theorem dX2_darings_24 : decode cX2_darings 24 = .ok (.ifCond .eq 7, 3) := by decide +kernel
theorem dX2_darings_27 : decode cX2_darings 27 = .ok (.iload_n 3, 1) := by decide +kernel
theorem dX2_darings_28 : decode cX2_darings 28 = .ok (.goto 9, 3) := by decide +kernel
theorem dX2_darings_31 : decode cX2_darings 31 = .ok (.aload_n 0, 1) := by decide +kernel
theorem dX2_darings_32 : decode cX2_darings 32 = .ok (.iload_n 1, 1) := by decide +kernel
theorem dX2_darings_33 : decode cX2_darings 33 = .ok (.iload_n 2, 1) := by decide +kernel
theorem dX2_darings_34 : decode cX2_darings 34 = .ok (.invokevirtual 222, 3) := by decide +kernel
theorem dX2_darings_37 : decode cX2_darings 37 = .ok (.ireturn, 1) := by decide +kernel
theorem dX2_kinds_0 : decode cX2_kinds 0 = .ok (.aload_n 0, 1) := by decide +kernel
theorem dX2_kinds_1 : decode cX2_kinds 1 = .ok (.iload_n 1, 1) := by decide +kernel
theorem dX2_kinds_2 : decode cX2_kinds 2 = .ok (.invokevirtual 162, 3) := by decide +kernel
theorem dX2_kinds_5 : decode cX2_kinds 5 = .ok (.ifCond .eq 10, 3) := by decide +kernel
theorem dX2_kinds_8 : decode cX2_kinds 8 = .ok (.iload_n 2, 1) := by decide +kernel
theorem dX2_kinds_9 : decode cX2_kinds 9 = .ok (.invokestatic 65, 3) := by decide +kernel
theorem dX2_kinds_12 : decode cX2_kinds 12 = .ok (.ifCond .ne 5, 3) := by decide +kernel
theorem dX2_kinds_15 : decode cX2_kinds 15 = .ok (.iconst (-1), 1) := by decide +kernel
theorem dX2_kinds_16 : decode cX2_kinds 16 = .ok (.ireturn, 1) := by decide +kernel
theorem dX2_kinds_17 : decode cX2_kinds 17 = .ok (.aload_n 0, 1) := by decide +kernel
theorem dX2_kinds_18 : decode cX2_kinds 18 = .ok (.iload_n 2, 1) := by decide +kernel
theorem dX2_kinds_19 : decode cX2_kinds 19 = .ok (.invokevirtual 219, 3) := by decide +kernel
theorem dX2_kinds_22 : decode cX2_kinds 22 = .ok (.istore_n 3, 1) := by decide +kernel
theorem dX2_kinds_23 : decode cX2_kinds 23 = .ok (.iload_n 3, 1) := by decide +kernel
theorem dX2_kinds_24 : decode cX2_kinds 24 = .ok (.ifCond .eq 5, 3) := by decide +kernel
theorem dX2_kinds_27 : decode cX2_kinds 27 = .ok (.iload_n 3, 1) := by decide +kernel
theorem dX2_kinds_28 : decode cX2_kinds 28 = .ok (.ireturn, 1) := by decide +kernel
theorem dX2_kinds_29 : decode cX2_kinds 29 = .ok (.aload_n 0, 1) := by decide +kernel
theorem dX2_kinds_30 : decode cX2_kinds 30 = .ok (.getfield 13, 3) := by decide +kernel
theorem dX2_kinds_33 : decode cX2_kinds 33 = .ok (.iload_n 1, 1) := by decide +kernel
theorem dX2_kinds_34 : decode cX2_kinds 34 = .ok (.iaload, 1) := by decide +kernel
theorem dX2_kinds_35 : decode cX2_kinds 35 = .ok (.istore 4, 2) := by decide +kernel
theorem dX2_kinds_37 : decode cX2_kinds 37 = .ok (.iconst 0, 1) := by decide +kernel
theorem dX2_kinds_38 : decode cX2_kinds 38 = .ok (.istore 5, 2) := by decide +kernel
theorem dX2_kinds_40 : decode cX2_kinds 40 = .ok (.iconst 0, 1) := by decide +kernel
theorem dX2_kinds_41 : decode cX2_kinds 41 = .ok (.istore 6, 2) := by decide +kernel
theorem dX2_kinds_43 : decode cX2_kinds 43 = .ok (.iload 6, 2) := by decide +kernel
theorem dX2_kinds_45 : decode cX2_kinds 45 = .ok (.bipush 6, 2) := by decide +kernel
theorem dX2_kinds_47 : decode cX2_kinds 47 = .ok (.if_icmp .ge 42, 3) := by decide +kernel
theorem dX2_kinds_50 : decode cX2_kinds 50 = .ok (.aload_n 0, 1) := by decide +kernel
theorem dX2_kinds_51 : decode cX2_kinds 51 = .ok (.getfield 13, 3) := by decide +kernel
theorem dX2_kinds_54 : decode cX2_kinds 54 = .ok (.iload_n 1, 1) := by decide +kernel
theorem dX2_kinds_55 : decode cX2_kinds 55 = .ok (.iload 6, 2) := by decide +kernel
theorem dX2_kinds_57 : decode cX2_kinds 57 = .ok (.iastore, 1) := by decide +kernel
theorem dX2_kinds_58 : decode cX2_kinds 58 = .ok (.aload_n 0, 1) := by decide +kernel
theorem dX2_kinds_59 : decode cX2_kinds 59 = .ok (.invokevirtual 196, 3) := by decide +kernel
theorem dX2_kinds_62 : decode cX2_kinds 62 = .ok (.iload 5, 2) := by decide +kernel
theorem dX2_kinds_64 : decode cX2_kinds 64 = .ok (.aload_n 0, 1) := by decide +kernel
theorem dX2_kinds_65 : decode cX2_kinds 65 = .ok (.iload_n 2, 1) := by decide +kernel
theorem dX2_kinds_66 : decode cX2_kinds 66 = .ok (.invokevirtual 216, 3) := by decide +kernel
theorem dX2_kinds_69 : decode cX2_kinds 69 = .ok (.ifCond .eq 10, 3) := by decide +kernel
theorem dX2_kinds_72 : decode cX2_kinds 72 = .ok (.iconst 1, 1) := by decide +kernel
theorem dX2_kinds_73 : decode cX2_kinds 73 = .ok (.iload 6, 2) := by decide +kernel
theorem dX2_kinds_75 : decode cX2_kinds 75 = .ok (.ishl, 1) := by decide +kernel
theorem dX2_kinds_76 : decode cX2_kinds 76 = .ok (.goto 4, 3) := by decide +kernel
theorem dX2_kinds_79 : decode cX2_kinds 79 = .ok (.iconst 0, 1) := by decide +kernel
theorem dX2_kinds_80 : decode cX2_kinds 80 = .ok (.ior, 1) := by decide +kernel
theorem dX2_kinds_81 : decode cX2_kinds 81 = .ok (.istore 5, 2) := by decide +kernel
theorem dX2_kinds_83 : decode cX2_kinds 83 = .ok (.iinc 6 1, 3) := by decide +kernel
theorem dX2_kinds_86 : decode cX2_kinds 86 = .ok (.goto (-43), 3) := by decide +kernel
theorem dX2_kinds_89 : decode cX2_kinds 89 = .ok (.aload_n 0, 1) := by decide +kernel
theorem dX2_kinds_90 : decode cX2_kinds 90 = .ok (.getfield 13, 3) := by decide +kernel
theorem dX2_kinds_93 : decode cX2_kinds 93 = .ok (.iload_n 1, 1) := by decide +kernel
theorem dX2_kinds_94 : decode cX2_kinds 94 = .ok (.iload 4, 2) := by decide +kernel
theorem dX2_kinds_96 : decode cX2_kinds 96 = .ok (.iastore, 1) := by decide +kernel
theorem dX2_kinds_97 : decode cX2_kinds 97 = .ok (.iload 5, 2) := by decide +kernel
theorem dX2_kinds_99 : decode cX2_kinds 99 = .ok (.ireturn, 1) := by decide +kernel
theorem dX2_layParts_0 : decode cX2_layParts 0 = .ok (.iconst 0, 1) := by decide +kernel
theorem dX2_layParts_1 : decode cX2_layParts 1 = .ok (.istore_n 3, 1) := by decide +kernel
theorem dX2_layParts_2 : decode cX2_layParts 2 = .ok (.iload_n 3, 1) := by decide +kernel
theorem dX2_layParts_3 : decode cX2_layParts 3 = .ok (.sipush 147, 3) := by decide +kernel
theorem dX2_layParts_6 : decode cX2_layParts 6 = .ok (.if_icmp .ge 16, 3) := by decide +kernel
theorem dX2_layParts_9 : decode cX2_layParts 9 = .ok (.aload_n 0, 1) := by decide +kernel
theorem dX2_layParts_10 : decode cX2_layParts 10 = .ok (.getfield 44, 3) := by decide +kernel
theorem dX2_layParts_13 : decode cX2_layParts 13 = .ok (.iload_n 3, 1) := by decide +kernel
theorem dX2_layParts_14 : decode cX2_layParts 14 = .ok (.iconst 0, 1) := by decide +kernel
theorem dX2_layParts_15 : decode cX2_layParts 15 = .ok (.iastore, 1) := by decide +kernel
theorem dX2_layParts_16 : decode cX2_layParts 16 = .ok (.iinc 3 1, 3) := by decide +kernel
theorem dX2_layParts_19 : decode cX2_layParts 19 = .ok (.goto (-17), 3) := by decide +kernel
theorem dX2_layParts_22 : decode cX2_layParts 22 = .ok (.iconst 0, 1) := by decide +kernel
theorem dX2_layParts_23 : decode cX2_layParts 23 = .ok (.istore_n 3, 1) := by decide +kernel
theorem dX2_layParts_24 : decode cX2_layParts 24 = .ok (.iload_n 3, 1) := by decide +kernel
theorem dX2_layParts_25 : decode cX2_layParts 25 = .ok (.bipush 21, 2) := by decide +kernel
theorem dX2_layParts_27 : decode cX2_layParts 27 = .ok (.if_icmp .ge 87, 3) := by decide +kernel
theorem dX2_layParts_30 : decode cX2_layParts 30 = .ok (.iload_n 2, 1) := by decide +kernel
theorem dX2_layParts_31 : decode cX2_layParts 31 = .ok (.iload_n 3, 1) := by decide +kernel
theorem dX2_layParts_32 : decode cX2_layParts 32 = .ok (.invokestatic 149, 3) := by decide +kernel
theorem dX2_layParts_35 : decode cX2_layParts 35 = .ok (.ifCond .eq 73, 3) := by decide +kernel
theorem dX2_layParts_38 : decode cX2_layParts 38 = .ok (.aload_n 0, 1) := by decide +kernel
theorem dX2_layParts_39 : decode cX2_layParts 39 = .ok (.invokevirtual 196, 3) := by decide +kernel
theorem dX2_layParts_42 : decode cX2_layParts 42 = .ok (.aload_n 0, 1) := by decide +kernel
theorem dX2_layParts_43 : decode cX2_layParts 43 = .ok (.getfield 7, 3) := by decide +kernel
theorem dX2_layParts_46 : decode cX2_layParts 46 = .ok (.sipush 3293, 3) := by decide +kernel
theorem dX2_layParts_49 : decode cX2_layParts 49 = .ok (.iload_n 1, 1) := by decide +kernel
theorem dX2_layParts_50 : decode cX2_layParts 50 = .ok (.iadd, 1) := by decide +kernel
theorem dX2_layParts_51 : decode cX2_layParts 51 = .ok (.iload_n 3, 1) := by decide +kernel
theorem dX2_layParts_52 : decode cX2_layParts 52 = .ok (.iastore, 1) := by decide +kernel
theorem dX2_layParts_53 : decode cX2_layParts 53 = .ok (.iconst 1, 1) := by decide +kernel
theorem dX2_layParts_54 : decode cX2_layParts 54 = .ok (.istore 4, 2) := by decide +kernel
theorem dX2_layParts_56 : decode cX2_layParts 56 = .ok (.iload 4, 2) := by decide +kernel
theorem dX2_layParts_58 : decode cX2_layParts 58 = .ok (.bipush 21, 2) := by decide +kernel
theorem dX2_layParts_60 : decode cX2_layParts 60 = .ok (.if_icmp .ge 48, 3) := by decide +kernel
theorem dX2_layParts_63 : decode cX2_layParts 63 = .ok (.aload_n 0, 1) := by decide +kernel
theorem dX2_layParts_64 : decode cX2_layParts 64 = .ok (.sipush 3284, 3) := by decide +kernel
theorem dX2_layParts_67 : decode cX2_layParts 67 = .ok (.invokevirtual 177, 3) := by decide +kernel
theorem dX2_layParts_70 : decode cX2_layParts 70 = .ok (.istore 5, 2) := by decide +kernel
theorem dX2_layParts_72 : decode cX2_layParts 72 = .ok (.aload_n 0, 1) := by decide +kernel
theorem dX2_layParts_73 : decode cX2_layParts 73 = .ok (.getfield 44, 3) := by decide +kernel
theorem dX2_layParts_76 : decode cX2_layParts 76 = .ok (.bipush 7, 2) := by decide +kernel
theorem dX2_layParts_78 : decode cX2_layParts 78 = .ok (.iload 4, 2) := by decide +kernel
theorem dX2_layParts_80 : decode cX2_layParts 80 = .ok (.imul, 1) := by decide +kernel
theorem dX2_layParts_81 : decode cX2_layParts 81 = .ok (.iload 5, 2) := by decide +kernel
theorem dX2_layParts_83 : decode cX2_layParts 83 = .ok (.bipush (-9), 2) := by decide +kernel
theorem dX2_layParts_85 : decode cX2_layParts 85 = .ok (.if_icmp .ne 7, 3) := by decide +kernel
theorem dX2_layParts_88 : decode cX2_layParts 88 = .ok (.iconst 0, 1) := by decide +kernel
theorem dX2_layParts_89 : decode cX2_layParts 89 = .ok (.goto 7, 3) := by decide +kernel
theorem dX2_layParts_92 : decode cX2_layParts 92 = .ok (.iconst 1, 1) := by decide +kernel
theorem dX2_layParts_93 : decode cX2_layParts 93 = .ok (.iload 5, 2) := by decide +kernel
theorem dX2_layParts_95 : decode cX2_layParts 95 = .ok (.iadd, 1) := by decide +kernel
theorem dX2_layParts_96 : decode cX2_layParts 96 = .ok (.iadd, 1) := by decide +kernel
theorem dX2_layParts_97 : decode cX2_layParts 97 = .ok (.dup2, 1) := by decide +kernel
theorem dX2_layParts_98 : decode cX2_layParts 98 = .ok (.iaload, 1) := by decide +kernel
theorem dX2_layParts_99 : decode cX2_layParts 99 = .ok (.iconst 1, 1) := by decide +kernel
theorem dX2_layParts_100 : decode cX2_layParts 100 = .ok (.iadd, 1) := by decide +kernel
theorem dX2_layParts_101 : decode cX2_layParts 101 = .ok (.iastore, 1) := by decide +kernel
theorem dX2_layParts_102 : decode cX2_layParts 102 = .ok (.iinc 4 1, 3) := by decide +kernel
theorem dX2_layParts_105 : decode cX2_layParts 105 = .ok (.goto (-49), 3) := by decide +kernel
theorem dX2_layParts_108 : decode cX2_layParts 108 = .ok (.iinc 3 1, 3) := by decide +kernel
theorem dX2_layParts_111 : decode cX2_layParts 111 = .ok (.goto (-87), 3) := by decide +kernel
theorem dX2_layParts_114 : decode cX2_layParts 114 = .ok (.return_, 1) := by decide +kernel
theorem dX2_greatestPart_0 : decode cX2_greatestPart 0 = .ok (.iconst 0, 1) := by decide +kernel
theorem dX2_greatestPart_1 : decode cX2_greatestPart 1 = .ok (.istore_n 2, 1) := by decide +kernel
theorem dX2_greatestPart_2 : decode cX2_greatestPart 2 = .ok (.bipush 7, 2) := by decide +kernel
theorem dX2_greatestPart_4 : decode cX2_greatestPart 4 = .ok (.iload_n 1, 1) := by decide +kernel
theorem dX2_greatestPart_5 : decode cX2_greatestPart 5 = .ok (.imul, 1) := by decide +kernel
theorem dX2_greatestPart_6 : decode cX2_greatestPart 6 = .ok (.istore_n 3, 1) := by decide +kernel
theorem dX2_greatestPart_7 : decode cX2_greatestPart 7 = .ok (.iload_n 3, 1) := by decide +kernel
theorem dX2_greatestPart_8 : decode cX2_greatestPart 8 = .ok (.bipush 7, 2) := by decide +kernel
theorem dX2_greatestPart_10 : decode cX2_greatestPart 10 = .ok (.iload_n 1, 1) := by decide +kernel
theorem dX2_greatestPart_11 : decode cX2_greatestPart 11 = .ok (.imul, 1) := by decide +kernel
theorem dX2_greatestPart_12 : decode cX2_greatestPart 12 = .ok (.bipush 7, 2) := by decide +kernel
theorem dX2_greatestPart_14 : decode cX2_greatestPart 14 = .ok (.iadd, 1) := by decide +kernel
theorem dX2_greatestPart_15 : decode cX2_greatestPart 15 = .ok (.if_icmp .ge 30, 3) := by decide +kernel
theorem dX2_greatestPart_18 : decode cX2_greatestPart 18 = .ok (.aload_n 0, 1) := by decide +kernel
theorem dX2_greatestPart_19 : decode cX2_greatestPart 19 = .ok (.getfield 44, 3) := by decide +kernel
theorem dX2_greatestPart_22 : decode cX2_greatestPart 22 = .ok (.iload_n 3, 1) := by decide +kernel
theorem dX2_greatestPart_23 : decode cX2_greatestPart 23 = .ok (.iaload, 1) := by decide +kernel
theorem dX2_greatestPart_24 : decode cX2_greatestPart 24 = .ok (.iload_n 2, 1) := by decide +kernel
theorem dX2_greatestPart_25 : decode cX2_greatestPart 25 = .ok (.if_icmp .le 12, 3) := by decide +kernel
theorem dX2_greatestPart_28 : decode cX2_greatestPart 28 = .ok (.aload_n 0, 1) := by decide +kernel
theorem dX2_greatestPart_29 : decode cX2_greatestPart 29 = .ok (.getfield 44, 3) := by decide +kernel
theorem dX2_greatestPart_32 : decode cX2_greatestPart 32 = .ok (.iload_n 3, 1) := by decide +kernel
theorem dX2_greatestPart_33 : decode cX2_greatestPart 33 = .ok (.iaload, 1) := by decide +kernel
theorem dX2_greatestPart_34 : decode cX2_greatestPart 34 = .ok (.goto 4, 3) := by decide +kernel
theorem dX2_greatestPart_37 : decode cX2_greatestPart 37 = .ok (.iload_n 2, 1) := by decide +kernel
theorem dX2_greatestPart_38 : decode cX2_greatestPart 38 = .ok (.istore_n 2, 1) := by decide +kernel
theorem dX2_greatestPart_39 : decode cX2_greatestPart 39 = .ok (.iinc 3 1, 3) := by decide +kernel
theorem dX2_greatestPart_42 : decode cX2_greatestPart 42 = .ok (.goto (-35), 3) := by decide +kernel
theorem dX2_greatestPart_45 : decode cX2_greatestPart 45 = .ok (.iload_n 2, 1) := by decide +kernel
theorem dX2_greatestPart_46 : decode cX2_greatestPart 46 = .ok (.ireturn, 1) := by decide +kernel
theorem dX2_look_0 : decode cX2_look 0 = .ok (.aload_n 0, 1) := by decide +kernel
theorem dX2_look_1 : decode cX2_look 1 = .ok (.iload_n 1, 1) := by decide +kernel
theorem dX2_look_2 : decode cX2_look 2 = .ok (.invokevirtual 162, 3) := by decide +kernel
theorem dX2_look_5 : decode cX2_look 5 = .ok (.ifCond .eq 10, 3) := by decide +kernel
theorem dX2_look_8 : decode cX2_look 8 = .ok (.iload_n 2, 1) := by decide +kernel
theorem dX2_look_9 : decode cX2_look 9 = .ok (.invokestatic 65, 3) := by decide +kernel
theorem dX2_look_12 : decode cX2_look 12 = .ok (.ifCond .ne 5, 3) := by decide +kernel
theorem dX2_look_15 : decode cX2_look 15 = .ok (.iconst (-1), 1) := by decide +kernel
theorem dX2_look_16 : decode cX2_look 16 = .ok (.ireturn, 1) := by decide +kernel
theorem dX2_look_17 : decode cX2_look 17 = .ok (.aload_n 0, 1) := by decide +kernel
theorem dX2_look_18 : decode cX2_look 18 = .ok (.iload_n 2, 1) := by decide +kernel
theorem dX2_look_19 : decode cX2_look 19 = .ok (.invokevirtual 219, 3) := by decide +kernel
theorem dX2_look_22 : decode cX2_look 22 = .ok (.istore_n 3, 1) := by decide +kernel
theorem dX2_look_23 : decode cX2_look 23 = .ok (.iload_n 3, 1) := by decide +kernel
theorem dX2_look_24 : decode cX2_look 24 = .ok (.ifCond .eq 5, 3) := by decide +kernel
theorem dX2_look_27 : decode cX2_look 27 = .ok (.iload_n 3, 1) := by decide +kernel
theorem dX2_look_28 : decode cX2_look 28 = .ok (.ireturn, 1) := by decide +kernel
theorem dX2_look_29 : decode cX2_look 29 = .ok (.aload_n 0, 1) := by decide +kernel
theorem dX2_look_30 : decode cX2_look 30 = .ok (.iload_n 1, 1) := by decide +kernel
theorem dX2_look_31 : decode cX2_look 31 = .ok (.iload_n 2, 1) := by decide +kernel
theorem dX2_look_32 : decode cX2_look 32 = .ok (.invokevirtual 222, 3) := by decide +kernel
theorem dX2_look_35 : decode cX2_look 35 = .ok (.istore 4, 2) := by decide +kernel
theorem dX2_look_37 : decode cX2_look 37 = .ok (.iload 4, 2) := by decide +kernel
theorem dX2_look_39 : decode cX2_look 39 = .ok (.ifCond .ne 6, 3) := by decide +kernel
theorem dX2_look_42 : decode cX2_look 42 = .ok (.bipush (-9), 2) := by decide +kernel
theorem dX2_look_44 : decode cX2_look 44 = .ok (.ireturn, 1) := by decide +kernel
theorem dX2_look_45 : decode cX2_look 45 = .ok (.aload_n 0, 1) := by decide +kernel
theorem dX2_look_46 : decode cX2_look 46 = .ok (.iload_n 1, 1) := by decide +kernel
theorem dX2_look_47 : decode cX2_look 47 = .ok (.iload 4, 2) := by decide +kernel
theorem dX2_look_49 : decode cX2_look 49 = .ok (.invokevirtual 225, 3) := by decide +kernel
theorem dX2_look_52 : decode cX2_look 52 = .ok (.bipush (-9), 2) := by decide +kernel
theorem dX2_look_54 : decode cX2_look 54 = .ok (.istore 5, 2) := by decide +kernel
theorem dX2_look_56 : decode cX2_look 56 = .ok (.ldc 210, 2) := by decide +kernel
theorem dX2_look_58 : decode cX2_look 58 = .ok (.istore 6, 2) := by decide +kernel
theorem dX2_look_60 : decode cX2_look 60 = .ok (.iconst 1, 1) := by decide +kernel
theorem dX2_look_61 : decode cX2_look 61 = .ok (.istore 7, 2) := by decide +kernel
theorem dX2_look_63 : decode cX2_look 63 = .ok (.iload 7, 2) := by decide +kernel
theorem dX2_look_65 : decode cX2_look 65 = .ok (.bipush 21, 2) := by decide +kernel
theorem dX2_look_67 : decode cX2_look 67 = .ok (.if_icmp .ge 49, 3) := by decide +kernel
theorem dX2_look_70 : decode cX2_look 70 = .ok (.aload_n 0, 1) := by decide +kernel
theorem dX2_look_71 : decode cX2_look 71 = .ok (.iload 7, 2) := by decide +kernel
theorem dX2_look_73 : decode cX2_look 73 = .ok (.invokevirtual 228, 3) := by decide +kernel
theorem dX2_look_76 : decode cX2_look 76 = .ok (.istore 8, 2) := by decide +kernel
theorem dX2_look_78 : decode cX2_look 78 = .ok (.iload 8, 2) := by decide +kernel
theorem dX2_look_80 : decode cX2_look 80 = .ok (.iload 6, 2) := by decide +kernel
theorem dX2_look_82 : decode cX2_look 82 = .ok (.if_icmp .ge 8, 3) := by decide +kernel
theorem dX2_look_85 : decode cX2_look 85 = .ok (.iload 7, 2) := by decide +kernel
theorem dX2_look_87 : decode cX2_look 87 = .ok (.goto 5, 3) := by decide +kernel
theorem dX2_look_90 : decode cX2_look 90 = .ok (.iload 5, 2) := by decide +kernel
theorem dX2_look_92 : decode cX2_look 92 = .ok (.istore 5, 2) := by decide +kernel
theorem dX2_look_94 : decode cX2_look 94 = .ok (.iload 8, 2) := by decide +kernel
theorem dX2_look_96 : decode cX2_look 96 = .ok (.iload 6, 2) := by decide +kernel
theorem dX2_look_98 : decode cX2_look 98 = .ok (.if_icmp .ge 8, 3) := by decide +kernel
theorem dX2_look_101 : decode cX2_look 101 = .ok (.iload 8, 2) := by decide +kernel
theorem dX2_look_103 : decode cX2_look 103 = .ok (.goto 5, 3) := by decide +kernel
theorem dX2_look_106 : decode cX2_look 106 = .ok (.iload 6, 2) := by decide +kernel
theorem dX2_look_108 : decode cX2_look 108 = .ok (.istore 6, 2) := by decide +kernel
theorem dX2_look_110 : decode cX2_look 110 = .ok (.iinc 7 1, 3) := by decide +kernel
theorem dX2_look_113 : decode cX2_look 113 = .ok (.goto (-50), 3) := by decide +kernel
theorem dX2_look_116 : decode cX2_look 116 = .ok (.aload_n 0, 1) := by decide +kernel
theorem dX2_look_117 : decode cX2_look 117 = .ok (.iload 6, 2) := by decide +kernel
theorem dX2_look_119 : decode cX2_look 119 = .ok (.putfield 54, 3) := by decide +kernel
theorem dX2_look_122 : decode cX2_look 122 = .ok (.iload 5, 2) := by decide +kernel
theorem dX2_look_124 : decode cX2_look 124 = .ok (.ireturn, 1) := by decide +kernel
theorem dX2_daringOf_0 : decode cX2_daringOf 0 = .ok (.iconst 0, 1) := by decide +kernel
theorem dX2_daringOf_1 : decode cX2_daringOf 1 = .ok (.istore_n 2, 1) := by decide +kernel
theorem dX2_daringOf_2 : decode cX2_daringOf 2 = .ok (.iconst 0, 1) := by decide +kernel
theorem dX2_daringOf_3 : decode cX2_daringOf 3 = .ok (.istore_n 3, 1) := by decide +kernel
theorem dX2_daringOf_4 : decode cX2_daringOf 4 = .ok (.iload_n 3, 1) := by decide +kernel
theorem dX2_daringOf_5 : decode cX2_daringOf 5 = .ok (.aload_n 0, 1) := by decide +kernel
theorem dX2_daringOf_6 : decode cX2_daringOf 6 = .ok (.getfield 136, 3) := by decide +kernel
theorem dX2_daringOf_9 : decode cX2_daringOf 9 = .ok (.if_icmp .ge 33, 3) := by decide +kernel
theorem dX2_daringOf_12 : decode cX2_daringOf 12 = .ok (.iload_n 2, 1) := by decide +kernel
theorem dX2_daringOf_13 : decode cX2_daringOf 13 = .ok (.iload_n 1, 1) := by decide +kernel
theorem dX2_daringOf_14 : decode cX2_daringOf 14 = .ok (.iload_n 3, 1) := by decide +kernel
theorem dX2_daringOf_15 : decode cX2_daringOf 15 = .ok (.invokestatic 149, 3) := by decide +kernel
theorem dX2_daringOf_18 : decode cX2_daringOf 18 = .ok (.ifCond .eq 15, 3) := by decide +kernel
theorem dX2_daringOf_21 : decode cX2_daringOf 21 = .ok (.aload_n 0, 1) := by decide +kernel
theorem dX2_daringOf_22 : decode cX2_daringOf 22 = .ok (.getfield 7, 3) := by decide +kernel
theorem dX2_daringOf_25 : decode cX2_daringOf 25 = .ok (.bipush 9, 2) := by decide +kernel
theorem dX2_daringOf_27 : decode cX2_daringOf 27 = .ok (.iload_n 3, 1) := by decide +kernel
theorem dX2_daringOf_28 : decode cX2_daringOf 28 = .ok (.iadd, 1) := by decide +kernel
theorem dX2_daringOf_29 : decode cX2_daringOf 29 = .ok (.iaload, 1) := by decide +kernel
theorem dX2_daringOf_30 : decode cX2_daringOf 30 = .ok (.goto 4, 3) := by decide +kernel
theorem dX2_daringOf_33 : decode cX2_daringOf 33 = .ok (.iconst 0, 1) := by decide +kernel
theorem dX2_daringOf_34 : decode cX2_daringOf 34 = .ok (.iadd, 1) := by decide +kernel
theorem dX2_daringOf_35 : decode cX2_daringOf 35 = .ok (.istore_n 2, 1) := by decide +kernel
theorem dX2_daringOf_36 : decode cX2_daringOf 36 = .ok (.iinc 3 1, 3) := by decide +kernel
theorem dX2_daringOf_39 : decode cX2_daringOf 39 = .ok (.goto (-35), 3) := by decide +kernel
theorem dX2_daringOf_42 : decode cX2_daringOf 42 = .ok (.iload_n 2, 1) := by decide +kernel
theorem dX2_daringOf_43 : decode cX2_daringOf 43 = .ok (.ireturn, 1) := by decide +kernel
theorem dX2_noSets_0 : decode cX2_noSets 0 = .ok (.iload_n 1, 1) := by decide +kernel
theorem dX2_noSets_1 : decode cX2_noSets 1 = .ok (.i2l, 1) := by decide +kernel
theorem dX2_noSets_2 : decode cX2_noSets 2 = .ok (.lconst 0, 1) := by decide +kernel
theorem dX2_noSets_3 : decode cX2_noSets 3 = .ok (.ldc2_w 231, 3) := by decide +kernel
theorem dX2_noSets_6 : decode cX2_noSets 6 = .ok (.invokestatic 59, 3) := by decide +kernel
theorem dX2_noSets_9 : decode cX2_noSets 9 = .ok (.ifCond .ne 7, 3) := by decide +kernel
theorem dX2_noSets_12 : decode cX2_noSets 12 = .ok (.iconst (-1), 1) := by decide +kernel
theorem dX2_noSets_13 : decode cX2_noSets 13 = .ok (.goto 16, 3) := by decide +kernel
theorem dX2_noSets_16 : decode cX2_noSets 16 = .ok (.aload_n 0, 1) := by decide +kernel
theorem dX2_noSets_17 : decode cX2_noSets 17 = .ok (.getfield 136, 3) := by decide +kernel
theorem dX2_noSets_20 : decode cX2_noSets 20 = .ok (.ifCond .ne 8, 3) := by decide +kernel
theorem dX2_noSets_23 : decode cX2_noSets 23 = .ok (.bipush (-4), 2) := by decide +kernel
theorem dX2_noSets_25 : decode cX2_noSets 25 = .ok (.goto 4, 3) := by decide +kernel
theorem dX2_noSets_28 : decode cX2_noSets 28 = .ok (.iconst 0, 1) := by decide +kernel
theorem dX2_noSets_29 : decode cX2_noSets 29 = .ok (.ireturn, 1) := by decide +kernel
theorem k_X2_214 : Cond.constantLong RX2 214 (Int64.ofInt 10) ∈ gd_tbl := in_gd (i := 938) (by decide +kernel) rfl
theorem mt_X2_isSo : (Cond.instanceMethod yX2_isSo ∈ gd_tbl ∧ Cond.selects yX2_isSo.cls yX2_isSo yX2_isSo ∈ gd_tbl) ∧ Cond.initialized yX2_isSo.cls ∈ gd_tbl ∧ Cond.code yX2_isSo cX2_isSo 4 (some .boolean) ∈ gd_tbl := ⟨⟨in_gd (i := 945) (by decide +kernel) rfl, in_gd (i := 68) (by decide +kernel) rfl⟩, in_gd (i := 87) (by decide +kernel) rfl, in_gd (i := 946) (by decide +kernel) rfl⟩
theorem yo_X2_isSo : yOk yX2_isSo 1 := ⟨by decide, by decide, by decide +kernel⟩
theorem l_X2_216 : mlV RX2 216 yX2_isSo cX2_isSo 4 (some .boolean) := ⟨in_gd (i := 943) (by decide +kernel) rfl, mt_X2_isSo⟩
theorem mt_X2_noRow : (Cond.instanceMethod yX2_noRow ∈ gd_tbl ∧ Cond.selects yX2_noRow.cls yX2_noRow yX2_noRow ∈ gd_tbl) ∧ Cond.initialized yX2_noRow.cls ∈ gd_tbl ∧ Cond.code yX2_noRow cX2_noRow 4 (some .int) ∈ gd_tbl := ⟨⟨in_gd (i := 936) (by decide +kernel) rfl, in_gd (i := 66) (by decide +kernel) rfl⟩, in_gd (i := 87) (by decide +kernel) rfl, in_gd (i := 937) (by decide +kernel) rfl⟩
theorem yo_X2_noRow : yOk yX2_noRow 1 := ⟨by decide, by decide, by decide +kernel⟩
theorem l_X2_219 : mlV RX2 219 yX2_noRow cX2_noRow 4 (some .int) := ⟨in_gd (i := 934) (by decide +kernel) rfl, mt_X2_noRow⟩
theorem mt_X2_daringsBy : (Cond.instanceMethod yX2_daringsBy ∈ gd_tbl ∧ Cond.selects yX2_daringsBy.cls yX2_daringsBy yX2_daringsBy ∈ gd_tbl) ∧ Cond.initialized yX2_daringsBy.cls ∈ gd_tbl ∧ Cond.code yX2_daringsBy cX2_daringsBy 5 (some .int) ∈ gd_tbl := ⟨⟨in_gd (i := 941) (by decide +kernel) rfl, in_gd (i := 67) (by decide +kernel) rfl⟩, in_gd (i := 87) (by decide +kernel) rfl, in_gd (i := 942) (by decide +kernel) rfl⟩
theorem yo_X2_daringsBy : yOk yX2_daringsBy 2 := ⟨by decide, by decide, by decide +kernel⟩
theorem l_X2_222 : mlV RX2 222 yX2_daringsBy cX2_daringsBy 5 (some .int) := ⟨in_gd (i := 939) (by decide +kernel) rfl, mt_X2_daringsBy⟩
theorem fl_X2_44 : FLk RX2 44 2 20 := Or.inl (in_gd (i := 633) (by decide +kernel) rfl)
theorem mt_X2_layParts : (Cond.instanceMethod yX2_layParts ∈ gd_tbl ∧ Cond.selects yX2_layParts.cls yX2_layParts yX2_layParts ∈ gd_tbl) ∧ Cond.initialized yX2_layParts.cls ∈ gd_tbl ∧ Cond.code yX2_layParts cX2_layParts 6 (none) ∈ gd_tbl := ⟨⟨in_gd (i := 957) (by decide +kernel) rfl, in_gd (i := 69) (by decide +kernel) rfl⟩, in_gd (i := 87) (by decide +kernel) rfl, in_gd (i := 958) (by decide +kernel) rfl⟩
theorem yo_X2_layParts : yOk yX2_layParts 2 := ⟨by decide, by decide, by decide +kernel⟩
theorem l_X2_225 : mlV RX2 225 yX2_layParts cX2_layParts 6 (none) := ⟨in_gd (i := 955) (by decide +kernel) rfl, mt_X2_layParts⟩
theorem mt_X2_greatestPart : (Cond.instanceMethod yX2_greatestPart ∈ gd_tbl ∧ Cond.selects yX2_greatestPart.cls yX2_greatestPart yX2_greatestPart ∈ gd_tbl) ∧ Cond.initialized yX2_greatestPart.cls ∈ gd_tbl ∧ Cond.code yX2_greatestPart cX2_greatestPart 4 (some .int) ∈ gd_tbl := ⟨⟨in_gd (i := 961) (by decide +kernel) rfl, in_gd (i := 70) (by decide +kernel) rfl⟩, in_gd (i := 87) (by decide +kernel) rfl, in_gd (i := 962) (by decide +kernel) rfl⟩
theorem yo_X2_greatestPart : yOk yX2_greatestPart 1 := ⟨by decide, by decide, by decide +kernel⟩
theorem l_X2_228 : mlV RX2 228 yX2_greatestPart cX2_greatestPart 4 (some .int) := ⟨in_gd (i := 959) (by decide +kernel) rfl, mt_X2_greatestPart⟩
theorem k_X2_231 : Cond.constantLong RX2 231 (Int64.ofInt 120) ∈ gd_tbl := in_gd (i := 971) (by decide +kernel) rfl
def fX2_noRow_L42 (p1 : Int) (μ : Mem) (K3 : Int → Option (Int × Mem)) : Nat → Int → Int → Option (Int × Mem)
  | 0, _, _ => none
  | n9 + 1, x7, x8 =>
    grd (0 ≤ p1 ∧ p1 < 6) <|
    if (μ 63 (p1).toNat) ≤ x8 then
      K3 x7
    else
      mlet (fun (x10 : Int) =>
        mlet (w32 (x8 + 1)) fun x12 =>
        fX2_noRow_L42 p1 μ K3 n9 x10 x12
        ) fun (K11 : Int → Option (Int × Mem)) =>
      mlet (
        K11 0
        : Option (Int × Mem)) fun (K13 : Option (Int × Mem)) =>
      if x7 = 0 then
        K13
      else
        grd (0 ≤ (w32 ((w32 (40 * p1)) + x8)) ∧ (w32 ((w32 (40 * p1)) + x8)) < 240) <|
        (fX2_isOne (μ 64 ((w32 ((w32 (40 * p1)) + x8))).toNat) μ).bind fun x14 =>
        if x14 = 0 then
          K13
        else
          K11 1
def fX2_noRow (p1 : Int) (μ : Mem) : Option (Int × Mem) :=
  grd (0 ≤ p1 ∧ p1 < 6) <|
  if 0 ≤ (μ 63 (p1).toNat) then
    grd (0 ≤ p1 ∧ p1 < 6) <|
    (fX2_in (μ 63 (p1).toNat) 1 10 μ).bind fun x1 =>
    if ¬ x1 = 0 then
      mlet (fun (x2 : Int) =>
        if x2 = 0 then
          bnd2 (fX2_find 3 μ) fun x4 μ5 =>
          some (x4, μ5)
        else
          some (0, μ)
        ) fun (K3 : Int → Option (Int × Mem)) =>
      fX2_noRow_L42 p1 μ K3 fuel 1 0
    else
      bnd2 (fX2_find 5 μ) fun x18 μ19 =>
      some (x18, μ19)
  else
    bnd2 (fX2_find 1 μ) fun x21 μ22 =>
    some (x21, μ22)
theorem K_X2_noRow  (p1 : Int)  (μ : Mem) : Con yX2_noRow cX2_noRow 4 (some .int) 4 [.inr (.inr 60), .inl p1] μ (fX2_noRow p1 μ) wI := by
  refine con_of (own := RX2) (by decide) rfl (Nat.le_of_ble_eq_true rfl) ?_
  show Sim cX2_noRow 4 RX2 (4) (some .int) wI 0 [(0, .inr (.inr 60)), (1, .inl p1)] [] μ (fX2_noRow p1 μ)
  unfold fX2_noRow
  refine S_aload_n dX2_noRow_0 rfl ?_
  refine S_getR (c1 := 63) dX2_noRow_1 rfl fl_X2_16 rfl rfl rfl ?_
  refine S_iload_n dX2_noRow_4 rfl ?_
  refine S_iald (N := 6) dX2_noRow_5 rfl (by decide) rfl ?_
  refine S_if_ge (tgt := 15) dX2_noRow_6 (by decide) (fun h23 => ?_) (fun h23 => ?_)
  · refine S_aload_n dX2_noRow_15 rfl ?_
    refine S_getR (c1 := 63) dX2_noRow_16 rfl fl_X2_16 rfl rfl rfl ?_
    refine S_iload_n dX2_noRow_19 rfl ?_
    refine S_iald (N := 6) dX2_noRow_20 rfl (by decide) rfl ?_
    refine S_i2l dX2_noRow_21 ?_
    refine S_lconst (n := 1) dX2_noRow_22 (by decide) rfl ?_
    refine S_ldc2 dX2_noRow_23 rfl k_X2_214 ?_
    refine S_callS_I dX2_noRow_26 [.inr (.inl (μ 63 (p1).toNat)), .inr (.inl 1), .inr (.inl 10)] (K_X2_in (μ 63 (p1).toNat) 1 10 μ) l_X2_59 yo_X2_in rfl rfl rfl (fun x1 => ?_)
    refine S_if_ne (tgt := 38) dX2_noRow_29 (by decide) (fun h20 => ?_) (fun h20 => ?_)
    · refine S_iconst dX2_noRow_38 rfl ?_
      refine S_istore_n (lv' := [(2, .inl 1), (0, .inr (.inr 60)), (1, .inl p1)]) dX2_noRow_39 rfl rfl ?_
      refine S_iconst dX2_noRow_40 rfl ?_
      refine S_istore_n (lv' := [(3, .inl 0), (2, .inl 1), (0, .inr (.inr 60)), (1, .inl p1)]) dX2_noRow_41 rfl rfl ?_
      refine S_jn (fun (K3 : Int → Option (Int × Mem)) => ∀ (x2 : Int), Sim cX2_noRow 4 RX2 (4) (some .int) wI 86 [(0, .inr (.inr 60)), (2, .inl x2)] [] μ (K3 x2)) ?_ (fun K3 hK3 => ?_)
      · intro x2
        refine S_iload_n dX2_noRow_86 rfl ?_
        refine S_if_eq (tgt := 94) dX2_noRow_87 (by decide) (fun h6 => ?_) (fun h6 => ?_)
        · refine S_aload_n dX2_noRow_94 rfl ?_
          refine S_iconst dX2_noRow_95 rfl ?_
          refine S_callV_M2 dX2_noRow_96 [.inl 3] (K_X2_find 3 μ) l_X2_69 yo_X2_find rfl rfl rfl rfl rfl (fun x4 μ5 => ?_)
          exact S_iret dX2_noRow_99 rfl rfl
        · refine S_iconst dX2_noRow_90 rfl ?_
          refine S_goto (tgt := 99) dX2_noRow_91 (by decide) ?_
          exact S_iret dX2_noRow_99 rfl rfl
      have hL42 : ∀ (n9 : Nat) (x7 : Int) (x8 : Int), Sim cX2_noRow 4 RX2 (4) (some .int) wI 42 [(0, .inr (.inr 60)), (1, .inl p1), (2, .inl x7), (3, .inl x8)] [] μ (fX2_noRow_L42 p1 μ K3 n9 x7 x8) := by
        intro n9
        induction n9 with
        | zero =>
          intro x7 x8
          exact S_none rfl
        | succ n9 ih =>
          intro x7 x8
          rw [fX2_noRow_L42]
          refine S_iload_n dX2_noRow_42 rfl ?_
          refine S_aload_n dX2_noRow_43 rfl ?_
          refine S_getR (c1 := 63) dX2_noRow_44 rfl fl_X2_16 rfl rfl rfl ?_
          refine S_iload_n dX2_noRow_47 rfl ?_
          refine S_iald (N := 6) dX2_noRow_48 rfl (by decide) rfl ?_
          refine S_ic_ge (tgt := 86) dX2_noRow_49 (by decide) (fun h17 => ?_) (fun h17 => ?_)
          · exact S_sub [0, 2] rfl (hK3 x7)
          · refine S_iload_n dX2_noRow_52 rfl ?_
            refine S_jn (fun (K11 : Int → Option (Int × Mem)) => ∀ (x10 : Int), Sim cX2_noRow 4 RX2 (4) (some .int) wI 79 [(0, .inr (.inr 60)), (1, .inl p1), (3, .inl x8)] [.inl x10] μ (K11 x10)) ?_ (fun K11 hK11 => ?_)
            · intro x10
              refine S_istore_n (lv' := [(2, .inl x10), (0, .inr (.inr 60)), (1, .inl p1), (3, .inl x8)]) dX2_noRow_79 rfl rfl ?_
              refine S_iinc (lv' := fun x12 => [(3, .inl x12), (2, .inl x10), (0, .inr (.inr 60)), (1, .inl p1)]) dX2_noRow_80 rfl rfl rfl (fun _ => rfl) (fun x12 => ?_)
              refine S_goto (tgt := 42) dX2_noRow_83 (by decide) ?_
              exact S_sub [2, 3, 1, 0] rfl (ih x10 x12)
            refine S_jn (fun (K13 : Option (Int × Mem)) => Sim cX2_noRow 4 RX2 (4) (some .int) wI 78 [(0, .inr (.inr 60)), (1, .inl p1), (3, .inl x8)] [] μ K13) ?_ (fun K13 hK13 => ?_)
            · skip
              refine S_iconst dX2_noRow_78 rfl ?_
              exact S_sub [0, 1, 2] rfl (hK11 0)
            refine S_if_eq (tgt := 78) dX2_noRow_53 (by decide) (fun h16 => ?_) (fun h16 => ?_)
            · exact S_sub [0, 1, 3] rfl (hK13)
            · refine S_aload_n dX2_noRow_56 rfl ?_
              refine S_aload_n dX2_noRow_57 rfl ?_
              refine S_getR (c1 := 64) dX2_noRow_58 rfl fl_X2_19 rfl rfl rfl ?_
              refine S_bipush dX2_noRow_61 rfl (by decide) ?_
              refine S_iload_n dX2_noRow_63 rfl ?_
              refine S_imul dX2_noRow_64 ?_
              refine S_iload_n dX2_noRow_65 rfl ?_
              refine S_iadd dX2_noRow_66 ?_
              refine S_iald (N := 240) dX2_noRow_67 rfl (by decide) rfl ?_
              refine S_callV_I dX2_noRow_68 [.inl (μ 64 ((w32 ((w32 (40 * p1)) + x8))).toNat)] (K_X2_isOne (μ 64 ((w32 ((w32 (40 * p1)) + x8))).toNat) μ) l_X2_162 yo_X2_isOne rfl rfl rfl rfl rfl (fun x14 => ?_)
              refine S_if_eq (tgt := 78) dX2_noRow_71 (by decide) (fun h15 => ?_) (fun h15 => ?_)
              · exact S_sub [0, 1, 3] rfl (hK13)
              · refine S_iconst dX2_noRow_74 rfl ?_
                refine S_goto (tgt := 79) dX2_noRow_75 (by decide) ?_
                exact S_sub [0, 1, 3] rfl (hK11 1)
      exact S_sub [2, 3, 1, 0] rfl (hL42 fuel 1 0)
    · refine S_aload_n dX2_noRow_32 rfl ?_
      refine S_iconst dX2_noRow_33 rfl ?_
      refine S_callV_M2 dX2_noRow_34 [.inl 5] (K_X2_find 5 μ) l_X2_69 yo_X2_find rfl rfl rfl rfl rfl (fun x18 μ19 => ?_)
      exact S_iret dX2_noRow_37 rfl rfl
  · refine S_aload_n dX2_noRow_9 rfl ?_
    refine S_iconst dX2_noRow_10 rfl ?_
    refine S_callV_M2 dX2_noRow_11 [.inl 1] (K_X2_find 1 μ) l_X2_69 yo_X2_find rfl rfl rfl rfl rfl (fun x21 μ22 => ?_)
    exact S_iret dX2_noRow_14 rfl rfl
def fX2_isSo_L4 (p1 : Int) : Nat → Int → Int → Mem → Option (Int × Mem)
  | 0, _, _, _ => none
  | n4 + 1, x1, x2, μ3 =>
    grd (0 ≤ p1 ∧ p1 < 6) <|
    if (μ3 63 (p1).toNat) ≤ x2 then
      grd (x1 = 0 ∨ x1 = 1) <|
      some (x1, μ3)
    else
      mlet (fun (x5 : Int) (μ6 : Mem) =>
        mlet (w32 (x2 + 1)) fun x8 =>
        fX2_isSo_L4 p1 n4 x5 x8 μ6
        ) fun (K7 : Int → Mem → Option (Int × Mem)) =>
      mlet (fun (μ9 : Mem) =>
        K7 0 μ9
        ) fun (K10 : Mem → Option (Int × Mem)) =>
      if x1 = 0 then
        K10 μ3
      else
        bnd2 (fX2_passes 3284 μ3) fun x11 μ12 =>
        grd (0 ≤ (w32 ((w32 (40 * p1)) + x2)) ∧ (w32 ((w32 (40 * p1)) + x2)) < 240) <|
        if ¬ x11 = (μ12 64 ((w32 ((w32 (40 * p1)) + x2))).toNat) then
          K10 μ12
        else
          K7 1 μ12
def fX2_isSo (p1 : Int) (μ : Mem) : Option (Int × Mem) :=
  fX2_isSo_L4 p1 fuel 1 0 μ
theorem K_X2_isSo  (p1 : Int)  (μ : Mem) : Con yX2_isSo cX2_isSo 4 (some .boolean) 7 [.inr (.inr 60), .inl p1] μ (fX2_isSo p1 μ) wI := by
  refine con_of (own := RX2) (by decide) rfl (Nat.le_of_ble_eq_true rfl) ?_
  show Sim cX2_isSo 4 RX2 (7) (some .boolean) wI 0 [(0, .inr (.inr 60)), (1, .inl p1)] [] μ (fX2_isSo p1 μ)
  unfold fX2_isSo
  refine S_iconst dX2_isSo_0 rfl ?_
  refine S_istore_n (lv' := [(2, .inl 1), (0, .inr (.inr 60)), (1, .inl p1)]) dX2_isSo_1 rfl rfl ?_
  refine S_iconst dX2_isSo_2 rfl ?_
  refine S_istore_n (lv' := [(3, .inl 0), (2, .inl 1), (0, .inr (.inr 60)), (1, .inl p1)]) dX2_isSo_3 rfl rfl ?_
  have hL4 : ∀ (n4 : Nat) (x1 : Int) (x2 : Int) (μ3 : Mem), Sim cX2_isSo 4 RX2 (7) (some .boolean) wI 4 [(0, .inr (.inr 60)), (1, .inl p1), (2, .inl x1), (3, .inl x2)] [] μ3 (fX2_isSo_L4 p1 n4 x1 x2 μ3) := by
    intro n4
    induction n4 with
    | zero =>
      intro x1 x2 μ3
      exact S_none rfl
    | succ n4 ih =>
      intro x1 x2 μ3
      rw [fX2_isSo_L4]
      refine S_iload_n dX2_isSo_4 rfl ?_
      refine S_aload_n dX2_isSo_5 rfl ?_
      refine S_getR (c1 := 63) dX2_isSo_6 rfl fl_X2_16 rfl rfl rfl ?_
      refine S_iload_n dX2_isSo_9 rfl ?_
      refine S_iald (N := 6) dX2_isSo_10 rfl (by decide) rfl ?_
      refine S_ic_ge (tgt := 51) dX2_isSo_11 (by decide) (fun h15 => ?_) (fun h15 => ?_)
      · refine S_iload_n dX2_isSo_51 rfl ?_
        refine S_g (fun hz => ?_)
        exact S_zret dX2_isSo_52 rfl hz rfl
      · refine S_iload_n dX2_isSo_14 rfl ?_
        refine S_jn (fun (K7 : Int → Mem → Option (Int × Mem)) => ∀ (x5 : Int) (μ6 : Mem), Sim cX2_isSo 4 RX2 (7) (some .boolean) wI 44 [(0, .inr (.inr 60)), (1, .inl p1), (3, .inl x2)] [.inl x5] μ6 (K7 x5 μ6)) ?_ (fun K7 hK7 => ?_)
        · intro x5 μ6
          refine S_istore_n (lv' := [(2, .inl x5), (0, .inr (.inr 60)), (1, .inl p1), (3, .inl x2)]) dX2_isSo_44 rfl rfl ?_
          refine S_iinc (lv' := fun x8 => [(3, .inl x8), (2, .inl x5), (0, .inr (.inr 60)), (1, .inl p1)]) dX2_isSo_45 rfl rfl rfl (fun _ => rfl) (fun x8 => ?_)
          refine S_goto (tgt := 4) dX2_isSo_48 (by decide) ?_
          exact S_sub [2, 3, 1, 0] rfl (ih x5 x8 μ6)
        refine S_jn (fun (K10 : Mem → Option (Int × Mem)) => ∀ (μ9 : Mem), Sim cX2_isSo 4 RX2 (7) (some .boolean) wI 43 [(0, .inr (.inr 60)), (1, .inl p1), (3, .inl x2)] [] μ9 (K10 μ9)) ?_ (fun K10 hK10 => ?_)
        · intro μ9
          refine S_iconst dX2_isSo_43 rfl ?_
          exact S_sub [0, 1, 2] rfl (hK7 0 μ9)
        refine S_if_eq (tgt := 43) dX2_isSo_15 (by decide) (fun h14 => ?_) (fun h14 => ?_)
        · exact S_sub [0, 1, 3] rfl (hK10 μ3)
        · refine S_aload_n dX2_isSo_18 rfl ?_
          refine S_sipush dX2_isSo_19 rfl (by decide) ?_
          refine S_callV_M2 dX2_isSo_22 [.inl 3284] (K_X2_passes 3284 μ3) l_X2_177 yo_X2_passes rfl rfl rfl rfl rfl (fun x11 μ12 => ?_)
          refine S_aload_n dX2_isSo_25 rfl ?_
          refine S_getR (c1 := 64) dX2_isSo_26 rfl fl_X2_19 rfl rfl rfl ?_
          refine S_bipush dX2_isSo_29 rfl (by decide) ?_
          refine S_iload_n dX2_isSo_31 rfl ?_
          refine S_imul dX2_isSo_32 ?_
          refine S_iload_n dX2_isSo_33 rfl ?_
          refine S_iadd dX2_isSo_34 ?_
          refine S_iald (N := 240) dX2_isSo_35 rfl (by decide) rfl ?_
          refine S_ic_ne (tgt := 43) dX2_isSo_36 (by decide) (fun h13 => ?_) (fun h13 => ?_)
          · exact S_sub [0, 1, 3] rfl (hK10 μ12)
          · refine S_iconst dX2_isSo_39 rfl ?_
            refine S_goto (tgt := 44) dX2_isSo_40 (by decide) ?_
            exact S_sub [0, 1, 3] rfl (hK7 1 μ12)
  exact S_sub [2, 3, 1, 0] rfl (hL4 fuel 1 0 μ)
def fX2_daringsBy_L5 (p1 : Int) (p2 : Int) : Nat → Int → Int → Mem → Option (Int × Mem)
  | 0, _, _, _ => none
  | n4 + 1, x1, x2, μ3 =>
    if 21 ≤ x2 then
      some (x1, μ3)
    else
      (fX2_layTried μ3).bind fun μ5 =>
      grd (0 ≤ (w32 (3293 + p1)) ∧ (w32 (3293 + p1)) < 3305) <|
      mlet (wr μ5 61 ((w32 (3293 + p1))).toNat x2) fun μ6 =>
      bnd2 (fX2_isSo p2 μ6) fun x7 μ8 =>
      mlet (fun (x9 : Int) =>
        mlet ((bor x1 x9)) fun x11 =>
        mlet (w32 (x2 + 1)) fun x12 =>
        fX2_daringsBy_L5 p1 p2 n4 x11 x12 μ8
        ) fun (K10 : Int → Option (Int × Mem)) =>
      if x7 = 0 then
        K10 0
      else
        K10 (bshl 1 x2)
def fX2_daringsBy (p1 : Int) (p2 : Int) (μ : Mem) : Option (Int × Mem) :=
  fX2_daringsBy_L5 p1 p2 fuel 0 0 μ
theorem K_X2_daringsBy  (p1 : Int) (p2 : Int)  (μ : Mem) : Con yX2_daringsBy cX2_daringsBy 5 (some .int) 8 [.inr (.inr 60), .inl p1, .inl p2] μ (fX2_daringsBy p1 p2 μ) wI := by
  refine con_of (own := RX2) (by decide) rfl (Nat.le_of_ble_eq_true rfl) ?_
  show Sim cX2_daringsBy 5 RX2 (8) (some .int) wI 0 [(0, .inr (.inr 60)), (1, .inl p1), (2, .inl p2)] [] μ (fX2_daringsBy p1 p2 μ)
  unfold fX2_daringsBy
  refine S_iconst dX2_daringsBy_0 rfl ?_
  refine S_istore_n (lv' := [(3, .inl 0), (0, .inr (.inr 60)), (1, .inl p1), (2, .inl p2)]) dX2_daringsBy_1 rfl rfl ?_
  refine S_iconst dX2_daringsBy_2 rfl ?_
  refine S_istore (lv' := [(4, .inl 0), (3, .inl 0), (0, .inr (.inr 60)), (1, .inl p1), (2, .inl p2)]) dX2_daringsBy_3 rfl rfl ?_
  have hL5 : ∀ (n4 : Nat) (x1 : Int) (x2 : Int) (μ3 : Mem), Sim cX2_daringsBy 5 RX2 (8) (some .int) wI 5 [(0, .inr (.inr 60)), (1, .inl p1), (2, .inl p2), (3, .inl x1), (4, .inl x2)] [] μ3 (fX2_daringsBy_L5 p1 p2 n4 x1 x2 μ3) := by
    intro n4
    induction n4 with
    | zero =>
      intro x1 x2 μ3
      exact S_none rfl
    | succ n4 ih =>
      intro x1 x2 μ3
      rw [fX2_daringsBy_L5]
      refine S_iload dX2_daringsBy_5 rfl ?_
      refine S_bipush dX2_daringsBy_7 rfl (by decide) ?_
      refine S_ic_ge (tgt := 53) dX2_daringsBy_9 (by decide) (fun h14 => ?_) (fun h14 => ?_)
      · refine S_iload_n dX2_daringsBy_53 rfl ?_
        exact S_iret dX2_daringsBy_54 rfl rfl
      · refine S_aload_n dX2_daringsBy_12 rfl ?_
        refine S_callV_V dX2_daringsBy_13 [] (K_X2_layTried μ3) l_X2_196 yo_X2_layTried rfl rfl rfl rfl rfl (fun μ5 => ?_)
        refine S_aload_n dX2_daringsBy_16 rfl ?_
        refine S_getR (c1 := 61) dX2_daringsBy_17 rfl fl_X2_7 rfl rfl rfl ?_
        refine S_sipush dX2_daringsBy_20 rfl (by decide) ?_
        refine S_iload_n dX2_daringsBy_23 rfl ?_
        refine S_iadd dX2_daringsBy_24 ?_
        refine S_iload dX2_daringsBy_25 rfl ?_
        refine S_iast (N := 3305) dX2_daringsBy_27 rfl (by decide) rfl (fun μ6 => ?_)
        refine S_iload_n dX2_daringsBy_28 rfl ?_
        refine S_aload_n dX2_daringsBy_29 rfl ?_
        refine S_iload_n dX2_daringsBy_30 rfl ?_
        refine S_callV_M2 dX2_daringsBy_31 [.inl p2] (K_X2_isSo p2 μ6) l_X2_216 yo_X2_isSo rfl rfl rfl rfl rfl (fun x7 μ8 => ?_)
        refine S_jn (fun (K10 : Int → Option (Int × Mem)) => ∀ (x9 : Int), Sim cX2_daringsBy 5 RX2 (8) (some .int) wI 45 [(0, .inr (.inr 60)), (1, .inl p1), (2, .inl p2), (4, .inl x2)] [.inl x9, .inl x1] μ8 (K10 x9)) ?_ (fun K10 hK10 => ?_)
        · intro x9
          refine S_ior dX2_daringsBy_45 ?_
          refine S_let (fun x11 => ?_)
          refine S_istore_n (lv' := [(3, .inl x11), (0, .inr (.inr 60)), (1, .inl p1), (2, .inl p2), (4, .inl x2)]) dX2_daringsBy_46 rfl rfl ?_
          refine S_iinc (lv' := fun x12 => [(4, .inl x12), (3, .inl x11), (0, .inr (.inr 60)), (1, .inl p1), (2, .inl p2)]) dX2_daringsBy_47 rfl rfl rfl (fun _ => rfl) (fun x12 => ?_)
          refine S_goto (tgt := 5) dX2_daringsBy_50 (by decide) ?_
          exact S_sub [2, 3, 4, 1, 0] rfl (ih x11 x12 μ8)
        refine S_if_eq (tgt := 44) dX2_daringsBy_34 (by decide) (fun h13 => ?_) (fun h13 => ?_)
        · refine S_iconst dX2_daringsBy_44 rfl ?_
          exact S_sub [0, 1, 2, 4] rfl (hK10 0)
        · refine S_iconst dX2_daringsBy_37 rfl ?_
          refine S_iload dX2_daringsBy_38 rfl ?_
          refine S_ishl dX2_daringsBy_40 ?_
          refine S_goto (tgt := 45) dX2_daringsBy_41 (by decide) ?_
          exact S_sub [0, 1, 2, 4] rfl (hK10 (bshl 1 x2))
  exact S_sub [2, 3, 4, 1, 0] rfl (hL5 fuel 0 0 μ)
def fX2_darings (p1 : Int) (p2 : Int) (μ : Mem) : Option (Int × Mem) :=
  (fX2_isOne p1 μ).bind fun x1 =>
  if x1 = 0 then
    some ((-1), μ)
  else
    (fX2_isRow p2 μ).bind fun x2 =>
    if ¬ x2 = 0 then
      bnd2 (fX2_noRow p2 μ) fun x3 μ4 =>
      if x3 = 0 then
        bnd2 (fX2_daringsBy p1 p2 μ4) fun x5 μ6 =>
        some (x5, μ6)
      else
        some (x3, μ4)
    else
      some ((-1), μ)
theorem K_X2_darings  (p1 : Int) (p2 : Int)  (μ : Mem) : Con yX2_darings cX2_darings 4 (some .int) 9 [.inr (.inr 60), .inl p1, .inl p2] μ (fX2_darings p1 p2 μ) wI := by
  refine con_of (own := RX2) (by decide) rfl (Nat.le_of_ble_eq_true rfl) ?_
  show Sim cX2_darings 4 RX2 (9) (some .int) wI 0 [(0, .inr (.inr 60)), (1, .inl p1), (2, .inl p2)] [] μ (fX2_darings p1 p2 μ)
  unfold fX2_darings
  refine S_aload_n dX2_darings_0 rfl ?_
  refine S_iload_n dX2_darings_1 rfl ?_
  refine S_callV_I dX2_darings_2 [.inl p1] (K_X2_isOne p1 μ) l_X2_162 yo_X2_isOne rfl rfl rfl rfl rfl (fun x1 => ?_)
  refine S_if_eq (tgt := 15) dX2_darings_5 (by decide) (fun h9 => ?_) (fun h9 => ?_)
  · refine S_iconst dX2_darings_15 rfl ?_
    exact S_iret dX2_darings_16 rfl rfl
  · refine S_iload_n dX2_darings_8 rfl ?_
    refine S_callS_I dX2_darings_9 [.inl p2] (K_X2_isRow p2 μ) l_X2_65 yo_X2_isRow rfl rfl rfl (fun x2 => ?_)
    refine S_if_ne (tgt := 17) dX2_darings_12 (by decide) (fun h8 => ?_) (fun h8 => ?_)
    · refine S_aload_n dX2_darings_17 rfl ?_
      refine S_iload_n dX2_darings_18 rfl ?_
      refine S_callV_M2 dX2_darings_19 [.inl p2] (K_X2_noRow p2 μ) l_X2_219 yo_X2_noRow rfl rfl rfl rfl rfl (fun x3 μ4 => ?_)
      refine S_istore_n (lv' := [(3, .inl x3), (0, .inr (.inr 60)), (1, .inl p1), (2, .inl p2)]) dX2_darings_22 rfl rfl ?_
      refine S_iload_n dX2_darings_23 rfl ?_
      refine S_if_eq (tgt := 31) dX2_darings_24 (by decide) (fun h7 => ?_) (fun h7 => ?_)
      · refine S_aload_n dX2_darings_31 rfl ?_
        refine S_iload_n dX2_darings_32 rfl ?_
        refine S_iload_n dX2_darings_33 rfl ?_
        refine S_callV_M2 dX2_darings_34 [.inl p1, .inl p2] (K_X2_daringsBy p1 p2 μ4) l_X2_222 yo_X2_daringsBy rfl rfl rfl rfl rfl (fun x5 μ6 => ?_)
        exact S_iret dX2_darings_37 rfl rfl
      · refine S_iload_n dX2_darings_27 rfl ?_
        refine S_goto (tgt := 37) dX2_darings_28 (by decide) ?_
        exact S_iret dX2_darings_37 rfl rfl
    · refine S_iconst dX2_darings_15 rfl ?_
      exact S_iret dX2_darings_16 rfl rfl
def fX2_kinds_L43 (K8 : Int → Mem → Option (Int × Mem)) (p1 : Int) (p2 : Int) : Nat → Int → Int → Mem → Option (Int × Mem)
  | 0, _, _, _ => none
  | n13 + 1, x10, x11, μ12 =>
    if 6 ≤ x11 then
      K8 x10 μ12
    else
      grd (0 ≤ p1 ∧ p1 < 6) <|
      mlet (wr μ12 62 (p1).toNat x11) fun μ14 =>
      (fX2_layTried μ14).bind fun μ15 =>
      bnd2 (fX2_isSo p2 μ15) fun x16 μ17 =>
      mlet (fun (x18 : Int) =>
        mlet ((bor x10 x18)) fun x20 =>
        mlet (w32 (x11 + 1)) fun x21 =>
        fX2_kinds_L43 K8 p1 p2 n13 x20 x21 μ17
        ) fun (K19 : Int → Option (Int × Mem)) =>
      if x16 = 0 then
        K19 0
      else
        K19 (bshl 1 x11)
def fX2_kinds (p1 : Int) (p2 : Int) (μ : Mem) : Option (Int × Mem) :=
  (fX2_isOne p1 μ).bind fun x1 =>
  if x1 = 0 then
    some ((-1), μ)
  else
    (fX2_isRow p2 μ).bind fun x2 =>
    if ¬ x2 = 0 then
      bnd2 (fX2_noRow p2 μ) fun x3 μ4 =>
      if x3 = 0 then
        grd (0 ≤ p1 ∧ p1 < 6) <|
        mlet ((μ4 62 (p1).toNat)) fun x5 =>
        mlet (fun (x6 : Int) (μ7 : Mem) =>
          grd (0 ≤ p1 ∧ p1 < 6) <|
          mlet (wr μ7 62 (p1).toNat x5) fun μ9 =>
          some (x6, μ9)
          ) fun (K8 : Int → Mem → Option (Int × Mem)) =>
        fX2_kinds_L43 K8 p1 p2 fuel 0 0 μ4
      else
        some (x3, μ4)
    else
      some ((-1), μ)
theorem K_X2_kinds  (p1 : Int) (p2 : Int)  (μ : Mem) : Con yX2_kinds cX2_kinds 7 (some .int) 8 [.inr (.inr 60), .inl p1, .inl p2] μ (fX2_kinds p1 p2 μ) wI := by
  refine con_of (own := RX2) (by decide) rfl (Nat.le_of_ble_eq_true rfl) ?_
  show Sim cX2_kinds 7 RX2 (8) (some .int) wI 0 [(0, .inr (.inr 60)), (1, .inl p1), (2, .inl p2)] [] μ (fX2_kinds p1 p2 μ)
  unfold fX2_kinds
  refine S_aload_n dX2_kinds_0 rfl ?_
  refine S_iload_n dX2_kinds_1 rfl ?_
  refine S_callV_I dX2_kinds_2 [.inl p1] (K_X2_isOne p1 μ) l_X2_162 yo_X2_isOne rfl rfl rfl rfl rfl (fun x1 => ?_)
  refine S_if_eq (tgt := 15) dX2_kinds_5 (by decide) (fun h26 => ?_) (fun h26 => ?_)
  · refine S_iconst dX2_kinds_15 rfl ?_
    exact S_iret dX2_kinds_16 rfl rfl
  · refine S_iload_n dX2_kinds_8 rfl ?_
    refine S_callS_I dX2_kinds_9 [.inl p2] (K_X2_isRow p2 μ) l_X2_65 yo_X2_isRow rfl rfl rfl (fun x2 => ?_)
    refine S_if_ne (tgt := 17) dX2_kinds_12 (by decide) (fun h25 => ?_) (fun h25 => ?_)
    · refine S_aload_n dX2_kinds_17 rfl ?_
      refine S_iload_n dX2_kinds_18 rfl ?_
      refine S_callV_M2 dX2_kinds_19 [.inl p2] (K_X2_noRow p2 μ) l_X2_219 yo_X2_noRow rfl rfl rfl rfl rfl (fun x3 μ4 => ?_)
      refine S_istore_n (lv' := [(3, .inl x3), (0, .inr (.inr 60)), (1, .inl p1), (2, .inl p2)]) dX2_kinds_22 rfl rfl ?_
      refine S_iload_n dX2_kinds_23 rfl ?_
      refine S_if_eq (tgt := 29) dX2_kinds_24 (by decide) (fun h24 => ?_) (fun h24 => ?_)
      · refine S_aload_n dX2_kinds_29 rfl ?_
        refine S_getR (c1 := 62) dX2_kinds_30 rfl fl_X2_13 rfl rfl rfl ?_
        refine S_iload_n dX2_kinds_33 rfl ?_
        refine S_iald (N := 6) dX2_kinds_34 rfl (by decide) rfl ?_
        refine S_let (fun x5 => ?_)
        refine S_istore (lv' := [(4, .inl x5), (3, .inl x3), (0, .inr (.inr 60)), (1, .inl p1), (2, .inl p2)]) dX2_kinds_35 rfl rfl ?_
        refine S_iconst dX2_kinds_37 rfl ?_
        refine S_istore (lv' := [(5, .inl 0), (4, .inl x5), (3, .inl x3), (0, .inr (.inr 60)), (1, .inl p1), (2, .inl p2)]) dX2_kinds_38 rfl rfl ?_
        refine S_iconst dX2_kinds_40 rfl ?_
        refine S_istore (lv' := [(6, .inl 0), (5, .inl 0), (4, .inl x5), (3, .inl x3), (0, .inr (.inr 60)), (1, .inl p1), (2, .inl p2)]) dX2_kinds_41 rfl rfl ?_
        refine S_jn (fun (K8 : Int → Mem → Option (Int × Mem)) => ∀ (x6 : Int) (μ7 : Mem), Sim cX2_kinds 7 RX2 (8) (some .int) wI 89 [(0, .inr (.inr 60)), (1, .inl p1), (4, .inl x5), (5, .inl x6)] [] μ7 (K8 x6 μ7)) ?_ (fun K8 hK8 => ?_)
        · intro x6 μ7
          refine S_aload_n dX2_kinds_89 rfl ?_
          refine S_getR (c1 := 62) dX2_kinds_90 rfl fl_X2_13 rfl rfl rfl ?_
          refine S_iload_n dX2_kinds_93 rfl ?_
          refine S_iload dX2_kinds_94 rfl ?_
          refine S_iast (N := 6) dX2_kinds_96 rfl (by decide) rfl (fun μ9 => ?_)
          refine S_iload dX2_kinds_97 rfl ?_
          exact S_iret dX2_kinds_99 rfl rfl
        have hL43 : ∀ (n13 : Nat) (x10 : Int) (x11 : Int) (μ12 : Mem), Sim cX2_kinds 7 RX2 (8) (some .int) wI 43 [(0, .inr (.inr 60)), (1, .inl p1), (2, .inl p2), (4, .inl x5), (5, .inl x10), (6, .inl x11)] [] μ12 (fX2_kinds_L43 K8 p1 p2 n13 x10 x11 μ12) := by
          intro n13
          induction n13 with
          | zero =>
            intro x10 x11 μ12
            exact S_none rfl
          | succ n13 ih =>
            intro x10 x11 μ12
            rw [fX2_kinds_L43]
            refine S_iload dX2_kinds_43 rfl ?_
            refine S_bipush dX2_kinds_45 rfl (by decide) ?_
            refine S_ic_ge (tgt := 89) dX2_kinds_47 (by decide) (fun h23 => ?_) (fun h23 => ?_)
            · exact S_sub [0, 1, 3, 4] rfl (hK8 x10 μ12)
            · refine S_aload_n dX2_kinds_50 rfl ?_
              refine S_getR (c1 := 62) dX2_kinds_51 rfl fl_X2_13 rfl rfl rfl ?_
              refine S_iload_n dX2_kinds_54 rfl ?_
              refine S_iload dX2_kinds_55 rfl ?_
              refine S_iast (N := 6) dX2_kinds_57 rfl (by decide) rfl (fun μ14 => ?_)
              refine S_aload_n dX2_kinds_58 rfl ?_
              refine S_callV_V dX2_kinds_59 [] (K_X2_layTried μ14) l_X2_196 yo_X2_layTried rfl rfl rfl rfl rfl (fun μ15 => ?_)
              refine S_iload dX2_kinds_62 rfl ?_
              refine S_aload_n dX2_kinds_64 rfl ?_
              refine S_iload_n dX2_kinds_65 rfl ?_
              refine S_callV_M2 dX2_kinds_66 [.inl p2] (K_X2_isSo p2 μ15) l_X2_216 yo_X2_isSo rfl rfl rfl rfl rfl (fun x16 μ17 => ?_)
              refine S_jn (fun (K19 : Int → Option (Int × Mem)) => ∀ (x18 : Int), Sim cX2_kinds 7 RX2 (8) (some .int) wI 80 [(0, .inr (.inr 60)), (1, .inl p1), (2, .inl p2), (4, .inl x5), (6, .inl x11)] [.inl x18, .inl x10] μ17 (K19 x18)) ?_ (fun K19 hK19 => ?_)
              · intro x18
                refine S_ior dX2_kinds_80 ?_
                refine S_let (fun x20 => ?_)
                refine S_istore (lv' := [(5, .inl x20), (0, .inr (.inr 60)), (1, .inl p1), (2, .inl p2), (4, .inl x5), (6, .inl x11)]) dX2_kinds_81 rfl rfl ?_
                refine S_iinc (lv' := fun x21 => [(6, .inl x21), (5, .inl x20), (0, .inr (.inr 60)), (1, .inl p1), (2, .inl p2), (4, .inl x5)]) dX2_kinds_83 rfl rfl rfl (fun _ => rfl) (fun x21 => ?_)
                refine S_goto (tgt := 43) dX2_kinds_86 (by decide) ?_
                exact S_sub [2, 3, 4, 5, 1, 0] rfl (ih x20 x21 μ17)
              refine S_if_eq (tgt := 79) dX2_kinds_69 (by decide) (fun h22 => ?_) (fun h22 => ?_)
              · refine S_iconst dX2_kinds_79 rfl ?_
                exact S_sub [0, 1, 2, 3, 5] rfl (hK19 0)
              · refine S_iconst dX2_kinds_72 rfl ?_
                refine S_iload dX2_kinds_73 rfl ?_
                refine S_ishl dX2_kinds_75 ?_
                refine S_goto (tgt := 80) dX2_kinds_76 (by decide) ?_
                exact S_sub [0, 1, 2, 3, 5] rfl (hK19 (bshl 1 x11))
        exact S_sub [4, 5, 6, 2, 1, 0] rfl (hL43 fuel 0 0 μ4)
      · refine S_iload_n dX2_kinds_27 rfl ?_
        exact S_iret dX2_kinds_28 rfl rfl
    · refine S_iconst dX2_kinds_15 rfl ?_
      exact S_iret dX2_kinds_16 rfl rfl
def fX2_layParts_L56 (K8 : Mem → Option Mem) : Nat → Int → Mem → Option Mem
  | 0, _, _ => none
  | n14 + 1, x12, μ13 =>
    if 21 ≤ x12 then
      K8 μ13
    else
      bnd2 (fX2_passes 3284 μ13) fun x15 μ16 =>
      mlet (fun (x17 : Int) =>
        grd (0 ≤ (w32 ((w32 (7 * x12)) + x17)) ∧ (w32 ((w32 (7 * x12)) + x17)) < 147) <|
        grd (0 ≤ (w32 ((w32 (7 * x12)) + x17)) ∧ (w32 ((w32 (7 * x12)) + x17)) < 147) <|
        mlet (wr μ16 71 ((w32 ((w32 (7 * x12)) + x17))).toNat (w32 ((μ16 71 ((w32 ((w32 (7 * x12)) + x17))).toNat) + 1))) fun μ19 =>
        mlet (w32 (x12 + 1)) fun x20 =>
        fX2_layParts_L56 K8 n14 x20 μ19
        ) fun (K18 : Int → Option Mem) =>
      if ¬ x15 = (-9) then
        K18 (w32 (1 + x15))
      else
        K18 0
def fX2_layParts_L24 (p2 : Int) (p1 : Int) : Nat → Int → Mem → Option Mem
  | 0, _, _ => none
  | n5 + 1, x3, μ4 =>
    if 21 ≤ x3 then
      some μ4
    else
      (fX2_has p2 x3 μ4).bind fun x6 =>
      mlet (fun (μ7 : Mem) =>
        mlet (w32 (x3 + 1)) fun x9 =>
        fX2_layParts_L24 p2 p1 n5 x9 μ7
        ) fun (K8 : Mem → Option Mem) =>
      if x6 = 0 then
        K8 μ4
      else
        (fX2_layTried μ4).bind fun μ10 =>
        grd (0 ≤ (w32 (3293 + p1)) ∧ (w32 (3293 + p1)) < 3305) <|
        mlet (wr μ10 61 ((w32 (3293 + p1))).toNat x3) fun μ11 =>
        fX2_layParts_L56 K8 fuel 1 μ11
def fX2_layParts_L2 (K2 : Mem → Option Mem) : Nat → Int → Mem → Option Mem
  | 0, _, _ => none
  | n27 + 1, x25, μ26 =>
    if 147 ≤ x25 then
      K2 μ26
    else
      grd (0 ≤ x25 ∧ x25 < 147) <|
      mlet (wr μ26 71 (x25).toNat 0) fun μ28 =>
      mlet (w32 (x25 + 1)) fun x29 =>
      fX2_layParts_L2 K2 n27 x29 μ28
def fX2_layParts (p1 : Int) (p2 : Int) (μ : Mem) : Option Mem :=
  mlet (fun (μ1 : Mem) =>
    fX2_layParts_L24 p2 p1 fuel 0 μ1
    ) fun (K2 : Mem → Option Mem) =>
  fX2_layParts_L2 K2 fuel 0 μ
theorem K_X2_layParts  (p1 : Int) (p2 : Int)  (μ : Mem) : Con yX2_layParts cX2_layParts 6 (none) 7 [.inr (.inr 60), .inl p1, .inl p2] μ (fX2_layParts p1 p2 μ) wV := by
  refine con_of (own := RX2) (by decide) rfl (Nat.le_of_ble_eq_true rfl) ?_
  show Sim cX2_layParts 6 RX2 (7) (none) wV 0 [(0, .inr (.inr 60)), (1, .inl p1), (2, .inl p2)] [] μ (fX2_layParts p1 p2 μ)
  unfold fX2_layParts
  refine S_iconst dX2_layParts_0 rfl ?_
  refine S_istore_n (lv' := [(3, .inl 0), (0, .inr (.inr 60)), (1, .inl p1), (2, .inl p2)]) dX2_layParts_1 rfl rfl ?_
  refine S_jn (fun (K2 : Mem → Option Mem) => ∀ (μ1 : Mem), Sim cX2_layParts 6 RX2 (7) (none) wV 22 [(0, .inr (.inr 60)), (1, .inl p1), (2, .inl p2)] [] μ1 (K2 μ1)) ?_ (fun K2 hK2 => ?_)
  · intro μ1
    refine S_iconst dX2_layParts_22 rfl ?_
    refine S_istore_n (lv' := [(3, .inl 0), (0, .inr (.inr 60)), (1, .inl p1), (2, .inl p2)]) dX2_layParts_23 rfl rfl ?_
    have hL24 : ∀ (n5 : Nat) (x3 : Int) (μ4 : Mem), Sim cX2_layParts 6 RX2 (7) (none) wV 24 [(0, .inr (.inr 60)), (1, .inl p1), (2, .inl p2), (3, .inl x3)] [] μ4 (fX2_layParts_L24 p2 p1 n5 x3 μ4) := by
      intro n5
      induction n5 with
      | zero =>
        intro x3 μ4
        exact S_none rfl
      | succ n5 ih =>
        intro x3 μ4
        rw [fX2_layParts_L24]
        refine S_iload_n dX2_layParts_24 rfl ?_
        refine S_bipush dX2_layParts_25 rfl (by decide) ?_
        refine S_ic_ge (tgt := 114) dX2_layParts_27 (by decide) (fun h24 => ?_) (fun h24 => ?_)
        · exact S_vret dX2_layParts_114 rfl rfl
        · refine S_iload_n dX2_layParts_30 rfl ?_
          refine S_iload_n dX2_layParts_31 rfl ?_
          refine S_callS_I dX2_layParts_32 [.inl p2, .inl x3] (K_X2_has p2 x3 μ4) l_X2_149 yo_X2_has rfl rfl rfl (fun x6 => ?_)
          refine S_jn (fun (K8 : Mem → Option Mem) => ∀ (μ7 : Mem), Sim cX2_layParts 6 RX2 (7) (none) wV 108 [(0, .inr (.inr 60)), (1, .inl p1), (2, .inl p2), (3, .inl x3)] [] μ7 (K8 μ7)) ?_ (fun K8 hK8 => ?_)
          · intro μ7
            refine S_iinc (lv' := fun x9 => [(3, .inl x9), (0, .inr (.inr 60)), (1, .inl p1), (2, .inl p2)]) dX2_layParts_108 rfl rfl rfl (fun _ => rfl) (fun x9 => ?_)
            refine S_goto (tgt := 24) dX2_layParts_111 (by decide) ?_
            exact S_sub [1, 2, 3, 0] rfl (ih x9 μ7)
          refine S_if_eq (tgt := 108) dX2_layParts_35 (by decide) (fun h23 => ?_) (fun h23 => ?_)
          · exact S_sub [0, 1, 2, 3] rfl (hK8 μ4)
          · refine S_aload_n dX2_layParts_38 rfl ?_
            refine S_callV_V dX2_layParts_39 [] (K_X2_layTried μ4) l_X2_196 yo_X2_layTried rfl rfl rfl rfl rfl (fun μ10 => ?_)
            refine S_aload_n dX2_layParts_42 rfl ?_
            refine S_getR (c1 := 61) dX2_layParts_43 rfl fl_X2_7 rfl rfl rfl ?_
            refine S_sipush dX2_layParts_46 rfl (by decide) ?_
            refine S_iload_n dX2_layParts_49 rfl ?_
            refine S_iadd dX2_layParts_50 ?_
            refine S_iload_n dX2_layParts_51 rfl ?_
            refine S_iast (N := 3305) dX2_layParts_52 rfl (by decide) rfl (fun μ11 => ?_)
            refine S_iconst dX2_layParts_53 rfl ?_
            refine S_istore (lv' := [(4, .inl 1), (0, .inr (.inr 60)), (1, .inl p1), (2, .inl p2), (3, .inl x3)]) dX2_layParts_54 rfl rfl ?_
            have hL56 : ∀ (n14 : Nat) (x12 : Int) (μ13 : Mem), Sim cX2_layParts 6 RX2 (7) (none) wV 56 [(0, .inr (.inr 60)), (1, .inl p1), (2, .inl p2), (3, .inl x3), (4, .inl x12)] [] μ13 (fX2_layParts_L56 K8 n14 x12 μ13) := by
              intro n14
              induction n14 with
              | zero =>
                intro x12 μ13
                exact S_none rfl
              | succ n14 ih =>
                intro x12 μ13
                rw [fX2_layParts_L56]
                refine S_iload dX2_layParts_56 rfl ?_
                refine S_bipush dX2_layParts_58 rfl (by decide) ?_
                refine S_ic_ge (tgt := 108) dX2_layParts_60 (by decide) (fun h22 => ?_) (fun h22 => ?_)
                · exact S_sub [0, 1, 2, 3] rfl (hK8 μ13)
                · refine S_aload_n dX2_layParts_63 rfl ?_
                  refine S_sipush dX2_layParts_64 rfl (by decide) ?_
                  refine S_callV_M2 dX2_layParts_67 [.inl 3284] (K_X2_passes 3284 μ13) l_X2_177 yo_X2_passes rfl rfl rfl rfl rfl (fun x15 μ16 => ?_)
                  refine S_istore (lv' := [(5, .inl x15), (0, .inr (.inr 60)), (1, .inl p1), (2, .inl p2), (3, .inl x3), (4, .inl x12)]) dX2_layParts_70 rfl rfl ?_
                  refine S_aload_n dX2_layParts_72 rfl ?_
                  refine S_getR (c1 := 71) dX2_layParts_73 rfl fl_X2_44 rfl rfl rfl ?_
                  refine S_bipush dX2_layParts_76 rfl (by decide) ?_
                  refine S_iload dX2_layParts_78 rfl ?_
                  refine S_imul dX2_layParts_80 ?_
                  refine S_iload dX2_layParts_81 rfl ?_
                  refine S_bipush dX2_layParts_83 rfl (by decide) ?_
                  refine S_jn (fun (K18 : Int → Option Mem) => ∀ (x17 : Int), Sim cX2_layParts 6 RX2 (7) (none) wV 96 [(0, .inr (.inr 60)), (1, .inl p1), (2, .inl p2), (3, .inl x3), (4, .inl x12)] [.inl x17, .inl (w32 (7 * x12)), .inr (.inr 71)] μ16 (K18 x17)) ?_ (fun K18 hK18 => ?_)
                  · intro x17
                    refine S_iadd dX2_layParts_96 ?_
                    refine S_dup2 dX2_layParts_97 rfl rfl ?_
                    refine S_iald (N := 147) dX2_layParts_98 rfl (by decide) rfl ?_
                    refine S_iconst dX2_layParts_99 rfl ?_
                    refine S_iadd dX2_layParts_100 ?_
                    refine S_iast (N := 147) dX2_layParts_101 rfl (by decide) rfl (fun μ19 => ?_)
                    refine S_iinc (lv' := fun x20 => [(4, .inl x20), (0, .inr (.inr 60)), (1, .inl p1), (2, .inl p2), (3, .inl x3)]) dX2_layParts_102 rfl rfl rfl (fun _ => rfl) (fun x20 => ?_)
                    refine S_goto (tgt := 56) dX2_layParts_105 (by decide) ?_
                    exact S_sub [1, 2, 3, 4, 0] rfl (ih x20 μ19)
                  refine S_ic_ne (tgt := 92) dX2_layParts_85 (by decide) (fun h21 => ?_) (fun h21 => ?_)
                  · refine S_iconst dX2_layParts_92 rfl ?_
                    refine S_iload dX2_layParts_93 rfl ?_
                    refine S_iadd dX2_layParts_95 ?_
                    exact S_sub [1, 2, 3, 4, 5] rfl (hK18 (w32 (1 + x15)))
                  · refine S_iconst dX2_layParts_88 rfl ?_
                    refine S_goto (tgt := 96) dX2_layParts_89 (by decide) ?_
                    exact S_sub [1, 2, 3, 4, 5] rfl (hK18 0)
            exact S_sub [1, 2, 3, 4, 0] rfl (hL56 fuel 1 μ11)
    exact S_sub [1, 2, 3, 0] rfl (hL24 fuel 0 μ1)
  have hL2 : ∀ (n27 : Nat) (x25 : Int) (μ26 : Mem), Sim cX2_layParts 6 RX2 (7) (none) wV 2 [(0, .inr (.inr 60)), (1, .inl p1), (2, .inl p2), (3, .inl x25)] [] μ26 (fX2_layParts_L2 K2 n27 x25 μ26) := by
    intro n27
    induction n27 with
    | zero =>
      intro x25 μ26
      exact S_none rfl
    | succ n27 ih =>
      intro x25 μ26
      rw [fX2_layParts_L2]
      refine S_iload_n dX2_layParts_2 rfl ?_
      refine S_sipush dX2_layParts_3 rfl (by decide) ?_
      refine S_ic_ge (tgt := 22) dX2_layParts_6 (by decide) (fun h30 => ?_) (fun h30 => ?_)
      · exact S_sub [0, 1, 2] rfl (hK2 μ26)
      · refine S_aload_n dX2_layParts_9 rfl ?_
        refine S_getR (c1 := 71) dX2_layParts_10 rfl fl_X2_44 rfl rfl rfl ?_
        refine S_iload_n dX2_layParts_13 rfl ?_
        refine S_iconst dX2_layParts_14 rfl ?_
        refine S_iast (N := 147) dX2_layParts_15 rfl (by decide) rfl (fun μ28 => ?_)
        refine S_iinc (lv' := fun x29 => [(3, .inl x29), (0, .inr (.inr 60)), (1, .inl p1), (2, .inl p2)]) dX2_layParts_16 rfl rfl rfl (fun _ => rfl) (fun x29 => ?_)
        refine S_goto (tgt := 2) dX2_layParts_19 (by decide) ?_
        exact S_sub [1, 2, 3, 0] rfl (ih x29 μ28)
  exact S_sub [1, 2, 3, 0] rfl (hL2 fuel 0 μ)
def fX2_greatestPart_L7 (p1 : Int) (μ : Mem) : Nat → Int → Int → Option Int
  | 0, _, _ => none
  | n4 + 1, x2, x3 =>
    if (w32 ((w32 (7 * p1)) + 7)) ≤ x3 then
      some x2
    else
      grd (0 ≤ x3 ∧ x3 < 147) <|
      mlet (fun (x5 : Int) =>
        mlet (w32 (x3 + 1)) fun x7 =>
        fX2_greatestPart_L7 p1 μ n4 x5 x7
        ) fun (K6 : Int → Option Int) =>
      if (μ 71 (x3).toNat) ≤ x2 then
        K6 x2
      else
        grd (0 ≤ x3 ∧ x3 < 147) <|
        K6 (μ 71 (x3).toNat)
def fX2_greatestPart (p1 : Int) (μ : Mem) : Option Int :=
  mlet ((w32 (7 * p1))) fun x1 =>
  fX2_greatestPart_L7 p1 μ fuel 0 x1
theorem K_X2_greatestPart  (p1 : Int)  (μ : Mem) : Con yX2_greatestPart cX2_greatestPart 4 (some .int) 2 [.inr (.inr 60), .inl p1] μ (fX2_greatestPart p1 μ) (rI μ) := by
  refine con_of (own := RX2) (by decide) rfl (Nat.le_of_ble_eq_true rfl) ?_
  show Sim cX2_greatestPart 4 RX2 (2) (some .int) (rI μ) 0 [(0, .inr (.inr 60)), (1, .inl p1)] [] μ (fX2_greatestPart p1 μ)
  unfold fX2_greatestPart
  refine S_iconst dX2_greatestPart_0 rfl ?_
  refine S_istore_n (lv' := [(2, .inl 0), (0, .inr (.inr 60)), (1, .inl p1)]) dX2_greatestPart_1 rfl rfl ?_
  refine S_bipush dX2_greatestPart_2 rfl (by decide) ?_
  refine S_iload_n dX2_greatestPart_4 rfl ?_
  refine S_imul dX2_greatestPart_5 ?_
  refine S_let (fun x1 => ?_)
  refine S_istore_n (lv' := [(3, .inl x1), (2, .inl 0), (0, .inr (.inr 60)), (1, .inl p1)]) dX2_greatestPart_6 rfl rfl ?_
  have hL7 : ∀ (n4 : Nat) (x2 : Int) (x3 : Int), Sim cX2_greatestPart 4 RX2 (2) (some .int) (rI μ) 7 [(0, .inr (.inr 60)), (1, .inl p1), (2, .inl x2), (3, .inl x3)] [] μ (fX2_greatestPart_L7 p1 μ n4 x2 x3) := by
    intro n4
    induction n4 with
    | zero =>
      intro x2 x3
      exact S_none rfl
    | succ n4 ih =>
      intro x2 x3
      rw [fX2_greatestPart_L7]
      refine S_iload_n dX2_greatestPart_7 rfl ?_
      refine S_bipush dX2_greatestPart_8 rfl (by decide) ?_
      refine S_iload_n dX2_greatestPart_10 rfl ?_
      refine S_imul dX2_greatestPart_11 ?_
      refine S_bipush dX2_greatestPart_12 rfl (by decide) ?_
      refine S_iadd dX2_greatestPart_14 ?_
      refine S_ic_ge (tgt := 45) dX2_greatestPart_15 (by decide) (fun h9 => ?_) (fun h9 => ?_)
      · refine S_iload_n dX2_greatestPart_45 rfl ?_
        exact S_iret dX2_greatestPart_46 rfl rfl
      · refine S_aload_n dX2_greatestPart_18 rfl ?_
        refine S_getR (c1 := 71) dX2_greatestPart_19 rfl fl_X2_44 rfl rfl rfl ?_
        refine S_iload_n dX2_greatestPart_22 rfl ?_
        refine S_iald (N := 147) dX2_greatestPart_23 rfl (by decide) rfl ?_
        refine S_iload_n dX2_greatestPart_24 rfl ?_
        refine S_jn (fun (K6 : Int → Option Int) => ∀ (x5 : Int), Sim cX2_greatestPart 4 RX2 (2) (some .int) (rI μ) 38 [(0, .inr (.inr 60)), (1, .inl p1), (3, .inl x3)] [.inl x5] μ (K6 x5)) ?_ (fun K6 hK6 => ?_)
        · intro x5
          refine S_istore_n (lv' := [(2, .inl x5), (0, .inr (.inr 60)), (1, .inl p1), (3, .inl x3)]) dX2_greatestPart_38 rfl rfl ?_
          refine S_iinc (lv' := fun x7 => [(3, .inl x7), (2, .inl x5), (0, .inr (.inr 60)), (1, .inl p1)]) dX2_greatestPart_39 rfl rfl rfl (fun _ => rfl) (fun x7 => ?_)
          refine S_goto (tgt := 7) dX2_greatestPart_42 (by decide) ?_
          exact S_sub [2, 3, 1, 0] rfl (ih x5 x7)
        refine S_ic_le (tgt := 37) dX2_greatestPart_25 (by decide) (fun h8 => ?_) (fun h8 => ?_)
        · refine S_iload_n dX2_greatestPart_37 rfl ?_
          exact S_sub [0, 1, 3] rfl (hK6 x2)
        · refine S_aload_n dX2_greatestPart_28 rfl ?_
          refine S_getR (c1 := 71) dX2_greatestPart_29 rfl fl_X2_44 rfl rfl rfl ?_
          refine S_iload_n dX2_greatestPart_32 rfl ?_
          refine S_iald (N := 147) dX2_greatestPart_33 rfl (by decide) rfl ?_
          refine S_goto (tgt := 38) dX2_greatestPart_34 (by decide) ?_
          exact S_sub [0, 1, 3] rfl (hK6 (μ 71 (x3).toNat))
  exact S_sub [2, 3, 1, 0] rfl (hL7 fuel 0 x1)
def fX2_look_L63 (K10 : Int → Int → Option (Int × Mem)) (μ7 : Mem) : Nat → Int → Int → Int → Option (Int × Mem)
  | 0, _, _, _ => none
  | n15 + 1, x12, x13, x14 =>
    if 21 ≤ x14 then
      K10 x12 x13
    else
      (fX2_greatestPart x14 μ7).bind fun x16 =>
      mlet (fun (x17 : Int) =>
        mlet (fun (x19 : Int) =>
          mlet (w32 (x14 + 1)) fun x21 =>
          fX2_look_L63 K10 μ7 n15 x17 x19 x21
          ) fun (K20 : Int → Option (Int × Mem)) =>
        if x13 ≤ x16 then
          K20 x13
        else
          K20 x16
        ) fun (K18 : Int → Option (Int × Mem)) =>
      if x13 ≤ x16 then
        K18 x12
      else
        K18 x14
def fX2_look (p1 : Int) (p2 : Int) (μ : Mem) : Option (Int × Mem) :=
  (fX2_isOne p1 μ).bind fun x1 =>
  if x1 = 0 then
    some ((-1), μ)
  else
    (fX2_isRow p2 μ).bind fun x2 =>
    if ¬ x2 = 0 then
      bnd2 (fX2_noRow p2 μ) fun x3 μ4 =>
      if x3 = 0 then
        bnd2 (fX2_daringsBy p1 p2 μ4) fun x5 μ6 =>
        if ¬ x5 = 0 then
          (fX2_layParts p1 x5 μ6).bind fun μ7 =>
          mlet (fun (x8 : Int) (x9 : Int) =>
            mlet (wr μ7 60 7 x9) fun μ11 =>
            some (x8, μ11)
            ) fun (K10 : Int → Int → Option (Int × Mem)) =>
          fX2_look_L63 K10 μ7 fuel (-9) 99999 1
        else
          some ((-9), μ6)
      else
        some (x3, μ4)
    else
      some ((-1), μ)
theorem K_X2_look  (p1 : Int) (p2 : Int)  (μ : Mem) : Con yX2_look cX2_look 9 (some .int) 9 [.inr (.inr 60), .inl p1, .inl p2] μ (fX2_look p1 p2 μ) wI := by
  refine con_of (own := RX2) (by decide) rfl (Nat.le_of_ble_eq_true rfl) ?_
  show Sim cX2_look 9 RX2 (9) (some .int) wI 0 [(0, .inr (.inr 60)), (1, .inl p1), (2, .inl p2)] [] μ (fX2_look p1 p2 μ)
  unfold fX2_look
  refine S_aload_n dX2_look_0 rfl ?_
  refine S_iload_n dX2_look_1 rfl ?_
  refine S_callV_I dX2_look_2 [.inl p1] (K_X2_isOne p1 μ) l_X2_162 yo_X2_isOne rfl rfl rfl rfl rfl (fun x1 => ?_)
  refine S_if_eq (tgt := 15) dX2_look_5 (by decide) (fun h28 => ?_) (fun h28 => ?_)
  · refine S_iconst dX2_look_15 rfl ?_
    exact S_iret dX2_look_16 rfl rfl
  · refine S_iload_n dX2_look_8 rfl ?_
    refine S_callS_I dX2_look_9 [.inl p2] (K_X2_isRow p2 μ) l_X2_65 yo_X2_isRow rfl rfl rfl (fun x2 => ?_)
    refine S_if_ne (tgt := 17) dX2_look_12 (by decide) (fun h27 => ?_) (fun h27 => ?_)
    · refine S_aload_n dX2_look_17 rfl ?_
      refine S_iload_n dX2_look_18 rfl ?_
      refine S_callV_M2 dX2_look_19 [.inl p2] (K_X2_noRow p2 μ) l_X2_219 yo_X2_noRow rfl rfl rfl rfl rfl (fun x3 μ4 => ?_)
      refine S_istore_n (lv' := [(3, .inl x3), (0, .inr (.inr 60)), (1, .inl p1), (2, .inl p2)]) dX2_look_22 rfl rfl ?_
      refine S_iload_n dX2_look_23 rfl ?_
      refine S_if_eq (tgt := 29) dX2_look_24 (by decide) (fun h26 => ?_) (fun h26 => ?_)
      · refine S_aload_n dX2_look_29 rfl ?_
        refine S_iload_n dX2_look_30 rfl ?_
        refine S_iload_n dX2_look_31 rfl ?_
        refine S_callV_M2 dX2_look_32 [.inl p1, .inl p2] (K_X2_daringsBy p1 p2 μ4) l_X2_222 yo_X2_daringsBy rfl rfl rfl rfl rfl (fun x5 μ6 => ?_)
        refine S_istore (lv' := [(4, .inl x5), (3, .inl x3), (0, .inr (.inr 60)), (1, .inl p1), (2, .inl p2)]) dX2_look_35 rfl rfl ?_
        refine S_iload dX2_look_37 rfl ?_
        refine S_if_ne (tgt := 45) dX2_look_39 (by decide) (fun h25 => ?_) (fun h25 => ?_)
        · refine S_aload_n dX2_look_45 rfl ?_
          refine S_iload_n dX2_look_46 rfl ?_
          refine S_iload dX2_look_47 rfl ?_
          refine S_callV_V dX2_look_49 [.inl p1, .inl x5] (K_X2_layParts p1 x5 μ6) l_X2_225 yo_X2_layParts rfl rfl rfl rfl rfl (fun μ7 => ?_)
          refine S_bipush dX2_look_52 rfl (by decide) ?_
          refine S_istore (lv' := [(5, .inl (-9)), (4, .inl x5), (3, .inl x3), (0, .inr (.inr 60)), (1, .inl p1), (2, .inl p2)]) dX2_look_54 rfl rfl ?_
          refine S_ldc dX2_look_56 rfl k_X2_210 ?_
          refine S_istore (lv' := [(6, .inl 99999), (5, .inl (-9)), (4, .inl x5), (3, .inl x3), (0, .inr (.inr 60)), (1, .inl p1), (2, .inl p2)]) dX2_look_58 rfl rfl ?_
          refine S_iconst dX2_look_60 rfl ?_
          refine S_istore (lv' := [(7, .inl 1), (6, .inl 99999), (5, .inl (-9)), (4, .inl x5), (3, .inl x3), (0, .inr (.inr 60)), (1, .inl p1), (2, .inl p2)]) dX2_look_61 rfl rfl ?_
          refine S_jn (fun (K10 : Int → Int → Option (Int × Mem)) => ∀ (x8 : Int) (x9 : Int), Sim cX2_look 9 RX2 (9) (some .int) wI 116 [(0, .inr (.inr 60)), (5, .inl x8), (6, .inl x9)] [] μ7 (K10 x8 x9)) ?_ (fun K10 hK10 => ?_)
          · intro x8 x9
            refine S_aload_n dX2_look_116 rfl ?_
            refine S_iload dX2_look_117 rfl ?_
            refine S_putI dX2_look_119 rfl fl_X2_54 rfl rfl rfl rfl (fun μ11 => ?_)
            refine S_iload dX2_look_122 rfl ?_
            exact S_iret dX2_look_124 rfl rfl
          have hL63 : ∀ (n15 : Nat) (x12 : Int) (x13 : Int) (x14 : Int), Sim cX2_look 9 RX2 (9) (some .int) wI 63 [(0, .inr (.inr 60)), (5, .inl x12), (6, .inl x13), (7, .inl x14)] [] μ7 (fX2_look_L63 K10 μ7 n15 x12 x13 x14) := by
            intro n15
            induction n15 with
            | zero =>
              intro x12 x13 x14
              exact S_none rfl
            | succ n15 ih =>
              intro x12 x13 x14
              rw [fX2_look_L63]
              refine S_iload dX2_look_63 rfl ?_
              refine S_bipush dX2_look_65 rfl (by decide) ?_
              refine S_ic_ge (tgt := 116) dX2_look_67 (by decide) (fun h24 => ?_) (fun h24 => ?_)
              · exact S_sub [0, 1, 2] rfl (hK10 x12 x13)
              · refine S_aload_n dX2_look_70 rfl ?_
                refine S_iload dX2_look_71 rfl ?_
                refine S_callV_I dX2_look_73 [.inl x14] (K_X2_greatestPart x14 μ7) l_X2_228 yo_X2_greatestPart rfl rfl rfl rfl rfl (fun x16 => ?_)
                refine S_istore (lv' := [(8, .inl x16), (0, .inr (.inr 60)), (5, .inl x12), (6, .inl x13), (7, .inl x14)]) dX2_look_76 rfl rfl ?_
                refine S_iload dX2_look_78 rfl ?_
                refine S_iload dX2_look_80 rfl ?_
                refine S_jn (fun (K18 : Int → Option (Int × Mem)) => ∀ (x17 : Int), Sim cX2_look 9 RX2 (9) (some .int) wI 92 [(0, .inr (.inr 60)), (6, .inl x13), (7, .inl x14), (8, .inl x16)] [.inl x17] μ7 (K18 x17)) ?_ (fun K18 hK18 => ?_)
                · intro x17
                  refine S_istore (lv' := [(5, .inl x17), (0, .inr (.inr 60)), (6, .inl x13), (7, .inl x14), (8, .inl x16)]) dX2_look_92 rfl rfl ?_
                  refine S_iload dX2_look_94 rfl ?_
                  refine S_iload dX2_look_96 rfl ?_
                  refine S_jn (fun (K20 : Int → Option (Int × Mem)) => ∀ (x19 : Int), Sim cX2_look 9 RX2 (9) (some .int) wI 108 [(0, .inr (.inr 60)), (5, .inl x17), (7, .inl x14)] [.inl x19] μ7 (K20 x19)) ?_ (fun K20 hK20 => ?_)
                  · intro x19
                    refine S_istore (lv' := [(6, .inl x19), (0, .inr (.inr 60)), (5, .inl x17), (7, .inl x14)]) dX2_look_108 rfl rfl ?_
                    refine S_iinc (lv' := fun x21 => [(7, .inl x21), (6, .inl x19), (0, .inr (.inr 60)), (5, .inl x17)]) dX2_look_110 rfl rfl rfl (fun _ => rfl) (fun x21 => ?_)
                    refine S_goto (tgt := 63) dX2_look_113 (by decide) ?_
                    exact S_sub [2, 3, 1, 0] rfl (ih x17 x19 x21)
                  refine S_ic_ge (tgt := 106) dX2_look_98 (by decide) (fun h22 => ?_) (fun h22 => ?_)
                  · refine S_iload dX2_look_106 rfl ?_
                    exact S_sub [1, 0, 3] rfl (hK20 x13)
                  · refine S_iload dX2_look_101 rfl ?_
                    refine S_goto (tgt := 108) dX2_look_103 (by decide) ?_
                    exact S_sub [1, 0, 3] rfl (hK20 x16)
                refine S_ic_ge (tgt := 90) dX2_look_82 (by decide) (fun h23 => ?_) (fun h23 => ?_)
                · refine S_iload dX2_look_90 rfl ?_
                  exact S_sub [1, 3, 4, 0] rfl (hK18 x12)
                · refine S_iload dX2_look_85 rfl ?_
                  refine S_goto (tgt := 92) dX2_look_87 (by decide) ?_
                  exact S_sub [1, 3, 4, 0] rfl (hK18 x14)
          exact S_sub [5, 2, 1, 0] rfl (hL63 fuel (-9) 99999 1)
        · refine S_bipush dX2_look_42 rfl (by decide) ?_
          exact S_iret dX2_look_44 rfl rfl
      · refine S_iload_n dX2_look_27 rfl ?_
        exact S_iret dX2_look_28 rfl rfl
    · refine S_iconst dX2_look_15 rfl ?_
      exact S_iret dX2_look_16 rfl rfl
def fX2_daringOf_L4 (μ : Mem) (p1 : Int) : Nat → Int → Int → Option Int
  | 0, _, _ => none
  | n3 + 1, x1, x2 =>
    if (μ 60 1) ≤ x2 then
      some x1
    else
      (fX2_has p1 x2 μ).bind fun x4 =>
      mlet (fun (x5 : Int) =>
        mlet ((w32 (x1 + x5))) fun x7 =>
        mlet (w32 (x2 + 1)) fun x8 =>
        fX2_daringOf_L4 μ p1 n3 x7 x8
        ) fun (K6 : Int → Option Int) =>
      if x4 = 0 then
        K6 0
      else
        grd (0 ≤ (w32 (9 + x2)) ∧ (w32 (9 + x2)) < 3305) <|
        K6 (μ 61 ((w32 (9 + x2))).toNat)
def fX2_daringOf (p1 : Int) (μ : Mem) : Option Int :=
  fX2_daringOf_L4 μ p1 fuel 0 0
theorem K_X2_daringOf  (p1 : Int)  (μ : Mem) : Con yX2_daringOf cX2_daringOf 4 (some .int) 3 [.inr (.inr 60), .inl p1] μ (fX2_daringOf p1 μ) (rI μ) := by
  refine con_of (own := RX2) (by decide) rfl (Nat.le_of_ble_eq_true rfl) ?_
  show Sim cX2_daringOf 4 RX2 (3) (some .int) (rI μ) 0 [(0, .inr (.inr 60)), (1, .inl p1)] [] μ (fX2_daringOf p1 μ)
  unfold fX2_daringOf
  refine S_iconst dX2_daringOf_0 rfl ?_
  refine S_istore_n (lv' := [(2, .inl 0), (0, .inr (.inr 60)), (1, .inl p1)]) dX2_daringOf_1 rfl rfl ?_
  refine S_iconst dX2_daringOf_2 rfl ?_
  refine S_istore_n (lv' := [(3, .inl 0), (2, .inl 0), (0, .inr (.inr 60)), (1, .inl p1)]) dX2_daringOf_3 rfl rfl ?_
  have hL4 : ∀ (n3 : Nat) (x1 : Int) (x2 : Int), Sim cX2_daringOf 4 RX2 (3) (some .int) (rI μ) 4 [(0, .inr (.inr 60)), (1, .inl p1), (2, .inl x1), (3, .inl x2)] [] μ (fX2_daringOf_L4 μ p1 n3 x1 x2) := by
    intro n3
    induction n3 with
    | zero =>
      intro x1 x2
      exact S_none rfl
    | succ n3 ih =>
      intro x1 x2
      rw [fX2_daringOf_L4]
      refine S_iload_n dX2_daringOf_4 rfl ?_
      refine S_aload_n dX2_daringOf_5 rfl ?_
      refine S_getI dX2_daringOf_6 rfl fl_X2_136 rfl rfl ?_
      refine S_ic_ge (tgt := 42) dX2_daringOf_9 (by decide) (fun h10 => ?_) (fun h10 => ?_)
      · refine S_iload_n dX2_daringOf_42 rfl ?_
        exact S_iret dX2_daringOf_43 rfl rfl
      · refine S_iload_n dX2_daringOf_12 rfl ?_
        refine S_iload_n dX2_daringOf_13 rfl ?_
        refine S_iload_n dX2_daringOf_14 rfl ?_
        refine S_callS_I dX2_daringOf_15 [.inl p1, .inl x2] (K_X2_has p1 x2 μ) l_X2_149 yo_X2_has rfl rfl rfl (fun x4 => ?_)
        refine S_jn (fun (K6 : Int → Option Int) => ∀ (x5 : Int), Sim cX2_daringOf 4 RX2 (3) (some .int) (rI μ) 34 [(0, .inr (.inr 60)), (1, .inl p1), (3, .inl x2)] [.inl x5, .inl x1] μ (K6 x5)) ?_ (fun K6 hK6 => ?_)
        · intro x5
          refine S_iadd dX2_daringOf_34 ?_
          refine S_let (fun x7 => ?_)
          refine S_istore_n (lv' := [(2, .inl x7), (0, .inr (.inr 60)), (1, .inl p1), (3, .inl x2)]) dX2_daringOf_35 rfl rfl ?_
          refine S_iinc (lv' := fun x8 => [(3, .inl x8), (2, .inl x7), (0, .inr (.inr 60)), (1, .inl p1)]) dX2_daringOf_36 rfl rfl rfl (fun _ => rfl) (fun x8 => ?_)
          refine S_goto (tgt := 4) dX2_daringOf_39 (by decide) ?_
          exact S_sub [2, 3, 1, 0] rfl (ih x7 x8)
        refine S_if_eq (tgt := 33) dX2_daringOf_18 (by decide) (fun h9 => ?_) (fun h9 => ?_)
        · refine S_iconst dX2_daringOf_33 rfl ?_
          exact S_sub [0, 1, 3] rfl (hK6 0)
        · refine S_aload_n dX2_daringOf_21 rfl ?_
          refine S_getR (c1 := 61) dX2_daringOf_22 rfl fl_X2_7 rfl rfl rfl ?_
          refine S_bipush dX2_daringOf_25 rfl (by decide) ?_
          refine S_iload_n dX2_daringOf_27 rfl ?_
          refine S_iadd dX2_daringOf_28 ?_
          refine S_iald (N := 3305) dX2_daringOf_29 rfl (by decide) rfl ?_
          refine S_goto (tgt := 34) dX2_daringOf_30 (by decide) ?_
          exact S_sub [0, 1, 3] rfl (hK6 (μ 61 ((w32 (9 + x2))).toNat))
  exact S_sub [2, 3, 1, 0] rfl (hL4 fuel 0 0)
def fX2_noSets (p1 : Int) (μ : Mem) : Option Int :=
  (fX2_in p1 0 120 μ).bind fun x1 =>
  if ¬ x1 = 0 then
    if ¬ (μ 60 1) = 0 then
      some 0
    else
      some (-4)
  else
    some (-1)
theorem K_X2_noSets  (p1 : Int)  (μ : Mem) : Con yX2_noSets cX2_noSets 2 (some .int) 3 [.inr (.inr 60), .inl p1] μ (fX2_noSets p1 μ) (rI μ) := by
  refine con_of (own := RX2) (by decide) rfl (Nat.le_of_ble_eq_true rfl) ?_
  show Sim cX2_noSets 2 RX2 (3) (some .int) (rI μ) 0 [(0, .inr (.inr 60)), (1, .inl p1)] [] μ (fX2_noSets p1 μ)
  unfold fX2_noSets
  refine S_iload_n dX2_noSets_0 rfl ?_
  refine S_i2l dX2_noSets_1 ?_
  refine S_lconst (n := 0) dX2_noSets_2 (by decide) rfl ?_
  refine S_ldc2 dX2_noSets_3 rfl k_X2_231 ?_
  refine S_callS_I dX2_noSets_6 [.inr (.inl p1), .inr (.inl 0), .inr (.inl 120)] (K_X2_in p1 0 120 μ) l_X2_59 yo_X2_in rfl rfl rfl (fun x1 => ?_)
  refine S_if_ne (tgt := 16) dX2_noSets_9 (by decide) (fun h3 => ?_) (fun h3 => ?_)
  · refine S_aload_n dX2_noSets_16 rfl ?_
    refine S_getI dX2_noSets_17 rfl fl_X2_136 rfl rfl ?_
    refine S_if_ne (tgt := 28) dX2_noSets_20 (by decide) (fun h2 => ?_) (fun h2 => ?_)
    · refine S_iconst dX2_noSets_28 rfl ?_
      exact S_iret dX2_noSets_29 rfl rfl
    · refine S_bipush dX2_noSets_23 rfl (by decide) ?_
      refine S_goto (tgt := 29) dX2_noSets_25 (by decide) ?_
      exact S_iret dX2_noSets_29 rfl rfl
  · refine S_iconst dX2_noSets_12 rfl ?_
    refine S_goto (tgt := 29) dX2_noSets_13 (by decide) ?_
    exact S_iret dX2_noSets_29 rfl rfl
