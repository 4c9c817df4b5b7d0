theorem dX2_sets_0 : decode cX2_sets 0 = .ok (.aload_n 0, 1) := by decide +kernel
theorem dX2_sets_1 : decode cX2_sets 1 = .ok (.iload_n 1, 1) := by decide +kernel
theorem dX2_sets_2 : decode cX2_sets 2 = .ok (.invokevirtual 233, 3) := by decide +kernel
theorem dX2_sets_5 : decode cX2_sets 5 = .ok (.istore_n 2, 1) := by decide +kernel
theorem dX2_sets_6 : decode cX2_sets 6 = .ok (.iload_n 2, 1) := by decide +kernel
theorem dX2_sets_7 : decode cX2_sets 7 = .ok (.ifCond .eq 5, 3) := by decide +kernel
theorem dX2_sets_10 : decode cX2_sets 10 = .ok (.iload_n 2, 1) := by decide +kernel
theorem dX2_sets_11 : decode cX2_sets 11 = .ok (.ireturn, 1) := by decide +kernel
theorem dX2_sets_12 : decode cX2_sets 12 = .ok (.iconst 0, 1) := by decide +kernel
theorem dX2_sets_13 : decode cX2_sets 13 = .ok (.istore_n 3, 1) := by decide +kernel
theorem dX2_sets_14 : decode cX2_sets 14 = .ok (.aload_n 0, 1) := by decide +kernel
theorem dX2_sets_15 : decode cX2_sets 15 = .ok (.bipush (-9), 2) := by decide +kernel
theorem dX2_sets_17 : decode cX2_sets 17 = .ok (.putfield 54, 3) := by decide +kernel
theorem dX2_sets_20 : decode cX2_sets 20 = .ok (.iconst 1, 1) := by decide +kernel
theorem dX2_sets_21 : decode cX2_sets 21 = .ok (.aload_n 0, 1) := by decide +kernel
theorem dX2_sets_22 : decode cX2_sets 22 = .ok (.getfield 136, 3) := by decide +kernel
theorem dX2_sets_25 : decode cX2_sets 25 = .ok (.ishl, 1) := by decide +kernel
theorem dX2_sets_26 : decode cX2_sets 26 = .ok (.iconst 1, 1) := by decide +kernel
theorem dX2_sets_27 : decode cX2_sets 27 = .ok (.isub, 1) := by decide +kernel
theorem dX2_sets_28 : decode cX2_sets 28 = .ok (.istore 4, 2) := by decide +kernel
theorem dX2_sets_30 : decode cX2_sets 30 = .ok (.iload 4, 2) := by decide +kernel
theorem dX2_sets_32 : decode cX2_sets 32 = .ok (.ifCond .lt 57, 3) := by decide +kernel
theorem dX2_sets_35 : decode cX2_sets 35 = .ok (.aload_n 0, 1) := by decide +kernel
theorem dX2_sets_36 : decode cX2_sets 36 = .ok (.iload 4, 2) := by decide +kernel
theorem dX2_sets_38 : decode cX2_sets 38 = .ok (.invokevirtual 236, 3) := by decide +kernel
theorem dX2_sets_41 : decode cX2_sets 41 = .ok (.iload_n 1, 1) := by decide +kernel
theorem dX2_sets_42 : decode cX2_sets 42 = .ok (.if_icmp .ne 7, 3) := by decide +kernel
theorem dX2_sets_45 : decode cX2_sets 45 = .ok (.iconst 1, 1) := by decide +kernel
theorem dX2_sets_46 : decode cX2_sets 46 = .ok (.goto 4, 3) := by decide +kernel
theorem dX2_sets_49 : decode cX2_sets 49 = .ok (.iconst 0, 1) := by decide +kernel
theorem dX2_sets_50 : decode cX2_sets 50 = .ok (.istore 5, 2) := by decide +kernel
theorem dX2_sets_52 : decode cX2_sets 52 = .ok (.iload_n 3, 1) := by decide +kernel
theorem dX2_sets_53 : decode cX2_sets 53 = .ok (.iload 5, 2) := by decide +kernel
theorem dX2_sets_55 : decode cX2_sets 55 = .ok (.ifCond .eq 7, 3) := by decide +kernel
theorem dX2_sets_58 : decode cX2_sets 58 = .ok (.iconst 1, 1) := by decide +kernel
theorem dX2_sets_59 : decode cX2_sets 59 = .ok (.goto 4, 3) := by decide +kernel
theorem dX2_sets_62 : decode cX2_sets 62 = .ok (.iconst 0, 1) := by decide +kernel
theorem dX2_sets_63 : decode cX2_sets 63 = .ok (.iadd, 1) := by decide +kernel
theorem dX2_sets_64 : decode cX2_sets 64 = .ok (.istore_n 3, 1) := by decide +kernel
theorem dX2_sets_65 : decode cX2_sets 65 = .ok (.aload_n 0, 1) := by decide +kernel
theorem dX2_sets_66 : decode cX2_sets 66 = .ok (.iload 5, 2) := by decide +kernel
theorem dX2_sets_68 : decode cX2_sets 68 = .ok (.ifCond .eq 8, 3) := by decide +kernel
theorem dX2_sets_71 : decode cX2_sets 71 = .ok (.iload 4, 2) := by decide +kernel
theorem dX2_sets_73 : decode cX2_sets 73 = .ok (.goto 7, 3) := by decide +kernel
theorem dX2_sets_76 : decode cX2_sets 76 = .ok (.aload_n 0, 1) := by decide +kernel
theorem dX2_sets_77 : decode cX2_sets 77 = .ok (.getfield 54, 3) := by decide +kernel
theorem dX2_sets_80 : decode cX2_sets 80 = .ok (.putfield 54, 3) := by decide +kernel
theorem dX2_sets_83 : decode cX2_sets 83 = .ok (.iinc 4 (-1), 3) := by decide +kernel
theorem dX2_sets_86 : decode cX2_sets 86 = .ok (.goto (-56), 3) := by decide +kernel
theorem dX2_sets_89 : decode cX2_sets 89 = .ok (.aload_n 0, 1) := by decide +kernel
theorem dX2_sets_90 : decode cX2_sets 90 = .ok (.iload_n 3, 1) := by decide +kernel
theorem dX2_sets_91 : decode cX2_sets 91 = .ok (.i2l, 1) := by decide +kernel
theorem dX2_sets_92 : decode cX2_sets 92 = .ok (.putfield 239, 3) := by decide +kernel
theorem dX2_sets_95 : decode cX2_sets 95 = .ok (.aload_n 0, 1) := by decide +kernel
theorem dX2_sets_96 : decode cX2_sets 96 = .ok (.lconst 1, 1) := by decide +kernel
theorem dX2_sets_97 : decode cX2_sets 97 = .ok (.putfield 28, 3) := by decide +kernel
theorem dX2_sets_100 : decode cX2_sets 100 = .ok (.iconst 1, 1) := by decide +kernel
theorem dX2_sets_101 : decode cX2_sets 101 = .ok (.ireturn, 1) := by decide +kernel
theorem dX2_sure_0 : decode cX2_sure 0 = .ok (.aload_n 0, 1) := by decide +kernel
theorem dX2_sure_1 : decode cX2_sure 1 = .ok (.iload_n 1, 1) := by decide +kernel
theorem dX2_sure_2 : decode cX2_sure 2 = .ok (.invokevirtual 233, 3) := by decide +kernel
theorem dX2_sure_5 : decode cX2_sure 5 = .ok (.istore_n 2, 1) := by decide +kernel
theorem dX2_sure_6 : decode cX2_sure 6 = .ok (.iload_n 2, 1) := by decide +kernel
theorem dX2_sure_7 : decode cX2_sure 7 = .ok (.ifCond .eq 5, 3) := by decide +kernel
theorem dX2_sure_10 : decode cX2_sure 10 = .ok (.iload_n 2, 1) := by decide +kernel
theorem dX2_sure_11 : decode cX2_sure 11 = .ok (.ireturn, 1) := by decide +kernel
theorem dX2_sure_12 : decode cX2_sure 12 = .ok (.iconst 1, 1) := by decide +kernel
theorem dX2_sure_13 : decode cX2_sure 13 = .ok (.aload_n 0, 1) := by decide +kernel
theorem dX2_sure_14 : decode cX2_sure 14 = .ok (.getfield 136, 3) := by decide +kernel
theorem dX2_sure_17 : decode cX2_sure 17 = .ok (.ishl, 1) := by decide +kernel
theorem dX2_sure_18 : decode cX2_sure 18 = .ok (.iconst 1, 1) := by decide +kernel
theorem dX2_sure_19 : decode cX2_sure 19 = .ok (.isub, 1) := by decide +kernel
theorem dX2_sure_20 : decode cX2_sure 20 = .ok (.istore_n 3, 1) := by decide +kernel
theorem dX2_sure_21 : decode cX2_sure 21 = .ok (.iload_n 3, 1) := by decide +kernel
theorem dX2_sure_22 : decode cX2_sure 22 = .ok (.istore 4, 2) := by decide +kernel
theorem dX2_sure_24 : decode cX2_sure 24 = .ok (.iconst 0, 1) := by decide +kernel
theorem dX2_sure_25 : decode cX2_sure 25 = .ok (.istore 5, 2) := by decide +kernel
theorem dX2_sure_27 : decode cX2_sure 27 = .ok (.iconst 0, 1) := by decide +kernel
theorem dX2_sure_28 : decode cX2_sure 28 = .ok (.istore 6, 2) := by decide +kernel
theorem dX2_sure_30 : decode cX2_sure 30 = .ok (.iconst 0, 1) := by decide +kernel
theorem dX2_sure_31 : decode cX2_sure 31 = .ok (.istore 7, 2) := by decide +kernel
theorem dX2_sure_33 : decode cX2_sure 33 = .ok (.iload 7, 2) := by decide +kernel
theorem dX2_sure_35 : decode cX2_sure 35 = .ok (.iload_n 3, 1) := by decide +kernel
theorem dX2_sure_36 : decode cX2_sure 36 = .ok (.if_icmp .gt 36, 3) := by decide +kernel
theorem dX2_sure_39 : decode cX2_sure 39 = .ok (.aload_n 0, 1) := by decide +kernel
theorem dX2_sure_40 : decode cX2_sure 40 = .ok (.iload 7, 2) := by decide +kernel
theorem dX2_sure_42 : decode cX2_sure 42 = .ok (.invokevirtual 236, 3) := by decide +kernel
theorem dX2_sure_45 : decode cX2_sure 45 = .ok (.iload_n 1, 1) := by decide +kernel
theorem dX2_sure_46 : decode cX2_sure 46 = .ok (.if_icmp .ne 20, 3) := by decide +kernel
theorem dX2_sure_49 : decode cX2_sure 49 = .ok (.iconst 1, 1) := by decide +kernel
theorem dX2_sure_50 : decode cX2_sure 50 = .ok (.istore 6, 2) := by decide +kernel
theorem dX2_sure_52 : decode cX2_sure 52 = .ok (.iload 4, 2) := by decide +kernel
theorem dX2_sure_54 : decode cX2_sure 54 = .ok (.iload 7, 2) := by decide +kernel
theorem dX2_sure_56 : decode cX2_sure 56 = .ok (.iand, 1) := by decide +kernel
theorem dX2_sure_57 : decode cX2_sure 57 = .ok (.istore 4, 2) := by decide +kernel
theorem dX2_sure_59 : decode cX2_sure 59 = .ok (.iload 5, 2) := by decide +kernel
theorem dX2_sure_61 : decode cX2_sure 61 = .ok (.iload 7, 2) := by decide +kernel
theorem dX2_sure_63 : decode cX2_sure 63 = .ok (.ior, 1) := by decide +kernel
theorem dX2_sure_64 : decode cX2_sure 64 = .ok (.istore 5, 2) := by decide +kernel
theorem dX2_sure_66 : decode cX2_sure 66 = .ok (.iinc 7 1, 3) := by decide +kernel
theorem dX2_sure_69 : decode cX2_sure 69 = .ok (.goto (-36), 3) := by decide +kernel
theorem dX2_sure_72 : decode cX2_sure 72 = .ok (.iload 6, 2) := by decide +kernel
theorem dX2_sure_74 : decode cX2_sure 74 = .ok (.ifCond .ne 9, 3) := by decide +kernel
theorem dX2_sure_77 : decode cX2_sure 77 = .ok (.aload_n 0, 1) := by decide +kernel
theorem dX2_sure_78 : decode cX2_sure 78 = .ok (.iconst 4, 1) := by decide +kernel
theorem dX2_sure_79 : decode cX2_sure 79 = .ok (.invokevirtual 69, 3) := by decide +kernel
theorem dX2_sure_82 : decode cX2_sure 82 = .ok (.ireturn, 1) := by decide +kernel
theorem dX2_sure_83 : decode cX2_sure 83 = .ok (.aload_n 0, 1) := by decide +kernel
theorem dX2_sure_84 : decode cX2_sure 84 = .ok (.iload_n 3, 1) := by decide +kernel
theorem dX2_sure_85 : decode cX2_sure 85 = .ok (.iload 5, 2) := by decide +kernel
theorem dX2_sure_87 : decode cX2_sure 87 = .ok (.iconst (-1), 1) := by decide +kernel
theorem dX2_sure_88 : decode cX2_sure 88 = .ok (.ixor, 1) := by decide +kernel
theorem dX2_sure_89 : decode cX2_sure 89 = .ok (.iand, 1) := by decide +kernel
theorem dX2_sure_90 : decode cX2_sure 90 = .ok (.putfield 54, 3) := by decide +kernel
theorem dX2_sure_93 : decode cX2_sure 93 = .ok (.iload 4, 2) := by decide +kernel
theorem dX2_sure_95 : decode cX2_sure 95 = .ok (.ireturn, 1) := by decide +kernel
theorem dX2_daringRaised_0 : decode cX2_daringRaised 0 = .ok (.aload_n 0, 1) := by decide +kernel
theorem dX2_daringRaised_1 : decode cX2_daringRaised 1 = .ok (.getfield 7, 3) := by decide +kernel
theorem dX2_daringRaised_4 : decode cX2_daringRaised 4 = .ok (.bipush 9, 2) := by decide +kernel
theorem dX2_daringRaised_6 : decode cX2_daringRaised 6 = .ok (.iload_n 1, 1) := by decide +kernel
theorem dX2_daringRaised_7 : decode cX2_daringRaised 7 = .ok (.iadd, 1) := by decide +kernel
theorem dX2_daringRaised_8 : decode cX2_daringRaised 8 = .ok (.iaload, 1) := by decide +kernel
theorem dX2_daringRaised_9 : decode cX2_daringRaised 9 = .ok (.iload_n 2, 1) := by decide +kernel
theorem dX2_daringRaised_10 : decode cX2_daringRaised 10 = .ok (.iadd, 1) := by decide +kernel
theorem dX2_daringRaised_11 : decode cX2_daringRaised 11 = .ok (.ireturn, 1) := by decide +kernel
theorem dX2_comes_0 : decode cX2_comes 0 = .ok (.aload_n 0, 1) := by decide +kernel
theorem dX2_comes_1 : decode cX2_comes 1 = .ok (.invokevirtual 196, 3) := by decide +kernel
theorem dX2_comes_4 : decode cX2_comes 4 = .ok (.aload_n 0, 1) := by decide +kernel
theorem dX2_comes_5 : decode cX2_comes 5 = .ok (.getfield 7, 3) := by decide +kernel
theorem dX2_comes_8 : decode cX2_comes 8 = .ok (.sipush 3293, 3) := by decide +kernel
theorem dX2_comes_11 : decode cX2_comes 11 = .ok (.iload_n 1, 1) := by decide +kernel
theorem dX2_comes_12 : decode cX2_comes 12 = .ok (.iadd, 1) := by decide +kernel
theorem dX2_comes_13 : decode cX2_comes 13 = .ok (.aload_n 0, 1) := by decide +kernel
theorem dX2_comes_14 : decode cX2_comes 14 = .ok (.iload_n 1, 1) := by decide +kernel
theorem dX2_comes_15 : decode cX2_comes 15 = .ok (.iload_n 3, 1) := by decide +kernel
theorem dX2_comes_16 : decode cX2_comes 16 = .ok (.invokevirtual 242, 3) := by decide +kernel
theorem dX2_comes_19 : decode cX2_comes 19 = .ok (.bipush 20, 2) := by decide +kernel
theorem dX2_comes_21 : decode cX2_comes 21 = .ok (.if_icmp .le 8, 3) := by decide +kernel
theorem dX2_comes_24 : decode cX2_comes 24 = .ok (.bipush 20, 2) := by decide +kernel
theorem dX2_comes_26 : decode cX2_comes 26 = .ok (.goto 9, 3) := by decide +kernel
theorem dX2_comes_29 : decode cX2_comes 29 = .ok (.aload_n 0, 1) := by decide +kernel
theorem dX2_comes_30 : decode cX2_comes 30 = .ok (.iload_n 1, 1) := by decide +kernel
theorem dX2_comes_31 : decode cX2_comes 31 = .ok (.iload_n 3, 1) := by decide +kernel
theorem dX2_comes_32 : decode cX2_comes 32 = .ok (.invokevirtual 242, 3) := by decide +kernel
theorem dX2_comes_35 : decode cX2_comes 35 = .ok (.iastore, 1) := by decide +kernel
theorem dX2_comes_36 : decode cX2_comes 36 = .ok (.aload_n 0, 1) := by decide +kernel
theorem dX2_comes_37 : decode cX2_comes 37 = .ok (.getfield 7, 3) := by decide +kernel
theorem dX2_comes_40 : decode cX2_comes 40 = .ok (.sipush 3293, 3) := by decide +kernel
theorem dX2_comes_43 : decode cX2_comes 43 = .ok (.iload_n 2, 1) := by decide +kernel
theorem dX2_comes_44 : decode cX2_comes 44 = .ok (.iadd, 1) := by decide +kernel
theorem dX2_comes_45 : decode cX2_comes 45 = .ok (.aload_n 0, 1) := by decide +kernel
theorem dX2_comes_46 : decode cX2_comes 46 = .ok (.iload_n 2, 1) := by decide +kernel
theorem dX2_comes_47 : decode cX2_comes 47 = .ok (.iload 4, 2) := by decide +kernel
theorem dX2_comes_49 : decode cX2_comes 49 = .ok (.invokevirtual 242, 3) := by decide +kernel
theorem dX2_comes_52 : decode cX2_comes 52 = .ok (.bipush 20, 2) := by decide +kernel
theorem dX2_comes_54 : decode cX2_comes 54 = .ok (.if_icmp .le 8, 3) := by decide +kernel
theorem dX2_comes_57 : decode cX2_comes 57 = .ok (.bipush 20, 2) := by decide +kernel
theorem dX2_comes_59 : decode cX2_comes 59 = .ok (.goto 10, 3) := by decide +kernel
theorem dX2_comes_62 : decode cX2_comes 62 = .ok (.aload_n 0, 1) := by decide +kernel
theorem dX2_comes_63 : decode cX2_comes 63 = .ok (.iload_n 2, 1) := by decide +kernel
theorem dX2_comes_64 : decode cX2_comes 64 = .ok (.iload 4, 2) := by decide +kernel
theorem dX2_comes_66 : decode cX2_comes 66 = .ok (.invokevirtual 242, 3) := by decide +kernel
theorem dX2_comes_69 : decode cX2_comes 69 = .ok (.iastore, 1) := by decide +kernel
theorem dX2_comes_70 : decode cX2_comes 70 = .ok (.aload_n 0, 1) := by decide +kernel
theorem dX2_comes_71 : decode cX2_comes 71 = .ok (.sipush 3284, 3) := by decide +kernel
theorem dX2_comes_74 : decode cX2_comes 74 = .ok (.iconst 0, 1) := by decide +kernel
theorem dX2_comes_75 : decode cX2_comes 75 = .ok (.invokevirtual 156, 3) := by decide +kernel
theorem dX2_comes_78 : decode cX2_comes 78 = .ok (.istore 5, 2) := by decide +kernel
theorem dX2_comes_80 : decode cX2_comes 80 = .ok (.iload 5, 2) := by decide +kernel
theorem dX2_comes_82 : decode cX2_comes 82 = .ok (.iload_n 1, 1) := by decide +kernel
theorem dX2_comes_83 : decode cX2_comes 83 = .ok (.if_icmp .ne 7, 3) := by decide +kernel
theorem dX2_comes_86 : decode cX2_comes 86 = .ok (.iconst 1, 1) := by decide +kernel
theorem dX2_comes_87 : decode cX2_comes 87 = .ok (.goto 14, 3) := by decide +kernel
theorem dX2_comes_90 : decode cX2_comes 90 = .ok (.iload 5, 2) := by decide +kernel
theorem dX2_comes_92 : decode cX2_comes 92 = .ok (.iload_n 2, 1) := by decide +kernel
theorem dX2_comes_93 : decode cX2_comes 93 = .ok (.if_icmp .ne 7, 3) := by decide +kernel
theorem dX2_comes_96 : decode cX2_comes 96 = .ok (.iconst (-1), 1) := by decide +kernel
theorem dX2_comes_97 : decode cX2_comes 97 = .ok (.goto 4, 3) := by decide +kernel
theorem dX2_comes_100 : decode cX2_comes 100 = .ok (.iconst 0, 1) := by decide +kernel
theorem dX2_comes_101 : decode cX2_comes 101 = .ok (.ireturn, 1) := by decide +kernel
theorem dX2_duel_0 : decode cX2_duel 0 = .ok (.aload_n 0, 1) := by decide +kernel
theorem dX2_duel_1 : decode cX2_duel 1 = .ok (.iload_n 1, 1) := by decide +kernel
theorem dX2_duel_2 : decode cX2_duel 2 = .ok (.invokevirtual 162, 3) := by decide +kernel
theorem dX2_duel_5 : decode cX2_duel 5 = .ok (.ifCond .eq 28, 3) := by decide +kernel
theorem dX2_duel_8 : decode cX2_duel 8 = .ok (.aload_n 0, 1) := by decide +kernel
theorem dX2_duel_9 : decode cX2_duel 9 = .ok (.iload_n 2, 1) := by decide +kernel
theorem dX2_duel_10 : decode cX2_duel 10 = .ok (.invokevirtual 162, 3) := by decide +kernel
theorem dX2_duel_13 : decode cX2_duel 13 = .ok (.ifCond .eq 20, 3) := by decide +kernel
theorem dX2_duel_16 : decode cX2_duel 16 = .ok (.iload_n 1, 1) := by decide +kernel
theorem dX2_duel_17 : decode cX2_duel 17 = .ok (.iload_n 2, 1) := by decide +kernel
theorem dX2_duel_18 : decode cX2_duel 18 = .ok (.if_icmp .eq 15, 3) := by decide +kernel
theorem dX2_duel_21 : decode cX2_duel 21 = .ok (.iload_n 3, 1) := by decide +kernel
theorem dX2_duel_22 : decode cX2_duel 22 = .ok (.i2l, 1) := by decide +kernel
theorem dX2_duel_23 : decode cX2_duel 23 = .ok (.lconst 0, 1) := by decide +kernel
theorem dX2_duel_24 : decode cX2_duel 24 = .ok (.ldc2_w 63, 3) := by decide +kernel
theorem dX2_duel_27 : decode cX2_duel 27 = .ok (.invokestatic 59, 3) := by decide +kernel
theorem dX2_duel_30 : decode cX2_duel 30 = .ok (.ifCond .ne 5, 3) := by decide +kernel
theorem dX2_duel_33 : decode cX2_duel 33 = .ok (.iconst (-1), 1) := by decide +kernel
theorem dX2_duel_34 : decode cX2_duel 34 = .ok (.ireturn, 1) := by decide +kernel
theorem dX2_duel_35 : decode cX2_duel 35 = .ok (.iconst 0, 1) := by decide +kernel
theorem dX2_duel_36 : decode cX2_duel 36 = .ok (.istore 4, 2) := by decide +kernel
theorem dX2_duel_38 : decode cX2_duel 38 = .ok (.iload 4, 2) := by decide +kernel
theorem dX2_duel_40 : decode cX2_duel 40 = .ok (.bipush 49, 2) := by decide +kernel
theorem dX2_duel_42 : decode cX2_duel 42 = .ok (.if_icmp .ge 32, 3) := by decide +kernel
theorem dX2_duel_45 : decode cX2_duel 45 = .ok (.aload_n 0, 1) := by decide +kernel
theorem dX2_duel_46 : decode cX2_duel 46 = .ok (.getfield 47, 3) := by decide +kernel
theorem dX2_duel_49 : decode cX2_duel 49 = .ok (.iload 4, 2) := by decide +kernel
theorem dX2_duel_51 : decode cX2_duel 51 = .ok (.aload_n 0, 1) := by decide +kernel
theorem dX2_duel_52 : decode cX2_duel 52 = .ok (.iload_n 1, 1) := by decide +kernel
theorem dX2_duel_53 : decode cX2_duel 53 = .ok (.iload_n 2, 1) := by decide +kernel
theorem dX2_duel_54 : decode cX2_duel 54 = .ok (.iload 4, 2) := by decide +kernel
theorem dX2_duel_56 : decode cX2_duel 56 = .ok (.bipush 7, 2) := by decide +kernel
theorem dX2_duel_58 : decode cX2_duel 58 = .ok (.idiv, 1) := by decide +kernel
theorem dX2_duel_59 : decode cX2_duel 59 = .ok (.iload 4, 2) := by decide +kernel
theorem dX2_duel_61 : decode cX2_duel 61 = .ok (.bipush 7, 2) := by decide +kernel
theorem dX2_duel_63 : decode cX2_duel 63 = .ok (.irem, 1) := by decide +kernel
theorem dX2_duel_64 : decode cX2_duel 64 = .ok (.invokevirtual 245, 3) := by decide +kernel
theorem dX2_duel_67 : decode cX2_duel 67 = .ok (.iastore, 1) := by decide +kernel
theorem dX2_duel_68 : decode cX2_duel 68 = .ok (.iinc 4 1, 3) := by decide +kernel
theorem dX2_duel_71 : decode cX2_duel 71 = .ok (.goto (-33), 3) := by decide +kernel
theorem dX2_duel_74 : decode cX2_duel 74 = .ok (.iconst 2, 1) := by decide +kernel
theorem dX2_duel_75 : decode cX2_duel 75 = .ok (.iload_n 3, 1) := by decide +kernel
theorem dX2_duel_76 : decode cX2_duel 76 = .ok (.imul, 1) := by decide +kernel
theorem dX2_duel_77 : decode cX2_duel 77 = .ok (.iconst 1, 1) := by decide +kernel
theorem dX2_duel_78 : decode cX2_duel 78 = .ok (.isub, 1) := by decide +kernel
theorem dX2_duel_79 : decode cX2_duel 79 = .ok (.istore 4, 2) := by decide +kernel
theorem dX2_duel_81 : decode cX2_duel 81 = .ok (.iload 4, 2) := by decide +kernel
theorem dX2_duel_83 : decode cX2_duel 83 = .ok (.ifCond .lt 195, 3) := by decide +kernel
theorem dX2_duel_86 : decode cX2_duel 86 = .ok (.iload 4, 2) := by decide +kernel
theorem dX2_duel_88 : decode cX2_duel 88 = .ok (.iconst 2, 1) := by decide +kernel
theorem dX2_duel_89 : decode cX2_duel 89 = .ok (.irem, 1) := by decide +kernel
theorem dX2_duel_90 : decode cX2_duel 90 = .ok (.ifCond .ne 7, 3) := by decide +kernel
theorem dX2_duel_93 : decode cX2_duel 93 = .ok (.iload_n 1, 1) := by decide +kernel
theorem dX2_duel_94 : decode cX2_duel 94 = .ok (.goto 4, 3) := by decide +kernel
theorem dX2_duel_97 : decode cX2_duel 97 = .ok (.iload_n 2, 1) := by decide +kernel
theorem dX2_duel_98 : decode cX2_duel 98 = .ok (.istore 5, 2) := by decide +kernel
theorem dX2_duel_100 : decode cX2_duel 100 = .ok (.iload 4, 2) := by decide +kernel
theorem dX2_duel_102 : decode cX2_duel 102 = .ok (.iconst 2, 1) := by decide +kernel
theorem dX2_duel_103 : decode cX2_duel 103 = .ok (.irem, 1) := by decide +kernel
theorem dX2_duel_104 : decode cX2_duel 104 = .ok (.ifCond .ne 8, 3) := by decide +kernel
theorem dX2_duel_107 : decode cX2_duel 107 = .ok (.bipush 7, 2) := by decide +kernel
theorem dX2_duel_109 : decode cX2_duel 109 = .ok (.goto 4, 3) := by decide +kernel
theorem dX2_duel_112 : decode cX2_duel 112 = .ok (.iconst 1, 1) := by decide +kernel
theorem dX2_duel_113 : decode cX2_duel 113 = .ok (.istore 6, 2) := by decide +kernel
theorem dX2_duel_115 : decode cX2_duel 115 = .ok (.iconst 0, 1) := by decide +kernel
theorem dX2_duel_116 : decode cX2_duel 116 = .ok (.istore 7, 2) := by decide +kernel
theorem dX2_duel_118 : decode cX2_duel 118 = .ok (.iload 7, 2) := by decide +kernel
theorem dX2_duel_120 : decode cX2_duel 120 = .ok (.bipush 49, 2) := by decide +kernel
theorem dX2_duel_122 : decode cX2_duel 122 = .ok (.if_icmp .ge 150, 3) := by decide +kernel
theorem dX2_duel_125 : decode cX2_duel 125 = .ok (.iload 4, 2) := by decide +kernel
theorem dX2_duel_127 : decode cX2_duel 127 = .ok (.iconst 2, 1) := by decide +kernel
theorem dX2_duel_128 : decode cX2_duel 128 = .ok (.irem, 1) := by decide +kernel
theorem dX2_duel_129 : decode cX2_duel 129 = .ok (.ifCond .ne 11, 3) := by decide +kernel
theorem dX2_duel_132 : decode cX2_duel 132 = .ok (.iload 7, 2) := by decide +kernel
theorem dX2_duel_134 : decode cX2_duel 134 = .ok (.bipush 7, 2) := by decide +kernel
theorem dX2_duel_136 : decode cX2_duel 136 = .ok (.idiv, 1) := by decide +kernel
theorem dX2_duel_137 : decode cX2_duel 137 = .ok (.goto 8, 3) := by decide +kernel
theorem dX2_duel_140 : decode cX2_duel 140 = .ok (.iload 7, 2) := by decide +kernel
theorem dX2_duel_142 : decode cX2_duel 142 = .ok (.bipush 7, 2) := by decide +kernel
theorem dX2_duel_144 : decode cX2_duel 144 = .ok (.irem, 1) := by decide +kernel
theorem dX2_duel_145 : decode cX2_duel 145 = .ok (.istore 8, 2) := by decide +kernel
theorem dX2_duel_147 : decode cX2_duel 147 = .ok (.aload_n 0, 1) := by decide +kernel
theorem dX2_duel_148 : decode cX2_duel 148 = .ok (.getfield 47, 3) := by decide +kernel
theorem dX2_duel_151 : decode cX2_duel 151 = .ok (.iload 7, 2) := by decide +kernel
theorem dX2_duel_153 : decode cX2_duel 153 = .ok (.iaload, 1) := by decide +kernel
theorem dX2_duel_154 : decode cX2_duel 154 = .ok (.istore 9, 2) := by decide +kernel
theorem dX2_duel_156 : decode cX2_duel 156 = .ok (.iconst 1, 1) := by decide +kernel
theorem dX2_duel_157 : decode cX2_duel 157 = .ok (.istore 10, 2) := by decide +kernel
theorem dX2_duel_159 : decode cX2_duel 159 = .ok (.iload 10, 2) := by decide +kernel
theorem dX2_duel_161 : decode cX2_duel 161 = .ok (.iconst 3, 1) := by decide +kernel
theorem dX2_duel_162 : decode cX2_duel 162 = .ok (.if_icmp .ge 95, 3) := by decide +kernel
theorem dX2_duel_165 : decode cX2_duel 165 = .ok (.iload 8, 2) := by decide +kernel
theorem dX2_duel_167 : decode cX2_duel 167 = .ok (.iload 10, 2) := by decide +kernel
theorem dX2_duel_169 : decode cX2_duel 169 = .ok (.iadd, 1) := by decide +kernel
theorem dX2_duel_170 : decode cX2_duel 170 = .ok (.bipush 7, 2) := by decide +kernel
theorem dX2_duel_172 : decode cX2_duel 172 = .ok (.if_icmp .ge 85, 3) := by decide +kernel
theorem dX2_duel_175 : decode cX2_duel 175 = .ok (.aload_n 0, 1) := by decide +kernel
theorem dX2_duel_176 : decode cX2_duel 176 = .ok (.iload 5, 2) := by decide +kernel
theorem dX2_duel_178 : decode cX2_duel 178 = .ok (.iload 8, 2) := by decide +kernel
theorem dX2_duel_180 : decode cX2_duel 180 = .ok (.iload 10, 2) := by decide +kernel
theorem dX2_duel_182 : decode cX2_duel 182 = .ok (.iadd, 1) := by decide +kernel
theorem dX2_duel_183 : decode cX2_duel 183 = .ok (.invokevirtual 242, 3) := by decide +kernel
theorem dX2_duel_186 : decode cX2_duel 186 = .ok (.bipush 21, 2) := by decide +kernel
theorem dX2_duel_188 : decode cX2_duel 188 = .ok (.if_icmp .ge 19, 3) := by decide +kernel
theorem dX2_duel_191 : decode cX2_duel 191 = .ok (.aload_n 0, 1) := by decide +kernel
theorem dX2_duel_192 : decode cX2_duel 192 = .ok (.getfield 47, 3) := by decide +kernel
theorem dX2_duel_195 : decode cX2_duel 195 = .ok (.iload 7, 2) := by decide +kernel
theorem dX2_duel_197 : decode cX2_duel 197 = .ok (.iload 6, 2) := by decide +kernel
theorem dX2_duel_199 : decode cX2_duel 199 = .ok (.iload 10, 2) := by decide +kernel
theorem dX2_duel_201 : decode cX2_duel 201 = .ok (.imul, 1) := by decide +kernel
theorem dX2_duel_202 : decode cX2_duel 202 = .ok (.iadd, 1) := by decide +kernel
theorem dX2_duel_203 : decode cX2_duel 203 = .ok (.iaload, 1) := by decide +kernel
theorem dX2_duel_204 : decode cX2_duel 204 = .ok (.goto 5, 3) := by decide +kernel
theorem dX2_duel_207 : decode cX2_duel 207 = .ok (.iload 9, 2) := by decide +kernel
theorem dX2_duel_209 : decode cX2_duel 209 = .ok (.istore 11, 2) := by decide +kernel
theorem dX2_duel_211 : decode cX2_duel 211 = .ok (.iload 4, 2) := by decide +kernel
theorem dX2_duel_213 : decode cX2_duel 213 = .ok (.iconst 2, 1) := by decide +kernel
theorem dX2_duel_214 : decode cX2_duel 214 = .ok (.irem, 1) := by decide +kernel
theorem dX2_duel_215 : decode cX2_duel 215 = .ok (.ifCond .ne 20, 3) := by decide +kernel
theorem dX2_duel_218 : decode cX2_duel 218 = .ok (.iload 11, 2) := by decide +kernel
theorem dX2_duel_220 : decode cX2_duel 220 = .ok (.iload 9, 2) := by decide +kernel
theorem dX2_duel_222 : decode cX2_duel 222 = .ok (.if_icmp .le 8, 3) := by decide +kernel
theorem dX2_duel_225 : decode cX2_duel 225 = .ok (.iload 11, 2) := by decide +kernel
theorem dX2_duel_227 : decode cX2_duel 227 = .ok (.goto 22, 3) := by decide +kernel
theorem dX2_duel_230 : decode cX2_duel 230 = .ok (.iload 9, 2) := by decide +kernel
theorem dX2_duel_232 : decode cX2_duel 232 = .ok (.goto 17, 3) := by decide +kernel
theorem dX2_duel_235 : decode cX2_duel 235 = .ok (.iload 11, 2) := by decide +kernel
theorem dX2_duel_237 : decode cX2_duel 237 = .ok (.iload 9, 2) := by decide +kernel
theorem dX2_duel_239 : decode cX2_duel 239 = .ok (.if_icmp .ge 8, 3) := by decide +kernel
theorem dX2_duel_242 : decode cX2_duel 242 = .ok (.iload 11, 2) := by decide +kernel
theorem dX2_duel_244 : decode cX2_duel 244 = .ok (.goto 5, 3) := by decide +kernel
theorem dX2_duel_247 : decode cX2_duel 247 = .ok (.iload 9, 2) := by decide +kernel
theorem dX2_duel_249 : decode cX2_duel 249 = .ok (.istore 9, 2) := by decide +kernel
theorem dX2_duel_251 : decode cX2_duel 251 = .ok (.iinc 10 1, 3) := by decide +kernel
theorem dX2_duel_254 : decode cX2_duel 254 = .ok (.goto (-95), 3) := by decide +kernel
theorem dX2_duel_257 : decode cX2_duel 257 = .ok (.aload_n 0, 1) := by decide +kernel
theorem dX2_duel_258 : decode cX2_duel 258 = .ok (.getfield 47, 3) := by decide +kernel
theorem dX2_duel_261 : decode cX2_duel 261 = .ok (.iload 7, 2) := by decide +kernel
theorem dX2_duel_263 : decode cX2_duel 263 = .ok (.iload 9, 2) := by decide +kernel
theorem dX2_duel_265 : decode cX2_duel 265 = .ok (.iastore, 1) := by decide +kernel
theorem dX2_duel_266 : decode cX2_duel 266 = .ok (.iinc 7 1, 3) := by decide +kernel
theorem dX2_duel_269 : decode cX2_duel 269 = .ok (.goto (-151), 3) := by decide +kernel
theorem dX2_duel_272 : decode cX2_duel 272 = .ok (.iinc 4 (-1), 3) := by decide +kernel
theorem dX2_duel_275 : decode cX2_duel 275 = .ok (.goto (-194), 3) := by decide +kernel
theorem dX2_duel_278 : decode cX2_duel 278 = .ok (.aload_n 0, 1) := by decide +kernel
theorem dX2_duel_279 : decode cX2_duel 279 = .ok (.aload_n 0, 1) := by decide +kernel
theorem dX2_duel_280 : decode cX2_duel 280 = .ok (.getfield 47, 3) := by decide +kernel
theorem dX2_duel_283 : decode cX2_duel 283 = .ok (.iconst 0, 1) := by decide +kernel
theorem dX2_duel_284 : decode cX2_duel 284 = .ok (.iaload, 1) := by decide +kernel
theorem dX2_duel_285 : decode cX2_duel 285 = .ok (.putfield 54, 3) := by decide +kernel
theorem dX2_duel_288 : decode cX2_duel 288 = .ok (.iconst 1, 1) := by decide +kernel
theorem dX2_duel_289 : decode cX2_duel 289 = .ok (.ireturn, 1) := by decide +kernel
theorem dX2_tellParts_0 : decode cX2_tellParts 0 = .ok (.lload_n 1, 1) := by decide +kernel
theorem dX2_tellParts_1 : decode cX2_tellParts 1 = .ok (.lstore 5, 2) := by decide +kernel
theorem dX2_tellParts_3 : decode cX2_tellParts 3 = .ok (.lload_n 3, 1) := by decide +kernel
theorem dX2_tellParts_4 : decode cX2_tellParts 4 = .ok (.lstore 7, 2) := by decide +kernel
theorem dX2_tellParts_6 : decode cX2_tellParts 6 = .ok (.lload 7, 2) := by decide +kernel
theorem dX2_tellParts_8 : decode cX2_tellParts 8 = .ok (.lconst 0, 1) := by decide +kernel
theorem dX2_tellParts_9 : decode cX2_tellParts 9 = .ok (.lcmp, 1) := by decide +kernel
theorem dX2_tellParts_10 : decode cX2_tellParts 10 = .ok (.ifCond .eq 21, 3) := by decide +kernel
theorem dX2_tellParts_13 : decode cX2_tellParts 13 = .ok (.lload 5, 2) := by decide +kernel
theorem dX2_tellParts_15 : decode cX2_tellParts 15 = .ok (.lload 7, 2) := by decide +kernel
theorem dX2_tellParts_17 : decode cX2_tellParts 17 = .ok (.lrem, 1) := by decide +kernel
theorem dX2_tellParts_18 : decode cX2_tellParts 18 = .ok (.lstore 9, 2) := by decide +kernel
theorem dX2_tellParts_20 : decode cX2_tellParts 20 = .ok (.lload 7, 2) := by decide +kernel
theorem dX2_tellParts_22 : decode cX2_tellParts 22 = .ok (.lstore 5, 2) := by decide +kernel
theorem dX2_tellParts_24 : decode cX2_tellParts 24 = .ok (.lload 9, 2) := by decide +kernel
theorem dX2_tellParts_26 : decode cX2_tellParts 26 = .ok (.lstore 7, 2) := by decide +kernel
theorem dX2_tellParts_28 : decode cX2_tellParts 28 = .ok (.goto (-22), 3) := by decide +kernel
theorem dX2_tellParts_31 : decode cX2_tellParts 31 = .ok (.aload_n 0, 1) := by decide +kernel
theorem dX2_tellParts_32 : decode cX2_tellParts 32 = .ok (.lload_n 1, 1) := by decide +kernel
theorem dX2_tellParts_33 : decode cX2_tellParts 33 = .ok (.lload 5, 2) := by decide +kernel
theorem dX2_tellParts_35 : decode cX2_tellParts 35 = .ok (.ldiv, 1) := by decide +kernel
theorem dX2_tellParts_36 : decode cX2_tellParts 36 = .ok (.putfield 239, 3) := by decide +kernel
theorem dX2_tellParts_39 : decode cX2_tellParts 39 = .ok (.aload_n 0, 1) := by decide +kernel
theorem dX2_tellParts_40 : decode cX2_tellParts 40 = .ok (.lload_n 3, 1) := by decide +kernel
theorem dX2_tellParts_41 : decode cX2_tellParts 41 = .ok (.lload 5, 2) := by decide +kernel
theorem dX2_tellParts_43 : decode cX2_tellParts 43 = .ok (.ldiv, 1) := by decide +kernel
theorem dX2_tellParts_44 : decode cX2_tellParts 44 = .ok (.putfield 28, 3) := by decide +kernel
theorem dX2_tellParts_47 : decode cX2_tellParts 47 = .ok (.return_, 1) := by decide +kernel
theorem dX2_chancesOf_0 : decode cX2_chancesOf 0 = .ok (.lconst 1, 1) := by decide +kernel
theorem dX2_chancesOf_1 : decode cX2_chancesOf 1 = .ok (.lstore_n 3, 1) := by decide +kernel
theorem dX2_chancesOf_2 : decode cX2_chancesOf 2 = .ok (.iconst 0, 1) := by decide +kernel
theorem dX2_chancesOf_3 : decode cX2_chancesOf 3 = .ok (.istore 5, 2) := by decide +kernel
theorem dX2_chancesOf_5 : decode cX2_chancesOf 5 = .ok (.iload 5, 2) := by decide +kernel
theorem dX2_chancesOf_7 : decode cX2_chancesOf 7 = .ok (.aload_n 0, 1) := by decide +kernel
theorem dX2_chancesOf_8 : decode cX2_chancesOf 8 = .ok (.getfield 136, 3) := by decide +kernel
theorem dX2_chancesOf_11 : decode cX2_chancesOf 11 = .ok (.if_icmp .ge 31, 3) := by decide +kernel
theorem dX2_chancesOf_14 : decode cX2_chancesOf 14 = .ok (.lload_n 3, 1) := by decide +kernel
theorem dX2_chancesOf_15 : decode cX2_chancesOf 15 = .ok (.iload_n 1, 1) := by decide +kernel
theorem dX2_chancesOf_16 : decode cX2_chancesOf 16 = .ok (.iload 5, 2) := by decide +kernel
theorem dX2_chancesOf_18 : decode cX2_chancesOf 18 = .ok (.invokestatic 149, 3) := by decide +kernel
theorem dX2_chancesOf_21 : decode cX2_chancesOf 21 = .ok (.ifCond .eq 8, 3) := by decide +kernel
theorem dX2_chancesOf_24 : decode cX2_chancesOf 24 = .ok (.iload_n 2, 1) := by decide +kernel
theorem dX2_chancesOf_25 : decode cX2_chancesOf 25 = .ok (.i2l, 1) := by decide +kernel
theorem dX2_chancesOf_26 : decode cX2_chancesOf 26 = .ok (.goto 8, 3) := by decide +kernel
theorem dX2_chancesOf_29 : decode cX2_chancesOf 29 = .ok (.bipush 12, 2) := by decide +kernel
theorem dX2_chancesOf_31 : decode cX2_chancesOf 31 = .ok (.iload_n 2, 1) := by decide +kernel
theorem dX2_chancesOf_32 : decode cX2_chancesOf 32 = .ok (.isub, 1) := by decide +kernel
theorem dX2_chancesOf_33 : decode cX2_chancesOf 33 = .ok (.i2l, 1) := by decide +kernel
theorem dX2_chancesOf_34 : decode cX2_chancesOf 34 = .ok (.lmul, 1) := by decide +kernel
theorem dX2_chancesOf_35 : decode cX2_chancesOf 35 = .ok (.lstore_n 3, 1) := by decide +kernel
theorem dX2_chancesOf_36 : decode cX2_chancesOf 36 = .ok (.iinc 5 1, 3) := by decide +kernel
theorem dX2_chancesOf_39 : decode cX2_chancesOf 39 = .ok (.goto (-34), 3) := by decide +kernel
theorem dX2_chancesOf_42 : decode cX2_chancesOf 42 = .ok (.lload_n 3, 1) := by decide +kernel
theorem dX2_chancesOf_43 : decode cX2_chancesOf 43 = .ok (.lreturn, 1) := by decide +kernel
theorem dX2_odds_0 : decode cX2_odds 0 = .ok (.aload_n 0, 1) := by decide +kernel
theorem dX2_odds_1 : decode cX2_odds 1 = .ok (.iload_n 1, 1) := by decide +kernel
theorem dX2_odds_2 : decode cX2_odds 2 = .ok (.invokevirtual 162, 3) := by decide +kernel
theorem dX2_odds_5 : decode cX2_odds 5 = .ok (.ifCond .eq 15, 3) := by decide +kernel
theorem dX2_odds_8 : decode cX2_odds 8 = .ok (.iload_n 2, 1) := by decide +kernel
theorem dX2_odds_9 : decode cX2_odds 9 = .ok (.i2l, 1) := by decide +kernel
theorem dX2_odds_10 : decode cX2_odds 10 = .ok (.lconst 0, 1) := by decide +kernel
theorem dX2_odds_11 : decode cX2_odds 11 = .ok (.ldc2_w 248, 3) := by decide +kernel
theorem dX2_odds_14 : decode cX2_odds 14 = .ok (.invokestatic 59, 3) := by decide +kernel
theorem dX2_odds_17 : decode cX2_odds 17 = .ok (.ifCond .ne 5, 3) := by decide +kernel
theorem dX2_odds_20 : decode cX2_odds 20 = .ok (.iconst (-1), 1) := by decide +kernel
theorem dX2_odds_21 : decode cX2_odds 21 = .ok (.ireturn, 1) := by decide +kernel
theorem dX2_odds_22 : decode cX2_odds 22 = .ok (.lconst 0, 1) := by decide +kernel
theorem dX2_odds_23 : decode cX2_odds 23 = .ok (.lstore_n 3, 1) := by decide +kernel
theorem dX2_odds_24 : decode cX2_odds 24 = .ok (.lconst 0, 1) := by decide +kernel
theorem dX2_odds_25 : decode cX2_odds 25 = .ok (.lstore 5, 2) := by decide +kernel
theorem dX2_odds_27 : decode cX2_odds 27 = .ok (.iconst 0, 1) := by decide +kernel
theorem dX2_odds_28 : decode cX2_odds 28 = .ok (.istore 7, 2) := by decide +kernel
theorem dX2_odds_30 : decode cX2_odds 30 = .ok (.iload 7, 2) := by decide +kernel
theorem dX2_odds_32 : decode cX2_odds 32 = .ok (.iconst 1, 1) := by decide +kernel
theorem dX2_odds_33 : decode cX2_odds 33 = .ok (.aload_n 0, 1) := by decide +kernel
theorem dX2_odds_34 : decode cX2_odds 34 = .ok (.getfield 136, 3) := by decide +kernel
theorem dX2_odds_37 : decode cX2_odds 37 = .ok (.ishl, 1) := by decide +kernel
theorem dX2_odds_38 : decode cX2_odds 38 = .ok (.if_icmp .ge 45, 3) := by decide +kernel
theorem dX2_odds_41 : decode cX2_odds 41 = .ok (.aload_n 0, 1) := by decide +kernel
theorem dX2_odds_42 : decode cX2_odds 42 = .ok (.iload 7, 2) := by decide +kernel
theorem dX2_odds_44 : decode cX2_odds 44 = .ok (.iload_n 2, 1) := by decide +kernel
theorem dX2_odds_45 : decode cX2_odds 45 = .ok (.invokevirtual 250, 3) := by decide +kernel
theorem dX2_odds_48 : decode cX2_odds 48 = .ok (.lstore 8, 2) := by decide +kernel
theorem dX2_odds_50 : decode cX2_odds 50 = .ok (.lload_n 3, 1) := by decide +kernel
theorem dX2_odds_51 : decode cX2_odds 51 = .ok (.aload_n 0, 1) := by decide +kernel
theorem dX2_odds_52 : decode cX2_odds 52 = .ok (.iconst 0, 1) := by decide +kernel
theorem dX2_odds_53 : decode cX2_odds 53 = .ok (.iload 7, 2) := by decide +kernel
theorem dX2_odds_55 : decode cX2_odds 55 = .ok (.invokevirtual 156, 3) := by decide +kernel
theorem dX2_odds_58 : decode cX2_odds 58 = .ok (.iload_n 1, 1) := by decide +kernel
theorem dX2_odds_59 : decode cX2_odds 59 = .ok (.if_icmp .ne 8, 3) := by decide +kernel
theorem dX2_odds_62 : decode cX2_odds 62 = .ok (.lload 8, 2) := by decide +kernel
theorem dX2_odds_64 : decode cX2_odds 64 = .ok (.goto 4, 3) := by decide +kernel
theorem dX2_odds_67 : decode cX2_odds 67 = .ok (.lconst 0, 1) := by decide +kernel
theorem dX2_odds_68 : decode cX2_odds 68 = .ok (.ladd, 1) := by decide +kernel
theorem dX2_odds_69 : decode cX2_odds 69 = .ok (.lstore_n 3, 1) := by decide +kernel
theorem dX2_odds_70 : decode cX2_odds 70 = .ok (.lload 5, 2) := by decide +kernel
theorem dX2_odds_72 : decode cX2_odds 72 = .ok (.lload 8, 2) := by decide +kernel
theorem dX2_odds_74 : decode cX2_odds 74 = .ok (.ladd, 1) := by decide +kernel
theorem dX2_odds_75 : decode cX2_odds 75 = .ok (.lstore 5, 2) := by decide +kernel
theorem dX2_odds_77 : decode cX2_odds 77 = .ok (.iinc 7 1, 3) := by decide +kernel
theorem dX2_odds_80 : decode cX2_odds 80 = .ok (.goto (-50), 3) := by decide +kernel
theorem dX2_odds_83 : decode cX2_odds 83 = .ok (.aload_n 0, 1) := by decide +kernel
theorem dX2_odds_84 : decode cX2_odds 84 = .ok (.lload_n 3, 1) := by decide +kernel
theorem dX2_odds_85 : decode cX2_odds 85 = .ok (.lload 5, 2) := by decide +kernel
theorem dX2_odds_87 : decode cX2_odds 87 = .ok (.invokevirtual 254, 3) := by decide +kernel
theorem dX2_odds_90 : decode cX2_odds 90 = .ok (.iconst 1, 1) := by decide +kernel
theorem dX2_odds_91 : decode cX2_odds 91 = .ok (.ireturn, 1) := by decide +kernel
theorem mt_X2_noSets : (Cond.instanceMethod yX2_noSets ∈ gd_tbl ∧ Cond.selects yX2_noSets.cls yX2_noSets yX2_noSets ∈ gd_tbl) ∧ Cond.initialized yX2_noSets.cls ∈ gd_tbl ∧ Cond.code yX2_noSets cX2_noSets 2 (some .int) ∈ gd_tbl := ⟨⟨in_gd (i := 969) (by decide +kernel) rfl, in_gd (i := 71) (by decide +kernel) rfl⟩, in_gd (i := 87) (by decide +kernel) rfl, in_gd (i := 970) (by decide +kernel) rfl⟩
theorem yo_X2_noSets : yOk yX2_noSets 1 := ⟨by decide, by decide, by decide +kernel⟩
theorem l_X2_233 : mlV RX2 233 yX2_noSets cX2_noSets 2 (some .int) := ⟨in_gd (i := 967) (by decide +kernel) rfl, mt_X2_noSets⟩
theorem fl_X2_239 : FLk RX2 239 2 8 := Or.inl (in_gd (i := 621) (by decide +kernel) rfl)
theorem fl_X2_28 : FLk RX2 28 2 9 := Or.inl (in_gd (i := 622) (by decide +kernel) rfl)
theorem mt_X2_daringOf : (Cond.instanceMethod yX2_daringOf ∈ gd_tbl ∧ Cond.selects yX2_daringOf.cls yX2_daringOf yX2_daringOf ∈ gd_tbl) ∧ Cond.initialized yX2_daringOf.cls ∈ gd_tbl ∧ Cond.code yX2_daringOf cX2_daringOf 4 (some .int) ∈ gd_tbl := ⟨⟨in_gd (i := 974) (by decide +kernel) rfl, in_gd (i := 72) (by decide +kernel) rfl⟩, in_gd (i := 87) (by decide +kernel) rfl, in_gd (i := 975) (by decide +kernel) rfl⟩
theorem yo_X2_daringOf : yOk yX2_daringOf 1 := ⟨by decide, by decide, by decide +kernel⟩
theorem l_X2_236 : mlV RX2 236 yX2_daringOf cX2_daringOf 4 (some .int) := ⟨in_gd (i := 972) (by decide +kernel) rfl, mt_X2_daringOf⟩
theorem mt_X2_daringRaised : (Cond.instanceMethod yX2_daringRaised ∈ gd_tbl ∧ Cond.selects yX2_daringRaised.cls yX2_daringRaised yX2_daringRaised ∈ gd_tbl) ∧ Cond.initialized yX2_daringRaised.cls ∈ gd_tbl ∧ Cond.code yX2_daringRaised cX2_daringRaised 3 (some .int) ∈ gd_tbl := ⟨⟨in_gd (i := 990) (by decide +kernel) rfl, in_gd (i := 74) (by decide +kernel) rfl⟩, in_gd (i := 87) (by decide +kernel) rfl, in_gd (i := 991) (by decide +kernel) rfl⟩
theorem yo_X2_daringRaised : yOk yX2_daringRaised 2 := ⟨by decide, by decide, by decide +kernel⟩
theorem l_X2_242 : mlV RX2 242 yX2_daringRaised cX2_daringRaised 3 (some .int) := ⟨in_gd (i := 988) (by decide +kernel) rfl, mt_X2_daringRaised⟩
theorem fl_X2_47 : FLk RX2 47 2 21 := Or.inl (in_gd (i := 634) (by decide +kernel) rfl)
theorem mt_X2_comes : (Cond.instanceMethod yX2_comes ∈ gd_tbl ∧ Cond.selects yX2_comes.cls yX2_comes yX2_comes ∈ gd_tbl) ∧ Cond.initialized yX2_comes.cls ∈ gd_tbl ∧ Cond.code yX2_comes cX2_comes 6 (some .int) ∈ gd_tbl := ⟨⟨in_gd (i := 986) (by decide +kernel) rfl, in_gd (i := 73) (by decide +kernel) rfl⟩, in_gd (i := 87) (by decide +kernel) rfl, in_gd (i := 987) (by decide +kernel) rfl⟩
theorem yo_X2_comes : yOk yX2_comes 4 := ⟨by decide, by decide, by decide +kernel⟩
theorem l_X2_245 : mlV RX2 245 yX2_comes cX2_comes 6 (some .int) := ⟨in_gd (i := 984) (by decide +kernel) rfl, mt_X2_comes⟩
theorem k_X2_248 : Cond.constantLong RX2 248 (Int64.ofInt 12) ∈ gd_tbl := in_gd (i := 996) (by decide +kernel) rfl
theorem mt_X2_tellParts : (Cond.instanceMethod yX2_tellParts ∈ gd_tbl ∧ Cond.selects yX2_tellParts.cls yX2_tellParts yX2_tellParts ∈ gd_tbl) ∧ Cond.initialized yX2_tellParts.cls ∈ gd_tbl ∧ Cond.code yX2_tellParts cX2_tellParts 11 (none) ∈ gd_tbl := ⟨⟨in_gd (i := 1003) (by decide +kernel) rfl, in_gd (i := 76) (by decide +kernel) rfl⟩, in_gd (i := 87) (by decide +kernel) rfl, in_gd (i := 1004) (by decide +kernel) rfl⟩
theorem yo_X2_tellParts : yOk yX2_tellParts 2 := ⟨by decide, by decide, by decide +kernel⟩
theorem l_X2_254 : mlV RX2 254 yX2_tellParts cX2_tellParts 11 (none) := ⟨in_gd (i := 1001) (by decide +kernel) rfl, mt_X2_tellParts⟩
theorem mt_X2_chancesOf : (Cond.instanceMethod yX2_chancesOf ∈ gd_tbl ∧ Cond.selects yX2_chancesOf.cls yX2_chancesOf yX2_chancesOf ∈ gd_tbl) ∧ Cond.initialized yX2_chancesOf.cls ∈ gd_tbl ∧ Cond.code yX2_chancesOf cX2_chancesOf 6 (some .long) ∈ gd_tbl := ⟨⟨in_gd (i := 999) (by decide +kernel) rfl, in_gd (i := 75) (by decide +kernel) rfl⟩, in_gd (i := 87) (by decide +kernel) rfl, in_gd (i := 1000) (by decide +kernel) rfl⟩
theorem yo_X2_chancesOf : yOk yX2_chancesOf 2 := ⟨by decide, by decide, by decide +kernel⟩
theorem l_X2_250 : mlV RX2 250 yX2_chancesOf cX2_chancesOf 6 (some .long) := ⟨in_gd (i := 997) (by decide +kernel) rfl, mt_X2_chancesOf⟩
def fX2_sets_L30 (K6 : Int → Mem → Option (Int × Mem)) (p1 : Int) : Nat → Int → Int → Mem → Option (Int × Mem)
  | 0, _, _, _ => none
  | n12 + 1, x9, x10, μ11 =>
    if x10 < 0 then
      K6 x9 μ11
    else
      (fX2_daringOf x10 μ11).bind fun x13 =>
      mlet (fun (x14 : Int) =>
        mlet (fun (x16 : Int) =>
          mlet ((w32 (x9 + x16))) fun x18 =>
          mlet (fun (x19 : Int) =>
            mlet (wr μ11 60 7 x19) fun μ21 =>
            mlet (w32 (x10 + (-1))) fun x22 =>
            fX2_sets_L30 K6 p1 n12 x18 x22 μ21
            ) fun (K20 : Int → Option (Int × Mem)) =>
          if x14 = 0 then
            K20 (μ11 60 7)
          else
            K20 x10
          ) fun (K17 : Int → Option (Int × Mem)) =>
        if x14 = 0 then
          K17 0
        else
          K17 1
        ) fun (K15 : Int → Option (Int × Mem)) =>
      if ¬ x13 = p1 then
        K15 0
      else
        K15 1
def fX2_sets (p1 : Int) (μ : Mem) : Option (Int × Mem) :=
  (fX2_noSets p1 μ).bind fun x1 =>
  if x1 = 0 then
    mlet (wr μ 60 7 (-9)) fun μ2 =>
    mlet ((w32 ((bshl 1 (μ2 60 1)) - 1))) fun x3 =>
    mlet (fun (x4 : Int) (μ5 : Mem) =>
      mlet (wr μ5 60 8 x4) fun μ7 =>
      mlet (wr μ7 60 9 1) fun μ8 =>
      some (1, μ8)
      ) fun (K6 : Int → Mem → Option (Int × Mem)) =>
    fX2_sets_L30 K6 p1 fuel 0 x3 μ2
  else
    some (x1, μ)
theorem K_X2_sets  (p1 : Int)  (μ : Mem) : Con yX2_sets cX2_sets 6 (some .int) 4 [.inr (.inr 60), .inl p1] μ (fX2_sets p1 μ) wI := by
  refine con_of (own := RX2) (by decide) rfl (Nat.le_of_ble_eq_true rfl) ?_
  show Sim cX2_sets 6 RX2 (4) (some .int) wI 0 [(0, .inr (.inr 60)), (1, .inl p1)] [] μ (fX2_sets p1 μ)
  unfold fX2_sets
  refine S_aload_n dX2_sets_0 rfl ?_
  refine S_iload_n dX2_sets_1 rfl ?_
  refine S_callV_I dX2_sets_2 [.inl p1] (K_X2_noSets p1 μ) l_X2_233 yo_X2_noSets rfl rfl rfl rfl rfl (fun x1 => ?_)
  refine S_istore_n (lv' := [(2, .inl x1), (0, .inr (.inr 60)), (1, .inl p1)]) dX2_sets_5 rfl rfl ?_
  refine S_iload_n dX2_sets_6 rfl ?_
  refine S_if_eq (tgt := 12) dX2_sets_7 (by decide) (fun h27 => ?_) (fun h27 => ?_)
  · refine S_iconst dX2_sets_12 rfl ?_
    refine S_istore_n (lv' := [(3, .inl 0), (2, .inl x1), (0, .inr (.inr 60)), (1, .inl p1)]) dX2_sets_13 rfl rfl ?_
    refine S_aload_n dX2_sets_14 rfl ?_
    refine S_bipush dX2_sets_15 rfl (by decide) ?_
    refine S_putI dX2_sets_17 rfl fl_X2_54 rfl rfl rfl rfl (fun μ2 => ?_)
    refine S_iconst dX2_sets_20 rfl ?_
    refine S_aload_n dX2_sets_21 rfl ?_
    refine S_getI dX2_sets_22 rfl fl_X2_136 rfl rfl ?_
    refine S_ishl dX2_sets_25 ?_
    refine S_iconst dX2_sets_26 rfl ?_
    refine S_isub dX2_sets_27 ?_
    refine S_let (fun x3 => ?_)
    refine S_istore (lv' := [(4, .inl x3), (3, .inl 0), (2, .inl x1), (0, .inr (.inr 60)), (1, .inl p1)]) dX2_sets_28 rfl rfl ?_
    refine S_jn (fun (K6 : Int → Mem → Option (Int × Mem)) => ∀ (x4 : Int) (μ5 : Mem), Sim cX2_sets 6 RX2 (4) (some .int) wI 89 [(0, .inr (.inr 60)), (3, .inl x4)] [] μ5 (K6 x4 μ5)) ?_ (fun K6 hK6 => ?_)
    · intro x4 μ5
      refine S_aload_n dX2_sets_89 rfl ?_
      refine S_iload_n dX2_sets_90 rfl ?_
      refine S_i2l dX2_sets_91 ?_
      refine S_putL dX2_sets_92 rfl fl_X2_239 rfl rfl rfl rfl (fun μ7 => ?_)
      refine S_aload_n dX2_sets_95 rfl ?_
      refine S_lconst (n := 1) dX2_sets_96 (by decide) rfl ?_
      refine S_putL dX2_sets_97 rfl fl_X2_28 rfl rfl rfl rfl (fun μ8 => ?_)
      refine S_iconst dX2_sets_100 rfl ?_
      exact S_iret dX2_sets_101 rfl rfl
    have hL30 : ∀ (n12 : Nat) (x9 : Int) (x10 : Int) (μ11 : Mem), Sim cX2_sets 6 RX2 (4) (some .int) wI 30 [(0, .inr (.inr 60)), (1, .inl p1), (3, .inl x9), (4, .inl x10)] [] μ11 (fX2_sets_L30 K6 p1 n12 x9 x10 μ11) := by
      intro n12
      induction n12 with
      | zero =>
        intro x9 x10 μ11
        exact S_none rfl
      | succ n12 ih =>
        intro x9 x10 μ11
        rw [fX2_sets_L30]
        refine S_iload dX2_sets_30 rfl ?_
        refine S_if_lt (tgt := 89) dX2_sets_32 (by decide) (fun h26 => ?_) (fun h26 => ?_)
        · exact S_sub [0, 2] rfl (hK6 x9 μ11)
        · refine S_aload_n dX2_sets_35 rfl ?_
          refine S_iload dX2_sets_36 rfl ?_
          refine S_callV_I dX2_sets_38 [.inl x10] (K_X2_daringOf x10 μ11) l_X2_236 yo_X2_daringOf rfl rfl rfl rfl rfl (fun x13 => ?_)
          refine S_iload_n dX2_sets_41 rfl ?_
          refine S_jn (fun (K15 : Int → Option (Int × Mem)) => ∀ (x14 : Int), Sim cX2_sets 6 RX2 (4) (some .int) wI 50 [(0, .inr (.inr 60)), (1, .inl p1), (3, .inl x9), (4, .inl x10)] [.inl x14] μ11 (K15 x14)) ?_ (fun K15 hK15 => ?_)
          · intro x14
            refine S_istore (lv' := [(5, .inl x14), (0, .inr (.inr 60)), (1, .inl p1), (3, .inl x9), (4, .inl x10)]) dX2_sets_50 rfl rfl ?_
            refine S_iload_n dX2_sets_52 rfl ?_
            refine S_iload dX2_sets_53 rfl ?_
            refine S_jn (fun (K17 : Int → Option (Int × Mem)) => ∀ (x16 : Int), Sim cX2_sets 6 RX2 (4) (some .int) wI 63 [(0, .inr (.inr 60)), (1, .inl p1), (4, .inl x10), (5, .inl x14)] [.inl x16, .inl x9] μ11 (K17 x16)) ?_ (fun K17 hK17 => ?_)
            · intro x16
              refine S_iadd dX2_sets_63 ?_
              refine S_let (fun x18 => ?_)
              refine S_istore_n (lv' := [(3, .inl x18), (0, .inr (.inr 60)), (1, .inl p1), (4, .inl x10), (5, .inl x14)]) dX2_sets_64 rfl rfl ?_
              refine S_aload_n dX2_sets_65 rfl ?_
              refine S_iload dX2_sets_66 rfl ?_
              refine S_jn (fun (K20 : Int → Option (Int × Mem)) => ∀ (x19 : Int), Sim cX2_sets 6 RX2 (4) (some .int) wI 80 [(0, .inr (.inr 60)), (1, .inl p1), (3, .inl x18), (4, .inl x10)] [.inl x19, .inr (.inr 60)] μ11 (K20 x19)) ?_ (fun K20 hK20 => ?_)
              · intro x19
                refine S_putI dX2_sets_80 rfl fl_X2_54 rfl rfl rfl rfl (fun μ21 => ?_)
                refine S_iinc (lv' := fun x22 => [(4, .inl x22), (0, .inr (.inr 60)), (1, .inl p1), (3, .inl x18)]) dX2_sets_83 rfl rfl rfl (fun _ => rfl) (fun x22 => ?_)
                refine S_goto (tgt := 30) dX2_sets_86 (by decide) ?_
                exact S_sub [1, 2, 3, 0] rfl (ih x18 x22 μ21)
              refine S_if_eq (tgt := 76) dX2_sets_68 (by decide) (fun h23 => ?_) (fun h23 => ?_)
              · refine S_aload_n dX2_sets_76 rfl ?_
                refine S_getI dX2_sets_77 rfl fl_X2_54 rfl rfl ?_
                exact S_sub [1, 2, 0, 3] rfl (hK20 (μ11 60 7))
              · refine S_iload dX2_sets_71 rfl ?_
                refine S_goto (tgt := 80) dX2_sets_73 (by decide) ?_
                exact S_sub [1, 2, 0, 3] rfl (hK20 x10)
            refine S_if_eq (tgt := 62) dX2_sets_55 (by decide) (fun h24 => ?_) (fun h24 => ?_)
            · refine S_iconst dX2_sets_62 rfl ?_
              exact S_sub [1, 2, 4, 0] rfl (hK17 0)
            · refine S_iconst dX2_sets_58 rfl ?_
              refine S_goto (tgt := 63) dX2_sets_59 (by decide) ?_
              exact S_sub [1, 2, 4, 0] rfl (hK17 1)
          refine S_ic_ne (tgt := 49) dX2_sets_42 (by decide) (fun h25 => ?_) (fun h25 => ?_)
          · refine S_iconst dX2_sets_49 rfl ?_
            exact S_sub [0, 1, 2, 3] rfl (hK15 0)
          · refine S_iconst dX2_sets_45 rfl ?_
            refine S_goto (tgt := 50) dX2_sets_46 (by decide) ?_
            exact S_sub [0, 1, 2, 3] rfl (hK15 1)
    exact S_sub [3, 4, 1, 0] rfl (hL30 fuel 0 x3 μ2)
  · refine S_iload_n dX2_sets_10 rfl ?_
    exact S_iret dX2_sets_11 rfl rfl
def fX2_sure_L33 (x2 : Int) (K6 : Int → Int → Int → Option (Int × Mem)) (μ : Mem) (p1 : Int) : Nat → Int → Int → Int → Int → Option (Int × Mem)
  | 0, _, _, _, _ => none
  | n15 + 1, x11, x12, x13, x14 =>
    if x2 < x14 then
      K6 x11 x12 x13
    else
      (fX2_daringOf x14 μ).bind fun x16 =>
      mlet (fun (x17 : Int) (x18 : Int) (x19 : Int) =>
        mlet (w32 (x14 + 1)) fun x21 =>
        fX2_sure_L33 x2 K6 μ p1 n15 x17 x18 x19 x21
        ) fun (K20 : Int → Int → Int → Option (Int × Mem)) =>
      if ¬ x16 = p1 then
        K20 x11 x12 x13
      else
        mlet ((band x11 x14)) fun x22 =>
        mlet ((bor x12 x14)) fun x23 =>
        K20 x22 x23 1
def fX2_sure (p1 : Int) (μ : Mem) : Option (Int × Mem) :=
  (fX2_noSets p1 μ).bind fun x1 =>
  if x1 = 0 then
    mlet ((w32 ((bshl 1 (μ 60 1)) - 1))) fun x2 =>
    mlet (fun (x3 : Int) (x4 : Int) (x5 : Int) =>
      if ¬ x5 = 0 then
        mlet (wr μ 60 7 (band x2 (bxor x4 (-1)))) fun μ7 =>
        some (x3, μ7)
      else
        bnd2 (fX2_find 4 μ) fun x8 μ9 =>
        some (x8, μ9)
      ) fun (K6 : Int → Int → Int → Option (Int × Mem)) =>
    fX2_sure_L33 x2 K6 μ p1 fuel x2 0 0 0
  else
    some (x1, μ)
theorem K_X2_sure  (p1 : Int)  (μ : Mem) : Con yX2_sure cX2_sure 8 (some .int) 4 [.inr (.inr 60), .inl p1] μ (fX2_sure p1 μ) wI := by
  refine con_of (own := RX2) (by decide) rfl (Nat.le_of_ble_eq_true rfl) ?_
  show Sim cX2_sure 8 RX2 (4) (some .int) wI 0 [(0, .inr (.inr 60)), (1, .inl p1)] [] μ (fX2_sure p1 μ)
  unfold fX2_sure
  refine S_aload_n dX2_sure_0 rfl ?_
  refine S_iload_n dX2_sure_1 rfl ?_
  refine S_callV_I dX2_sure_2 [.inl p1] (K_X2_noSets p1 μ) l_X2_233 yo_X2_noSets rfl rfl rfl rfl rfl (fun x1 => ?_)
  refine S_istore_n (lv' := [(2, .inl x1), (0, .inr (.inr 60)), (1, .inl p1)]) dX2_sure_5 rfl rfl ?_
  refine S_iload_n dX2_sure_6 rfl ?_
  refine S_if_eq (tgt := 12) dX2_sure_7 (by decide) (fun h26 => ?_) (fun h26 => ?_)
  · refine S_iconst dX2_sure_12 rfl ?_
    refine S_aload_n dX2_sure_13 rfl ?_
    refine S_getI dX2_sure_14 rfl fl_X2_136 rfl rfl ?_
    refine S_ishl dX2_sure_17 ?_
    refine S_iconst dX2_sure_18 rfl ?_
    refine S_isub dX2_sure_19 ?_
    refine S_let (fun x2 => ?_)
    refine S_istore_n (lv' := [(3, .inl x2), (2, .inl x1), (0, .inr (.inr 60)), (1, .inl p1)]) dX2_sure_20 rfl rfl ?_
    refine S_iload_n dX2_sure_21 rfl ?_
    refine S_istore (lv' := [(4, .inl x2), (3, .inl x2), (2, .inl x1), (0, .inr (.inr 60)), (1, .inl p1)]) dX2_sure_22 rfl rfl ?_
    refine S_iconst dX2_sure_24 rfl ?_
    refine S_istore (lv' := [(5, .inl 0), (4, .inl x2), (3, .inl x2), (2, .inl x1), (0, .inr (.inr 60)), (1, .inl p1)]) dX2_sure_25 rfl rfl ?_
    refine S_iconst dX2_sure_27 rfl ?_
    refine S_istore (lv' := [(6, .inl 0), (5, .inl 0), (4, .inl x2), (3, .inl x2), (2, .inl x1), (0, .inr (.inr 60)), (1, .inl p1)]) dX2_sure_28 rfl rfl ?_
    refine S_iconst dX2_sure_30 rfl ?_
    refine S_istore (lv' := [(7, .inl 0), (6, .inl 0), (5, .inl 0), (4, .inl x2), (3, .inl x2), (2, .inl x1), (0, .inr (.inr 60)), (1, .inl p1)]) dX2_sure_31 rfl rfl ?_
    refine S_jn (fun (K6 : Int → Int → Int → Option (Int × Mem)) => ∀ (x3 : Int) (x4 : Int) (x5 : Int), Sim cX2_sure 8 RX2 (4) (some .int) wI 72 [(0, .inr (.inr 60)), (3, .inl x2), (4, .inl x3), (5, .inl x4), (6, .inl x5)] [] μ (K6 x3 x4 x5)) ?_ (fun K6 hK6 => ?_)
    · intro x3 x4 x5
      refine S_iload dX2_sure_72 rfl ?_
      refine S_if_ne (tgt := 83) dX2_sure_74 (by decide) (fun h10 => ?_) (fun h10 => ?_)
      · refine S_aload_n dX2_sure_83 rfl ?_
        refine S_iload_n dX2_sure_84 rfl ?_
        refine S_iload dX2_sure_85 rfl ?_
        refine S_iconst dX2_sure_87 rfl ?_
        refine S_ixor dX2_sure_88 ?_
        refine S_iand dX2_sure_89 ?_
        refine S_putI dX2_sure_90 rfl fl_X2_54 rfl rfl rfl rfl (fun μ7 => ?_)
        refine S_iload dX2_sure_93 rfl ?_
        exact S_iret dX2_sure_95 rfl rfl
      · refine S_aload_n dX2_sure_77 rfl ?_
        refine S_iconst dX2_sure_78 rfl ?_
        refine S_callV_M2 dX2_sure_79 [.inl 4] (K_X2_find 4 μ) l_X2_69 yo_X2_find rfl rfl rfl rfl rfl (fun x8 μ9 => ?_)
        exact S_iret dX2_sure_82 rfl rfl
    have hL33 : ∀ (n15 : Nat) (x11 : Int) (x12 : Int) (x13 : Int) (x14 : Int), Sim cX2_sure 8 RX2 (4) (some .int) wI 33 [(0, .inr (.inr 60)), (1, .inl p1), (3, .inl x2), (4, .inl x11), (5, .inl x12), (6, .inl x13), (7, .inl x14)] [] μ (fX2_sure_L33 x2 K6 μ p1 n15 x11 x12 x13 x14) := by
      intro n15
      induction n15 with
      | zero =>
        intro x11 x12 x13 x14
        exact S_none rfl
      | succ n15 ih =>
        intro x11 x12 x13 x14
        rw [fX2_sure_L33]
        refine S_iload dX2_sure_33 rfl ?_
        refine S_iload_n dX2_sure_35 rfl ?_
        refine S_ic_gt (tgt := 72) dX2_sure_36 (by decide) (fun h25 => ?_) (fun h25 => ?_)
        · exact S_sub [0, 2, 3, 4, 5] rfl (hK6 x11 x12 x13)
        · refine S_aload_n dX2_sure_39 rfl ?_
          refine S_iload dX2_sure_40 rfl ?_
          refine S_callV_I dX2_sure_42 [.inl x14] (K_X2_daringOf x14 μ) l_X2_236 yo_X2_daringOf rfl rfl rfl rfl rfl (fun x16 => ?_)
          refine S_iload_n dX2_sure_45 rfl ?_
          refine S_jn (fun (K20 : Int → Int → Int → Option (Int × Mem)) => ∀ (x17 : Int) (x18 : Int) (x19 : Int), Sim cX2_sure 8 RX2 (4) (some .int) wI 66 [(0, .inr (.inr 60)), (1, .inl p1), (3, .inl x2), (4, .inl x17), (5, .inl x18), (6, .inl x19), (7, .inl x14)] [] μ (K20 x17 x18 x19)) ?_ (fun K20 hK20 => ?_)
          · intro x17 x18 x19
            refine S_iinc (lv' := fun x21 => [(7, .inl x21), (0, .inr (.inr 60)), (1, .inl p1), (3, .inl x2), (4, .inl x17), (5, .inl x18), (6, .inl x19)]) dX2_sure_66 rfl rfl rfl (fun _ => rfl) (fun x21 => ?_)
            refine S_goto (tgt := 33) dX2_sure_69 (by decide) ?_
            exact S_sub [1, 2, 3, 4, 5, 6, 0] rfl (ih x17 x18 x19 x21)
          refine S_ic_ne (tgt := 66) dX2_sure_46 (by decide) (fun h24 => ?_) (fun h24 => ?_)
          · exact S_sub [0, 1, 2, 3, 4, 5, 6] rfl (hK20 x11 x12 x13)
          · refine S_iconst dX2_sure_49 rfl ?_
            refine S_istore (lv' := [(6, .inl 1), (0, .inr (.inr 60)), (1, .inl p1), (3, .inl x2), (4, .inl x11), (5, .inl x12), (7, .inl x14)]) dX2_sure_50 rfl rfl ?_
            refine S_iload dX2_sure_52 rfl ?_
            refine S_iload dX2_sure_54 rfl ?_
            refine S_iand dX2_sure_56 ?_
            refine S_let (fun x22 => ?_)
            refine S_istore (lv' := [(4, .inl x22), (6, .inl 1), (0, .inr (.inr 60)), (1, .inl p1), (3, .inl x2), (5, .inl x12), (7, .inl x14)]) dX2_sure_57 rfl rfl ?_
            refine S_iload dX2_sure_59 rfl ?_
            refine S_iload dX2_sure_61 rfl ?_
            refine S_ior dX2_sure_63 ?_
            refine S_let (fun x23 => ?_)
            refine S_istore (lv' := [(5, .inl x23), (4, .inl x22), (6, .inl 1), (0, .inr (.inr 60)), (1, .inl p1), (3, .inl x2), (7, .inl x14)]) dX2_sure_64 rfl rfl ?_
            exact S_sub [3, 4, 5, 1, 0, 2, 6] rfl (hK20 x22 x23 1)
    exact S_sub [6, 7, 4, 3, 2, 1, 0] rfl (hL33 fuel x2 0 0 0)
  · refine S_iload_n dX2_sure_10 rfl ?_
    exact S_iret dX2_sure_11 rfl rfl
def fX2_daringRaised (p1 : Int) (p2 : Int) (μ : Mem) : Option Int :=
  grd (0 ≤ (w32 (9 + p1)) ∧ (w32 (9 + p1)) < 3305) <|
  some (w32 ((μ 61 ((w32 (9 + p1))).toNat) + p2))
theorem K_X2_daringRaised  (p1 : Int) (p2 : Int)  (μ : Mem) : Con yX2_daringRaised cX2_daringRaised 3 (some .int) 2 [.inr (.inr 60), .inl p1, .inl p2] μ (fX2_daringRaised p1 p2 μ) (rI μ) := by
  refine con_of (own := RX2) (by decide) rfl (Nat.le_of_ble_eq_true rfl) ?_
  show Sim cX2_daringRaised 3 RX2 (2) (some .int) (rI μ) 0 [(0, .inr (.inr 60)), (1, .inl p1), (2, .inl p2)] [] μ (fX2_daringRaised p1 p2 μ)
  unfold fX2_daringRaised
  refine S_aload_n dX2_daringRaised_0 rfl ?_
  refine S_getR (c1 := 61) dX2_daringRaised_1 rfl fl_X2_7 rfl rfl rfl ?_
  refine S_bipush dX2_daringRaised_4 rfl (by decide) ?_
  refine S_iload_n dX2_daringRaised_6 rfl ?_
  refine S_iadd dX2_daringRaised_7 ?_
  refine S_iald (N := 3305) dX2_daringRaised_8 rfl (by decide) rfl ?_
  refine S_iload_n dX2_daringRaised_9 rfl ?_
  refine S_iadd dX2_daringRaised_10 ?_
  exact S_iret dX2_daringRaised_11 rfl rfl
def fX2_comes (p1 : Int) (p2 : Int) (p3 : Int) (p4 : Int) (μ : Mem) : Option (Int × Mem) :=
  (fX2_layTried μ).bind fun μ1 =>
  (fX2_daringRaised p1 p3 μ1).bind fun x2 =>
  mlet (fun (x3 : Int) =>
    grd (0 ≤ (w32 (3293 + p1)) ∧ (w32 (3293 + p1)) < 3305) <|
    mlet (wr μ1 61 ((w32 (3293 + p1))).toNat x3) fun μ5 =>
    (fX2_daringRaised p2 p4 μ5).bind fun x6 =>
    mlet (fun (x7 : Int) =>
      grd (0 ≤ (w32 (3293 + p2)) ∧ (w32 (3293 + p2)) < 3305) <|
      mlet (wr μ5 61 ((w32 (3293 + p2))).toNat x7) fun μ9 =>
      (fX2_boldest 3284 0 μ9).bind fun x10 =>
      if ¬ x10 = p1 then
        if ¬ x10 = p2 then
          some (0, μ9)
        else
          some ((-1), μ9)
      else
        some (1, μ9)
      ) fun (K8 : Int → Option (Int × Mem)) =>
    if x6 ≤ 20 then
      (fX2_daringRaised p2 p4 μ5).bind fun x13 =>
      K8 x13
    else
      K8 20
    ) fun (K4 : Int → Option (Int × Mem)) =>
  if x2 ≤ 20 then
    (fX2_daringRaised p1 p3 μ1).bind fun x15 =>
    K4 x15
  else
    K4 20
theorem K_X2_comes  (p1 : Int) (p2 : Int) (p3 : Int) (p4 : Int)  (μ : Mem) : Con yX2_comes cX2_comes 6 (some .int) 6 [.inr (.inr 60), .inl p1, .inl p2, .inl p3, .inl p4] μ (fX2_comes p1 p2 p3 p4 μ) wI := by
  refine con_of (own := RX2) (by decide) rfl (Nat.le_of_ble_eq_true rfl) ?_
  show Sim cX2_comes 6 RX2 (6) (some .int) wI 0 [(0, .inr (.inr 60)), (1, .inl p1), (2, .inl p2), (3, .inl p3), (4, .inl p4)] [] μ (fX2_comes p1 p2 p3 p4 μ)
  unfold fX2_comes
  refine S_aload_n dX2_comes_0 rfl ?_
  refine S_callV_V dX2_comes_1 [] (K_X2_layTried μ) l_X2_196 yo_X2_layTried rfl rfl rfl rfl rfl (fun μ1 => ?_)
  refine S_aload_n dX2_comes_4 rfl ?_
  refine S_getR (c1 := 61) dX2_comes_5 rfl fl_X2_7 rfl rfl rfl ?_
  refine S_sipush dX2_comes_8 rfl (by decide) ?_
  refine S_iload_n dX2_comes_11 rfl ?_
  refine S_iadd dX2_comes_12 ?_
  refine S_aload_n dX2_comes_13 rfl ?_
  refine S_iload_n dX2_comes_14 rfl ?_
  refine S_iload_n dX2_comes_15 rfl ?_
  refine S_callV_I dX2_comes_16 [.inl p1, .inl p3] (K_X2_daringRaised p1 p3 μ1) l_X2_242 yo_X2_daringRaised rfl rfl rfl rfl rfl (fun x2 => ?_)
  refine S_bipush dX2_comes_19 rfl (by decide) ?_
  refine S_jn (fun (K4 : Int → Option (Int × Mem)) => ∀ (x3 : Int), Sim cX2_comes 6 RX2 (6) (some .int) wI 35 [(0, .inr (.inr 60)), (1, .inl p1), (2, .inl p2), (4, .inl p4)] [.inl x3, .inl (w32 (3293 + p1)), .inr (.inr 61)] μ1 (K4 x3)) ?_ (fun K4 hK4 => ?_)
  · intro x3
    refine S_iast (N := 3305) dX2_comes_35 rfl (by decide) rfl (fun μ5 => ?_)
    refine S_aload_n dX2_comes_36 rfl ?_
    refine S_getR (c1 := 61) dX2_comes_37 rfl fl_X2_7 rfl rfl rfl ?_
    refine S_sipush dX2_comes_40 rfl (by decide) ?_
    refine S_iload_n dX2_comes_43 rfl ?_
    refine S_iadd dX2_comes_44 ?_
    refine S_aload_n dX2_comes_45 rfl ?_
    refine S_iload_n dX2_comes_46 rfl ?_
    refine S_iload dX2_comes_47 rfl ?_
    refine S_callV_I dX2_comes_49 [.inl p2, .inl p4] (K_X2_daringRaised p2 p4 μ5) l_X2_242 yo_X2_daringRaised rfl rfl rfl rfl rfl (fun x6 => ?_)
    refine S_bipush dX2_comes_52 rfl (by decide) ?_
    refine S_jn (fun (K8 : Int → Option (Int × Mem)) => ∀ (x7 : Int), Sim cX2_comes 6 RX2 (6) (some .int) wI 69 [(0, .inr (.inr 60)), (1, .inl p1), (2, .inl p2)] [.inl x7, .inl (w32 (3293 + p2)), .inr (.inr 61)] μ5 (K8 x7)) ?_ (fun K8 hK8 => ?_)
    · intro x7
      refine S_iast (N := 3305) dX2_comes_69 rfl (by decide) rfl (fun μ9 => ?_)
      refine S_aload_n dX2_comes_70 rfl ?_
      refine S_sipush dX2_comes_71 rfl (by decide) ?_
      refine S_iconst dX2_comes_74 rfl ?_
      refine S_callV_I dX2_comes_75 [.inl 3284, .inl 0] (K_X2_boldest 3284 0 μ9) l_X2_156 yo_X2_boldest rfl rfl rfl rfl rfl (fun x10 => ?_)
      refine S_istore (lv' := [(5, .inl x10), (0, .inr (.inr 60)), (1, .inl p1), (2, .inl p2)]) dX2_comes_78 rfl rfl ?_
      refine S_iload dX2_comes_80 rfl ?_
      refine S_iload_n dX2_comes_82 rfl ?_
      refine S_ic_ne (tgt := 90) dX2_comes_83 (by decide) (fun h12 => ?_) (fun h12 => ?_)
      · refine S_iload dX2_comes_90 rfl ?_
        refine S_iload_n dX2_comes_92 rfl ?_
        refine S_ic_ne (tgt := 100) dX2_comes_93 (by decide) (fun h11 => ?_) (fun h11 => ?_)
        · refine S_iconst dX2_comes_100 rfl ?_
          exact S_iret dX2_comes_101 rfl rfl
        · refine S_iconst dX2_comes_96 rfl ?_
          refine S_goto (tgt := 101) dX2_comes_97 (by decide) ?_
          exact S_iret dX2_comes_101 rfl rfl
      · refine S_iconst dX2_comes_86 rfl ?_
        refine S_goto (tgt := 101) dX2_comes_87 (by decide) ?_
        exact S_iret dX2_comes_101 rfl rfl
    refine S_ic_le (tgt := 62) dX2_comes_54 (by decide) (fun h14 => ?_) (fun h14 => ?_)
    · refine S_aload_n dX2_comes_62 rfl ?_
      refine S_iload_n dX2_comes_63 rfl ?_
      refine S_iload dX2_comes_64 rfl ?_
      refine S_callV_I dX2_comes_66 [.inl p2, .inl p4] (K_X2_daringRaised p2 p4 μ5) l_X2_242 yo_X2_daringRaised rfl rfl rfl rfl rfl (fun x13 => ?_)
      exact S_sub [0, 1, 2] rfl (hK8 x13)
    · refine S_bipush dX2_comes_57 rfl (by decide) ?_
      refine S_goto (tgt := 69) dX2_comes_59 (by decide) ?_
      exact S_sub [0, 1, 2] rfl (hK8 20)
  refine S_ic_le (tgt := 29) dX2_comes_21 (by decide) (fun h16 => ?_) (fun h16 => ?_)
  · refine S_aload_n dX2_comes_29 rfl ?_
    refine S_iload_n dX2_comes_30 rfl ?_
    refine S_iload_n dX2_comes_31 rfl ?_
    refine S_callV_I dX2_comes_32 [.inl p1, .inl p3] (K_X2_daringRaised p1 p3 μ1) l_X2_242 yo_X2_daringRaised rfl rfl rfl rfl rfl (fun x15 => ?_)
    exact S_sub [0, 1, 2, 4] rfl (hK4 x15)
  · refine S_bipush dX2_comes_24 rfl (by decide) ?_
    refine S_goto (tgt := 35) dX2_comes_26 (by decide) ?_
    exact S_sub [0, 1, 2, 4] rfl (hK4 20)
def fX2_duel_L159 (K27 : Int → Option (Int × Mem)) (x23 : Int) (x13 : Int) (μ21 : Mem) (x10 : Int) (x20 : Int) (x15 : Int) : Nat → Int → Int → Option (Int × Mem)
  | 0, _, _ => none
  | n32 + 1, x30, x31 =>
    if 3 ≤ x31 then
      K27 x30
    else
      if 7 ≤ (w32 (x23 + x31)) then
        K27 x30
      else
        (fX2_daringRaised x13 (w32 (x23 + x31)) μ21).bind fun x33 =>
        mlet (fun (x34 : Int) =>
          mlet (fun (x36 : Int) =>
            mlet (w32 (x31 + 1)) fun x38 =>
            fX2_duel_L159 K27 x23 x13 μ21 x10 x20 x15 n32 x36 x38
            ) fun (K37 : Int → Option (Int × Mem)) =>
          if ¬ (x10.tmod 2) = 0 then
            if x30 ≤ x34 then
              K37 x30
            else
              K37 x34
          else
            if x34 ≤ x30 then
              K37 x30
            else
              K37 x34
          ) fun (K35 : Int → Option (Int × Mem)) =>
        if 21 ≤ x33 then
          K35 x30
        else
          grd (0 ≤ (w32 (x20 + (w32 (x15 * x31)))) ∧ (w32 (x20 + (w32 (x15 * x31)))) < 49) <|
          K35 (μ21 72 ((w32 (x20 + (w32 (x15 * x31))))).toNat)
def fX2_duel_L118 (K18 : Mem → Option (Int × Mem)) (x13 : Int) (x10 : Int) (x15 : Int) : Nat → Int → Mem → Option (Int × Mem)
  | 0, _, _ => none
  | n22 + 1, x20, μ21 =>
    if 49 ≤ x20 then
      K18 μ21
    else
      mlet (fun (x23 : Int) =>
        grd (0 ≤ x20 ∧ x20 < 49) <|
        mlet ((μ21 72 (x20).toNat)) fun x25 =>
        mlet (fun (x26 : Int) =>
          grd (0 ≤ x20 ∧ x20 < 49) <|
          mlet (wr μ21 72 (x20).toNat x26) fun μ28 =>
          mlet (w32 (x20 + 1)) fun x29 =>
          fX2_duel_L118 K18 x13 x10 x15 n22 x29 μ28
          ) fun (K27 : Int → Option (Int × Mem)) =>
        fX2_duel_L159 K27 x23 x13 μ21 x10 x20 x15 fuel x25 1
        ) fun (K24 : Int → Option (Int × Mem)) =>
      if ¬ (x10.tmod 2) = 0 then
        K24 (x20.tmod 7)
      else
        K24 (w32 (x20.tdiv 7))
def fX2_duel_L81 (K8 : Mem → Option (Int × Mem)) (p2 : Int) (p1 : Int) : Nat → Int → Mem → Option (Int × Mem)
  | 0, _, _ => none
  | n12 + 1, x10, μ11 =>
    if x10 < 0 then
      K8 μ11
    else
      mlet (fun (x13 : Int) =>
        mlet (fun (x15 : Int) =>
          mlet (fun (μ17 : Mem) =>
            mlet (w32 (x10 + (-1))) fun x19 =>
            fX2_duel_L81 K8 p2 p1 n12 x19 μ17
            ) fun (K18 : Mem → Option (Int × Mem)) =>
          fX2_duel_L118 K18 x13 x10 x15 fuel 0 μ11
          ) fun (K16 : Int → Option (Int × Mem)) =>
        if ¬ (x10.tmod 2) = 0 then
          K16 1
        else
          K16 7
        ) fun (K14 : Int → Option (Int × Mem)) =>
      if ¬ (x10.tmod 2) = 0 then
        K14 p2
      else
        K14 p1
def fX2_duel_L38 (K5 : Mem → Option (Int × Mem)) (p1 : Int) (p2 : Int) : Nat → Int → Mem → Option (Int × Mem)
  | 0, _, _ => none
  | n52 + 1, x50, μ51 =>
    if 49 ≤ x50 then
      K5 μ51
    else
      bnd2 (fX2_comes p1 p2 (w32 (x50.tdiv 7)) (x50.tmod 7) μ51) fun x53 μ54 =>
      grd (0 ≤ x50 ∧ x50 < 49) <|
      mlet (wr μ54 72 (x50).toNat x53) fun μ55 =>
      mlet (w32 (x50 + 1)) fun x56 =>
      fX2_duel_L38 K5 p1 p2 n52 x56 μ55
def fX2_duel (p1 : Int) (p2 : Int) (p3 : Int) (μ : Mem) : Option (Int × Mem) :=
  (fX2_isOne p1 μ).bind fun x1 =>
  if x1 = 0 then
    some ((-1), μ)
  else
    (fX2_isOne p2 μ).bind fun x2 =>
    if x2 = 0 then
      some ((-1), μ)
    else
      if p1 = p2 then
        some ((-1), μ)
      else
        (fX2_in p3 0 3 μ).bind fun x3 =>
        if ¬ x3 = 0 then
          mlet (fun (μ4 : Mem) =>
            mlet ((w32 ((w32 (2 * p3)) - 1))) fun x6 =>
            mlet (fun (μ7 : Mem) =>
              mlet (wr μ7 60 7 (μ7 72 0)) fun μ9 =>
              some (1, μ9)
              ) fun (K8 : Mem → Option (Int × Mem)) =>
            fX2_duel_L81 K8 p2 p1 fuel x6 μ4
            ) fun (K5 : Mem → Option (Int × Mem)) =>
          fX2_duel_L38 K5 p1 p2 fuel 0 μ
        else
          some ((-1), μ)
theorem K_X2_duel  (p1 : Int) (p2 : Int) (p3 : Int)  (μ : Mem) : Con yX2_duel cX2_duel 12 (some .int) 7 [.inr (.inr 60), .inl p1, .inl p2, .inl p3] μ (fX2_duel p1 p2 p3 μ) wI := by
  refine con_of (own := RX2) (by decide) rfl (Nat.le_of_ble_eq_true rfl) ?_
  show Sim cX2_duel 12 RX2 (7) (some .int) wI 0 [(0, .inr (.inr 60)), (1, .inl p1), (2, .inl p2), (3, .inl p3)] [] μ (fX2_duel p1 p2 p3 μ)
  unfold fX2_duel
  refine S_aload_n dX2_duel_0 rfl ?_
  refine S_iload_n dX2_duel_1 rfl ?_
  refine S_callV_I dX2_duel_2 [.inl p1] (K_X2_isOne p1 μ) l_X2_162 yo_X2_isOne rfl rfl rfl rfl rfl (fun x1 => ?_)
  refine S_if_eq (tgt := 33) dX2_duel_5 (by decide) (fun h61 => ?_) (fun h61 => ?_)
  · refine S_iconst dX2_duel_33 rfl ?_
    exact S_iret dX2_duel_34 rfl rfl
  · refine S_aload_n dX2_duel_8 rfl ?_
    refine S_iload_n dX2_duel_9 rfl ?_
    refine S_callV_I dX2_duel_10 [.inl p2] (K_X2_isOne p2 μ) l_X2_162 yo_X2_isOne rfl rfl rfl rfl rfl (fun x2 => ?_)
    refine S_if_eq (tgt := 33) dX2_duel_13 (by decide) (fun h60 => ?_) (fun h60 => ?_)
    · refine S_iconst dX2_duel_33 rfl ?_
      exact S_iret dX2_duel_34 rfl rfl
    · refine S_iload_n dX2_duel_16 rfl ?_
      refine S_iload_n dX2_duel_17 rfl ?_
      refine S_ic_eq (tgt := 33) dX2_duel_18 (by decide) (fun h59 => ?_) (fun h59 => ?_)
      · refine S_iconst dX2_duel_33 rfl ?_
        exact S_iret dX2_duel_34 rfl rfl
      · refine S_iload_n dX2_duel_21 rfl ?_
        refine S_i2l dX2_duel_22 ?_
        refine S_lconst (n := 0) dX2_duel_23 (by decide) rfl ?_
        refine S_ldc2 dX2_duel_24 rfl k_X2_63 ?_
        refine S_callS_I dX2_duel_27 [.inr (.inl p3), .inr (.inl 0), .inr (.inl 3)] (K_X2_in p3 0 3 μ) l_X2_59 yo_X2_in rfl rfl rfl (fun x3 => ?_)
        refine S_if_ne (tgt := 35) dX2_duel_30 (by decide) (fun h58 => ?_) (fun h58 => ?_)
        · refine S_iconst dX2_duel_35 rfl ?_
          refine S_istore (lv' := [(4, .inl 0), (0, .inr (.inr 60)), (1, .inl p1), (2, .inl p2), (3, .inl p3)]) dX2_duel_36 rfl rfl ?_
          refine S_jn (fun (K5 : Mem → Option (Int × Mem)) => ∀ (μ4 : Mem), Sim cX2_duel 12 RX2 (7) (some .int) wI 74 [(0, .inr (.inr 60)), (1, .inl p1), (2, .inl p2), (3, .inl p3)] [] μ4 (K5 μ4)) ?_ (fun K5 hK5 => ?_)
          · intro μ4
            refine S_iconst dX2_duel_74 rfl ?_
            refine S_iload_n dX2_duel_75 rfl ?_
            refine S_imul dX2_duel_76 ?_
            refine S_iconst dX2_duel_77 rfl ?_
            refine S_isub dX2_duel_78 ?_
            refine S_let (fun x6 => ?_)
            refine S_istore (lv' := [(4, .inl x6), (0, .inr (.inr 60)), (1, .inl p1), (2, .inl p2), (3, .inl p3)]) dX2_duel_79 rfl rfl ?_
            refine S_jn (fun (K8 : Mem → Option (Int × Mem)) => ∀ (μ7 : Mem), Sim cX2_duel 12 RX2 (7) (some .int) wI 278 [(0, .inr (.inr 60))] [] μ7 (K8 μ7)) ?_ (fun K8 hK8 => ?_)
            · intro μ7
              refine S_aload_n dX2_duel_278 rfl ?_
              refine S_aload_n dX2_duel_279 rfl ?_
              refine S_getR (c1 := 72) dX2_duel_280 rfl fl_X2_47 rfl rfl rfl ?_
              refine S_iconst dX2_duel_283 rfl ?_
              refine S_ialdK (k := 0) dX2_duel_284 rfl (by decide) (by decide) ?_
              refine S_putI dX2_duel_285 rfl fl_X2_54 rfl rfl rfl rfl (fun μ9 => ?_)
              refine S_iconst dX2_duel_288 rfl ?_
              exact S_iret dX2_duel_289 rfl rfl
            have hL81 : ∀ (n12 : Nat) (x10 : Int) (μ11 : Mem), Sim cX2_duel 12 RX2 (7) (some .int) wI 81 [(0, .inr (.inr 60)), (1, .inl p1), (2, .inl p2), (4, .inl x10)] [] μ11 (fX2_duel_L81 K8 p2 p1 n12 x10 μ11) := by
              intro n12
              induction n12 with
              | zero =>
                intro x10 μ11
                exact S_none rfl
              | succ n12 ih =>
                intro x10 μ11
                rw [fX2_duel_L81]
                refine S_iload dX2_duel_81 rfl ?_
                refine S_if_lt (tgt := 278) dX2_duel_83 (by decide) (fun h49 => ?_) (fun h49 => ?_)
                · exact S_sub [0] rfl (hK8 μ11)
                · refine S_iload dX2_duel_86 rfl ?_
                  refine S_iconst dX2_duel_88 rfl ?_
                  refine S_iremK dX2_duel_89 (by decide) ?_
                  refine S_jn (fun (K14 : Int → Option (Int × Mem)) => ∀ (x13 : Int), Sim cX2_duel 12 RX2 (7) (some .int) wI 98 [(0, .inr (.inr 60)), (1, .inl p1), (2, .inl p2), (4, .inl x10)] [.inl x13] μ11 (K14 x13)) ?_ (fun K14 hK14 => ?_)
                  · intro x13
                    refine S_istore (lv' := [(5, .inl x13), (0, .inr (.inr 60)), (1, .inl p1), (2, .inl p2), (4, .inl x10)]) dX2_duel_98 rfl rfl ?_
                    refine S_iload dX2_duel_100 rfl ?_
                    refine S_iconst dX2_duel_102 rfl ?_
                    refine S_iremK dX2_duel_103 (by decide) ?_
                    refine S_jn (fun (K16 : Int → Option (Int × Mem)) => ∀ (x15 : Int), Sim cX2_duel 12 RX2 (7) (some .int) wI 113 [(0, .inr (.inr 60)), (1, .inl p1), (2, .inl p2), (4, .inl x10), (5, .inl x13)] [.inl x15] μ11 (K16 x15)) ?_ (fun K16 hK16 => ?_)
                    · intro x15
                      refine S_istore (lv' := [(6, .inl x15), (0, .inr (.inr 60)), (1, .inl p1), (2, .inl p2), (4, .inl x10), (5, .inl x13)]) dX2_duel_113 rfl rfl ?_
                      refine S_iconst dX2_duel_115 rfl ?_
                      refine S_istore (lv' := [(7, .inl 0), (6, .inl x15), (0, .inr (.inr 60)), (1, .inl p1), (2, .inl p2), (4, .inl x10), (5, .inl x13)]) dX2_duel_116 rfl rfl ?_
                      refine S_jn (fun (K18 : Mem → Option (Int × Mem)) => ∀ (μ17 : Mem), Sim cX2_duel 12 RX2 (7) (some .int) wI 272 [(0, .inr (.inr 60)), (1, .inl p1), (2, .inl p2), (4, .inl x10)] [] μ17 (K18 μ17)) ?_ (fun K18 hK18 => ?_)
                      · intro μ17
                        refine S_iinc (lv' := fun x19 => [(4, .inl x19), (0, .inr (.inr 60)), (1, .inl p1), (2, .inl p2)]) dX2_duel_272 rfl rfl rfl (fun _ => rfl) (fun x19 => ?_)
                        refine S_goto (tgt := 81) dX2_duel_275 (by decide) ?_
                        exact S_sub [1, 2, 3, 0] rfl (ih x19 μ17)
                      have hL118 : ∀ (n22 : Nat) (x20 : Int) (μ21 : Mem), Sim cX2_duel 12 RX2 (7) (some .int) wI 118 [(0, .inr (.inr 60)), (1, .inl p1), (2, .inl p2), (4, .inl x10), (5, .inl x13), (6, .inl x15), (7, .inl x20)] [] μ21 (fX2_duel_L118 K18 x13 x10 x15 n22 x20 μ21) := by
                        intro n22
                        induction n22 with
                        | zero =>
                          intro x20 μ21
                          exact S_none rfl
                        | succ n22 ih =>
                          intro x20 μ21
                          rw [fX2_duel_L118]
                          refine S_iload dX2_duel_118 rfl ?_
                          refine S_bipush dX2_duel_120 rfl (by decide) ?_
                          refine S_ic_ge (tgt := 272) dX2_duel_122 (by decide) (fun h46 => ?_) (fun h46 => ?_)
                          · exact S_sub [0, 1, 2, 3] rfl (hK18 μ21)
                          · refine S_iload dX2_duel_125 rfl ?_
                            refine S_iconst dX2_duel_127 rfl ?_
                            refine S_iremK dX2_duel_128 (by decide) ?_
                            refine S_jn (fun (K24 : Int → Option (Int × Mem)) => ∀ (x23 : Int), Sim cX2_duel 12 RX2 (7) (some .int) wI 145 [(0, .inr (.inr 60)), (1, .inl p1), (2, .inl p2), (4, .inl x10), (5, .inl x13), (6, .inl x15), (7, .inl x20)] [.inl x23] μ21 (K24 x23)) ?_ (fun K24 hK24 => ?_)
                            · intro x23
                              refine S_istore (lv' := [(8, .inl x23), (0, .inr (.inr 60)), (1, .inl p1), (2, .inl p2), (4, .inl x10), (5, .inl x13), (6, .inl x15), (7, .inl x20)]) dX2_duel_145 rfl rfl ?_
                              refine S_aload_n dX2_duel_147 rfl ?_
                              refine S_getR (c1 := 72) dX2_duel_148 rfl fl_X2_47 rfl rfl rfl ?_
                              refine S_iload dX2_duel_151 rfl ?_
                              refine S_iald (N := 49) dX2_duel_153 rfl (by decide) rfl ?_
                              refine S_let (fun x25 => ?_)
                              refine S_istore (lv' := [(9, .inl x25), (8, .inl x23), (0, .inr (.inr 60)), (1, .inl p1), (2, .inl p2), (4, .inl x10), (5, .inl x13), (6, .inl x15), (7, .inl x20)]) dX2_duel_154 rfl rfl ?_
                              refine S_iconst dX2_duel_156 rfl ?_
                              refine S_istore (lv' := [(10, .inl 1), (9, .inl x25), (8, .inl x23), (0, .inr (.inr 60)), (1, .inl p1), (2, .inl p2), (4, .inl x10), (5, .inl x13), (6, .inl x15), (7, .inl x20)]) dX2_duel_157 rfl rfl ?_
                              refine S_jn (fun (K27 : Int → Option (Int × Mem)) => ∀ (x26 : Int), Sim cX2_duel 12 RX2 (7) (some .int) wI 257 [(0, .inr (.inr 60)), (1, .inl p1), (2, .inl p2), (4, .inl x10), (5, .inl x13), (6, .inl x15), (7, .inl x20), (9, .inl x26)] [] μ21 (K27 x26)) ?_ (fun K27 hK27 => ?_)
                              · intro x26
                                refine S_aload_n dX2_duel_257 rfl ?_
                                refine S_getR (c1 := 72) dX2_duel_258 rfl fl_X2_47 rfl rfl rfl ?_
                                refine S_iload dX2_duel_261 rfl ?_
                                refine S_iload dX2_duel_263 rfl ?_
                                refine S_iast (N := 49) dX2_duel_265 rfl (by decide) rfl (fun μ28 => ?_)
                                refine S_iinc (lv' := fun x29 => [(7, .inl x29), (0, .inr (.inr 60)), (1, .inl p1), (2, .inl p2), (4, .inl x10), (5, .inl x13), (6, .inl x15), (9, .inl x26)]) dX2_duel_266 rfl rfl rfl (fun _ => rfl) (fun x29 => ?_)
                                refine S_goto (tgt := 118) dX2_duel_269 (by decide) ?_
                                exact S_sub [1, 2, 3, 4, 5, 6, 0] rfl (ih x29 μ28)
                              have hL159 : ∀ (n32 : Nat) (x30 : Int) (x31 : Int), Sim cX2_duel 12 RX2 (7) (some .int) wI 159 [(0, .inr (.inr 60)), (1, .inl p1), (2, .inl p2), (4, .inl x10), (5, .inl x13), (6, .inl x15), (7, .inl x20), (8, .inl x23), (9, .inl x30), (10, .inl x31)] [] μ21 (fX2_duel_L159 K27 x23 x13 μ21 x10 x20 x15 n32 x30 x31) := by
                                intro n32
                                induction n32 with
                                | zero =>
                                  intro x30 x31
                                  exact S_none rfl
                                | succ n32 ih =>
                                  intro x30 x31
                                  rw [fX2_duel_L159]
                                  refine S_iload dX2_duel_159 rfl ?_
                                  refine S_iconst dX2_duel_161 rfl ?_
                                  refine S_ic_ge (tgt := 257) dX2_duel_162 (by decide) (fun h44 => ?_) (fun h44 => ?_)
                                  · exact S_sub [0, 1, 2, 3, 4, 5, 6, 8] rfl (hK27 x30)
                                  · refine S_iload dX2_duel_165 rfl ?_
                                    refine S_iload dX2_duel_167 rfl ?_
                                    refine S_iadd dX2_duel_169 ?_
                                    refine S_bipush dX2_duel_170 rfl (by decide) ?_
                                    refine S_ic_ge (tgt := 257) dX2_duel_172 (by decide) (fun h43 => ?_) (fun h43 => ?_)
                                    · exact S_sub [0, 1, 2, 3, 4, 5, 6, 8] rfl (hK27 x30)
                                    · refine S_aload_n dX2_duel_175 rfl ?_
                                      refine S_iload dX2_duel_176 rfl ?_
                                      refine S_iload dX2_duel_178 rfl ?_
                                      refine S_iload dX2_duel_180 rfl ?_
                                      refine S_iadd dX2_duel_182 ?_
                                      refine S_callV_I dX2_duel_183 [.inl x13, .inl (w32 (x23 + x31))] (K_X2_daringRaised x13 (w32 (x23 + x31)) μ21) l_X2_242 yo_X2_daringRaised rfl rfl rfl rfl rfl (fun x33 => ?_)
                                      refine S_bipush dX2_duel_186 rfl (by decide) ?_
                                      refine S_jn (fun (K35 : Int → Option (Int × Mem)) => ∀ (x34 : Int), Sim cX2_duel 12 RX2 (7) (some .int) wI 209 [(0, .inr (.inr 60)), (1, .inl p1), (2, .inl p2), (4, .inl x10), (5, .inl x13), (6, .inl x15), (7, .inl x20), (8, .inl x23), (9, .inl x30), (10, .inl x31)] [.inl x34] μ21 (K35 x34)) ?_ (fun K35 hK35 => ?_)
                                      · intro x34
                                        refine S_istore (lv' := [(11, .inl x34), (0, .inr (.inr 60)), (1, .inl p1), (2, .inl p2), (4, .inl x10), (5, .inl x13), (6, .inl x15), (7, .inl x20), (8, .inl x23), (9, .inl x30), (10, .inl x31)]) dX2_duel_209 rfl rfl ?_
                                        refine S_iload dX2_duel_211 rfl ?_
                                        refine S_iconst dX2_duel_213 rfl ?_
                                        refine S_iremK dX2_duel_214 (by decide) ?_
                                        refine S_jn (fun (K37 : Int → Option (Int × Mem)) => ∀ (x36 : Int), Sim cX2_duel 12 RX2 (7) (some .int) wI 249 [(0, .inr (.inr 60)), (1, .inl p1), (2, .inl p2), (4, .inl x10), (5, .inl x13), (6, .inl x15), (7, .inl x20), (8, .inl x23), (10, .inl x31)] [.inl x36] μ21 (K37 x36)) ?_ (fun K37 hK37 => ?_)
                                        · intro x36
                                          refine S_istore (lv' := [(9, .inl x36), (0, .inr (.inr 60)), (1, .inl p1), (2, .inl p2), (4, .inl x10), (5, .inl x13), (6, .inl x15), (7, .inl x20), (8, .inl x23), (10, .inl x31)]) dX2_duel_249 rfl rfl ?_
                                          refine S_iinc (lv' := fun x38 => [(10, .inl x38), (9, .inl x36), (0, .inr (.inr 60)), (1, .inl p1), (2, .inl p2), (4, .inl x10), (5, .inl x13), (6, .inl x15), (7, .inl x20), (8, .inl x23)]) dX2_duel_251 rfl rfl rfl (fun _ => rfl) (fun x38 => ?_)
                                          refine S_goto (tgt := 159) dX2_duel_254 (by decide) ?_
                                          exact S_sub [2, 3, 4, 5, 6, 7, 8, 9, 1, 0] rfl (ih x36 x38)
                                        refine S_if_ne (tgt := 235) dX2_duel_215 (by decide) (fun h41 => ?_) (fun h41 => ?_)
                                        · refine S_iload dX2_duel_235 rfl ?_
                                          refine S_iload dX2_duel_237 rfl ?_
                                          refine S_ic_ge (tgt := 247) dX2_duel_239 (by decide) (fun h39 => ?_) (fun h39 => ?_)
                                          · refine S_iload dX2_duel_247 rfl ?_
                                            exact S_sub [1, 2, 3, 4, 5, 6, 7, 8, 10] rfl (hK37 x30)
                                          · refine S_iload dX2_duel_242 rfl ?_
                                            refine S_goto (tgt := 249) dX2_duel_244 (by decide) ?_
                                            exact S_sub [1, 2, 3, 4, 5, 6, 7, 8, 10] rfl (hK37 x34)
                                        · refine S_iload dX2_duel_218 rfl ?_
                                          refine S_iload dX2_duel_220 rfl ?_
                                          refine S_ic_le (tgt := 230) dX2_duel_222 (by decide) (fun h40 => ?_) (fun h40 => ?_)
                                          · refine S_iload dX2_duel_230 rfl ?_
                                            refine S_goto (tgt := 249) dX2_duel_232 (by decide) ?_
                                            exact S_sub [1, 2, 3, 4, 5, 6, 7, 8, 10] rfl (hK37 x30)
                                          · refine S_iload dX2_duel_225 rfl ?_
                                            refine S_goto (tgt := 249) dX2_duel_227 (by decide) ?_
                                            exact S_sub [1, 2, 3, 4, 5, 6, 7, 8, 10] rfl (hK37 x34)
                                      refine S_ic_ge (tgt := 207) dX2_duel_188 (by decide) (fun h42 => ?_) (fun h42 => ?_)
                                      · refine S_iload dX2_duel_207 rfl ?_
                                        exact S_sub [0, 1, 2, 3, 4, 5, 6, 7, 8, 9] rfl (hK35 x30)
                                      · refine S_aload_n dX2_duel_191 rfl ?_
                                        refine S_getR (c1 := 72) dX2_duel_192 rfl fl_X2_47 rfl rfl rfl ?_
                                        refine S_iload dX2_duel_195 rfl ?_
                                        refine S_iload dX2_duel_197 rfl ?_
                                        refine S_iload dX2_duel_199 rfl ?_
                                        refine S_imul dX2_duel_201 ?_
                                        refine S_iadd dX2_duel_202 ?_
                                        refine S_iald (N := 49) dX2_duel_203 rfl (by decide) rfl ?_
                                        refine S_goto (tgt := 209) dX2_duel_204 (by decide) ?_
                                        exact S_sub [0, 1, 2, 3, 4, 5, 6, 7, 8, 9] rfl (hK35 (μ21 72 ((w32 (x20 + (w32 (x15 * x31))))).toNat))
                              exact S_sub [3, 4, 5, 6, 7, 8, 9, 2, 1, 0] rfl (hL159 fuel x25 1)
                            refine S_if_ne (tgt := 140) dX2_duel_129 (by decide) (fun h45 => ?_) (fun h45 => ?_)
                            · refine S_iload dX2_duel_140 rfl ?_
                              refine S_bipush dX2_duel_142 rfl (by decide) ?_
                              refine S_iremK dX2_duel_144 (by decide) ?_
                              exact S_sub [0, 1, 2, 3, 4, 5, 6] rfl (hK24 (x20.tmod 7))
                            · refine S_iload dX2_duel_132 rfl ?_
                              refine S_bipush dX2_duel_134 rfl (by decide) ?_
                              refine S_idivK dX2_duel_136 (by decide) ?_
                              refine S_goto (tgt := 145) dX2_duel_137 (by decide) ?_
                              exact S_sub [0, 1, 2, 3, 4, 5, 6] rfl (hK24 (w32 (x20.tdiv 7)))
                      exact S_sub [2, 3, 4, 5, 6, 1, 0] rfl (hL118 fuel 0 μ11)
                    refine S_if_ne (tgt := 112) dX2_duel_104 (by decide) (fun h47 => ?_) (fun h47 => ?_)
                    · refine S_iconst dX2_duel_112 rfl ?_
                      exact S_sub [1, 2, 3, 4, 0] rfl (hK16 1)
                    · refine S_bipush dX2_duel_107 rfl (by decide) ?_
                      refine S_goto (tgt := 113) dX2_duel_109 (by decide) ?_
                      exact S_sub [1, 2, 3, 4, 0] rfl (hK16 7)
                  refine S_if_ne (tgt := 97) dX2_duel_90 (by decide) (fun h48 => ?_) (fun h48 => ?_)
                  · refine S_iload_n dX2_duel_97 rfl ?_
                    exact S_sub [0, 1, 2, 3] rfl (hK14 p2)
                  · refine S_iload_n dX2_duel_93 rfl ?_
                    refine S_goto (tgt := 98) dX2_duel_94 (by decide) ?_
                    exact S_sub [0, 1, 2, 3] rfl (hK14 p1)
            exact S_sub [1, 2, 3, 0] rfl (hL81 fuel x6 μ4)
          have hL38 : ∀ (n52 : Nat) (x50 : Int) (μ51 : Mem), Sim cX2_duel 12 RX2 (7) (some .int) wI 38 [(0, .inr (.inr 60)), (1, .inl p1), (2, .inl p2), (3, .inl p3), (4, .inl x50)] [] μ51 (fX2_duel_L38 K5 p1 p2 n52 x50 μ51) := by
            intro n52
            induction n52 with
            | zero =>
              intro x50 μ51
              exact S_none rfl
            | succ n52 ih =>
              intro x50 μ51
              rw [fX2_duel_L38]
              refine S_iload dX2_duel_38 rfl ?_
              refine S_bipush dX2_duel_40 rfl (by decide) ?_
              refine S_ic_ge (tgt := 74) dX2_duel_42 (by decide) (fun h57 => ?_) (fun h57 => ?_)
              · exact S_sub [0, 1, 2, 3] rfl (hK5 μ51)
              · refine S_aload_n dX2_duel_45 rfl ?_
                refine S_getR (c1 := 72) dX2_duel_46 rfl fl_X2_47 rfl rfl rfl ?_
                refine S_iload dX2_duel_49 rfl ?_
                refine S_aload_n dX2_duel_51 rfl ?_
                refine S_iload_n dX2_duel_52 rfl ?_
                refine S_iload_n dX2_duel_53 rfl ?_
                refine S_iload dX2_duel_54 rfl ?_
                refine S_bipush dX2_duel_56 rfl (by decide) ?_
                refine S_idivK dX2_duel_58 (by decide) ?_
                refine S_iload dX2_duel_59 rfl ?_
                refine S_bipush dX2_duel_61 rfl (by decide) ?_
                refine S_iremK dX2_duel_63 (by decide) ?_
                refine S_callV_M2 dX2_duel_64 [.inl p1, .inl p2, .inl (w32 (x50.tdiv 7)), .inl (x50.tmod 7)] (K_X2_comes p1 p2 (w32 (x50.tdiv 7)) (x50.tmod 7) μ51) l_X2_245 yo_X2_comes rfl rfl rfl rfl rfl (fun x53 μ54 => ?_)
                refine S_iast (N := 49) dX2_duel_67 rfl (by decide) rfl (fun μ55 => ?_)
                refine S_iinc (lv' := fun x56 => [(4, .inl x56), (0, .inr (.inr 60)), (1, .inl p1), (2, .inl p2), (3, .inl p3)]) dX2_duel_68 rfl rfl rfl (fun _ => rfl) (fun x56 => ?_)
                refine S_goto (tgt := 38) dX2_duel_71 (by decide) ?_
                exact S_sub [1, 2, 3, 4, 0] rfl (ih x56 μ55)
          exact S_sub [1, 2, 3, 4, 0] rfl (hL38 fuel 0 μ)
        · refine S_iconst dX2_duel_33 rfl ?_
          exact S_iret dX2_duel_34 rfl rfl
def fX2_tellParts_L6 (K2 : Int → Option Mem) : Nat → Int → Int → Option Mem
  | 0, _, _ => none
  | n7 + 1, x5, x6 =>
    if (lcmpZ x6 0) = 0 then
      K2 x5
    else
      grd (¬ x6 = 0) <|
      mlet ((x5.tmod x6)) fun x8 =>
      fX2_tellParts_L6 K2 n7 x6 x8
def fX2_tellParts (p1 : Int) (p2 : Int) (μ : Mem) : Option Mem :=
  mlet (fun (x1 : Int) =>
    grd (¬ x1 = 0) <|
    mlet (wr μ 60 8 (w64 (p1.tdiv x1))) fun μ3 =>
    grd (¬ x1 = 0) <|
    mlet (wr μ3 60 9 (w64 (p2.tdiv x1))) fun μ4 =>
    some μ4
    ) fun (K2 : Int → Option Mem) =>
  fX2_tellParts_L6 K2 fuel p1 p2
theorem K_X2_tellParts  (p1 : Int) (p2 : Int)  (μ : Mem) : Con yX2_tellParts cX2_tellParts 11 (none) 2 [.inr (.inr 60), .inr (.inl p1), .inr (.inl p2)] μ (fX2_tellParts p1 p2 μ) wV := by
  refine con_of (own := RX2) (by decide) rfl (Nat.le_of_ble_eq_true rfl) ?_
  show Sim cX2_tellParts 11 RX2 (2) (none) wV 0 [(0, .inr (.inr 60)), (1, .inr (.inl p1)), (3, .inr (.inl p2))] [] μ (fX2_tellParts p1 p2 μ)
  unfold fX2_tellParts
  refine S_lload_n dX2_tellParts_0 rfl ?_
  refine S_lstore (lv' := [(5, .inr (.inl p1)), (0, .inr (.inr 60)), (1, .inr (.inl p1)), (3, .inr (.inl p2))]) dX2_tellParts_1 rfl rfl ?_
  refine S_lload_n dX2_tellParts_3 rfl ?_
  refine S_lstore (lv' := [(7, .inr (.inl p2)), (5, .inr (.inl p1)), (0, .inr (.inr 60)), (1, .inr (.inl p1)), (3, .inr (.inl p2))]) dX2_tellParts_4 rfl rfl ?_
  refine S_jn (fun (K2 : Int → Option Mem) => ∀ (x1 : Int), Sim cX2_tellParts 11 RX2 (2) (none) wV 31 [(0, .inr (.inr 60)), (1, .inr (.inl p1)), (3, .inr (.inl p2)), (5, .inr (.inl x1))] [] μ (K2 x1)) ?_ (fun K2 hK2 => ?_)
  · intro x1
    refine S_aload_n dX2_tellParts_31 rfl ?_
    refine S_lload_n dX2_tellParts_32 rfl ?_
    refine S_lload dX2_tellParts_33 rfl ?_
    refine S_ldiv dX2_tellParts_35 ?_
    refine S_putL dX2_tellParts_36 rfl fl_X2_239 rfl rfl rfl rfl (fun μ3 => ?_)
    refine S_aload_n dX2_tellParts_39 rfl ?_
    refine S_lload_n dX2_tellParts_40 rfl ?_
    refine S_lload dX2_tellParts_41 rfl ?_
    refine S_ldiv dX2_tellParts_43 ?_
    refine S_putL dX2_tellParts_44 rfl fl_X2_28 rfl rfl rfl rfl (fun μ4 => ?_)
    exact S_vret dX2_tellParts_47 rfl rfl
  have hL6 : ∀ (n7 : Nat) (x5 : Int) (x6 : Int), Sim cX2_tellParts 11 RX2 (2) (none) wV 6 [(0, .inr (.inr 60)), (1, .inr (.inl p1)), (3, .inr (.inl p2)), (5, .inr (.inl x5)), (7, .inr (.inl x6))] [] μ (fX2_tellParts_L6 K2 n7 x5 x6) := by
    intro n7
    induction n7 with
    | zero =>
      intro x5 x6
      exact S_none rfl
    | succ n7 ih =>
      intro x5 x6
      rw [fX2_tellParts_L6]
      refine S_lload dX2_tellParts_6 rfl ?_
      refine S_lconst (n := 0) dX2_tellParts_8 (by decide) rfl ?_
      refine S_lcmp dX2_tellParts_9 ?_
      refine S_if_eq (tgt := 31) dX2_tellParts_10 (by decide) (fun h9 => ?_) (fun h9 => ?_)
      · exact S_sub [0, 1, 2, 3] rfl (hK2 x5)
      · refine S_lload dX2_tellParts_13 rfl ?_
        refine S_lload dX2_tellParts_15 rfl ?_
        refine S_lrem dX2_tellParts_17 ?_
        refine S_letL (fun x8 => ?_)
        refine S_lstore (lv' := [(9, .inr (.inl x8)), (0, .inr (.inr 60)), (1, .inr (.inl p1)), (3, .inr (.inl p2)), (5, .inr (.inl x5)), (7, .inr (.inl x6))]) dX2_tellParts_18 rfl rfl ?_
        refine S_lload dX2_tellParts_20 rfl ?_
        refine S_lstore (lv' := [(5, .inr (.inl x6)), (9, .inr (.inl x8)), (0, .inr (.inr 60)), (1, .inr (.inl p1)), (3, .inr (.inl p2)), (7, .inr (.inl x6))]) dX2_tellParts_22 rfl rfl ?_
        refine S_lload dX2_tellParts_24 rfl ?_
        refine S_lstore (lv' := [(7, .inr (.inl x8)), (5, .inr (.inl x6)), (9, .inr (.inl x8)), (0, .inr (.inr 60)), (1, .inr (.inl p1)), (3, .inr (.inl p2))]) dX2_tellParts_26 rfl rfl ?_
        refine S_goto (tgt := 6) dX2_tellParts_28 (by decide) ?_
        exact S_sub [3, 4, 5, 1, 0] rfl (ih x6 x8)
  exact S_sub [2, 3, 4, 1, 0] rfl (hL6 fuel p1 p2)
def fX2_chancesOf_L5 (μ : Mem) (p1 : Int) (p2 : Int) : Nat → Int → Int → Option Int
  | 0, _, _ => none
  | n3 + 1, x1, x2 =>
    if (μ 60 1) ≤ x2 then
      some x1
    else
      (fX2_has p1 x2 μ).bind fun x4 =>
      mlet (fun (x5 : Int) =>
        mlet ((w64 (x1 * x5))) fun x7 =>
        mlet (w32 (x2 + 1)) fun x8 =>
        fX2_chancesOf_L5 μ p1 p2 n3 x7 x8
        ) fun (K6 : Int → Option Int) =>
      if x4 = 0 then
        K6 (w32 (12 - p2))
      else
        K6 p2
def fX2_chancesOf (p1 : Int) (p2 : Int) (μ : Mem) : Option Int :=
  fX2_chancesOf_L5 μ p1 p2 fuel 1 0
theorem K_X2_chancesOf  (p1 : Int) (p2 : Int)  (μ : Mem) : Con yX2_chancesOf cX2_chancesOf 6 (some .long) 3 [.inr (.inr 60), .inl p1, .inl p2] μ (fX2_chancesOf p1 p2 μ) (rL μ) := by
  refine con_of (own := RX2) (by decide) rfl (Nat.le_of_ble_eq_true rfl) ?_
  show Sim cX2_chancesOf 6 RX2 (3) (some .long) (rL μ) 0 [(0, .inr (.inr 60)), (1, .inl p1), (2, .inl p2)] [] μ (fX2_chancesOf p1 p2 μ)
  unfold fX2_chancesOf
  refine S_lconst (n := 1) dX2_chancesOf_0 (by decide) rfl ?_
  refine S_lstore_n (lv' := [(3, .inr (.inl 1)), (0, .inr (.inr 60)), (1, .inl p1), (2, .inl p2)]) dX2_chancesOf_1 rfl rfl ?_
  refine S_iconst dX2_chancesOf_2 rfl ?_
  refine S_istore (lv' := [(5, .inl 0), (3, .inr (.inl 1)), (0, .inr (.inr 60)), (1, .inl p1), (2, .inl p2)]) dX2_chancesOf_3 rfl rfl ?_
  have hL5 : ∀ (n3 : Nat) (x1 : Int) (x2 : Int), Sim cX2_chancesOf 6 RX2 (3) (some .long) (rL μ) 5 [(0, .inr (.inr 60)), (1, .inl p1), (2, .inl p2), (3, .inr (.inl x1)), (5, .inl x2)] [] μ (fX2_chancesOf_L5 μ p1 p2 n3 x1 x2) := by
    intro n3
    induction n3 with
    | zero =>
      intro x1 x2
      exact S_none rfl
    | succ n3 ih =>
      intro x1 x2
      rw [fX2_chancesOf_L5]
      refine S_iload dX2_chancesOf_5 rfl ?_
      refine S_aload_n dX2_chancesOf_7 rfl ?_
      refine S_getI dX2_chancesOf_8 rfl fl_X2_136 rfl rfl ?_
      refine S_ic_ge (tgt := 42) dX2_chancesOf_11 (by decide) (fun h10 => ?_) (fun h10 => ?_)
      · refine S_lload_n dX2_chancesOf_42 rfl ?_
        exact S_lret dX2_chancesOf_43 rfl rfl
      · refine S_lload_n dX2_chancesOf_14 rfl ?_
        refine S_iload_n dX2_chancesOf_15 rfl ?_
        refine S_iload dX2_chancesOf_16 rfl ?_
        refine S_callS_I dX2_chancesOf_18 [.inl p1, .inl x2] (K_X2_has p1 x2 μ) l_X2_149 yo_X2_has rfl rfl rfl (fun x4 => ?_)
        refine S_jn (fun (K6 : Int → Option Int) => ∀ (x5 : Int), Sim cX2_chancesOf 6 RX2 (3) (some .long) (rL μ) 34 [(0, .inr (.inr 60)), (1, .inl p1), (2, .inl p2), (5, .inl x2)] [.inr (.inl x5), .inr (.inl x1)] μ (K6 x5)) ?_ (fun K6 hK6 => ?_)
        · intro x5
          refine S_lmul dX2_chancesOf_34 ?_
          refine S_letL (fun x7 => ?_)
          refine S_lstore_n (lv' := [(3, .inr (.inl x7)), (0, .inr (.inr 60)), (1, .inl p1), (2, .inl p2), (5, .inl x2)]) dX2_chancesOf_35 rfl rfl ?_
          refine S_iinc (lv' := fun x8 => [(5, .inl x8), (3, .inr (.inl x7)), (0, .inr (.inr 60)), (1, .inl p1), (2, .inl p2)]) dX2_chancesOf_36 rfl rfl rfl (fun _ => rfl) (fun x8 => ?_)
          refine S_goto (tgt := 5) dX2_chancesOf_39 (by decide) ?_
          exact S_sub [2, 3, 4, 1, 0] rfl (ih x7 x8)
        refine S_if_eq (tgt := 29) dX2_chancesOf_21 (by decide) (fun h9 => ?_) (fun h9 => ?_)
        · refine S_bipush dX2_chancesOf_29 rfl (by decide) ?_
          refine S_iload_n dX2_chancesOf_31 rfl ?_
          refine S_isub dX2_chancesOf_32 ?_
          refine S_i2l dX2_chancesOf_33 ?_
          exact S_sub [0, 1, 2, 4] rfl (hK6 (w32 (12 - p2)))
        · refine S_iload_n dX2_chancesOf_24 rfl ?_
          refine S_i2l dX2_chancesOf_25 ?_
          refine S_goto (tgt := 34) dX2_chancesOf_26 (by decide) ?_
          exact S_sub [0, 1, 2, 4] rfl (hK6 p2)
  exact S_sub [2, 3, 4, 1, 0] rfl (hL5 fuel 1 0)
def fX2_odds_L30 (μ : Mem) (K5 : Int → Int → Option (Int × Mem)) (p2 : Int) (p1 : Int) : Nat → Int → Int → Int → Option (Int × Mem)
  | 0, _, _, _ => none
  | n10 + 1, x7, x8, x9 =>
    if (bshl 1 (μ 60 1)) ≤ x9 then
      K5 x7 x8
    else
      (fX2_chancesOf x9 p2 μ).bind fun x11 =>
      (fX2_boldest 0 x9 μ).bind fun x12 =>
      mlet (fun (x13 : Int) =>
        mlet ((w64 (x7 + x13))) fun x15 =>
        mlet ((w64 (x8 + x11))) fun x16 =>
        mlet (w32 (x9 + 1)) fun x17 =>
        fX2_odds_L30 μ K5 p2 p1 n10 x15 x16 x17
        ) fun (K14 : Int → Option (Int × Mem)) =>
      if ¬ x12 = p1 then
        K14 0
      else
        K14 x11
def fX2_odds (p1 : Int) (p2 : Int) (μ : Mem) : Option (Int × Mem) :=
  (fX2_isOne p1 μ).bind fun x1 =>
  if x1 = 0 then
    some ((-1), μ)
  else
    (fX2_in p2 0 12 μ).bind fun x2 =>
    if ¬ x2 = 0 then
      mlet (fun (x3 : Int) (x4 : Int) =>
        (fX2_tellParts x3 x4 μ).bind fun μ6 =>
        some (1, μ6)
        ) fun (K5 : Int → Int → Option (Int × Mem)) =>
      fX2_odds_L30 μ K5 p2 p1 fuel 0 0 0
    else
      some ((-1), μ)
theorem K_X2_odds  (p1 : Int) (p2 : Int)  (μ : Mem) : Con yX2_odds cX2_odds 10 (some .int) 6 [.inr (.inr 60), .inl p1, .inl p2] μ (fX2_odds p1 p2 μ) wI := by
  refine con_of (own := RX2) (by decide) rfl (Nat.le_of_ble_eq_true rfl) ?_
  show Sim cX2_odds 10 RX2 (6) (some .int) wI 0 [(0, .inr (.inr 60)), (1, .inl p1), (2, .inl p2)] [] μ (fX2_odds p1 p2 μ)
  unfold fX2_odds
  refine S_aload_n dX2_odds_0 rfl ?_
  refine S_iload_n dX2_odds_1 rfl ?_
  refine S_callV_I dX2_odds_2 [.inl p1] (K_X2_isOne p1 μ) l_X2_162 yo_X2_isOne rfl rfl rfl rfl rfl (fun x1 => ?_)
  refine S_if_eq (tgt := 20) dX2_odds_5 (by decide) (fun h21 => ?_) (fun h21 => ?_)
  · refine S_iconst dX2_odds_20 rfl ?_
    exact S_iret dX2_odds_21 rfl rfl
  · refine S_iload_n dX2_odds_8 rfl ?_
    refine S_i2l dX2_odds_9 ?_
    refine S_lconst (n := 0) dX2_odds_10 (by decide) rfl ?_
    refine S_ldc2 dX2_odds_11 rfl k_X2_248 ?_
    refine S_callS_I dX2_odds_14 [.inr (.inl p2), .inr (.inl 0), .inr (.inl 12)] (K_X2_in p2 0 12 μ) l_X2_59 yo_X2_in rfl rfl rfl (fun x2 => ?_)
    refine S_if_ne (tgt := 22) dX2_odds_17 (by decide) (fun h20 => ?_) (fun h20 => ?_)
    · refine S_lconst (n := 0) dX2_odds_22 (by decide) rfl ?_
      refine S_lstore_n (lv' := [(3, .inr (.inl 0)), (0, .inr (.inr 60)), (1, .inl p1), (2, .inl p2)]) dX2_odds_23 rfl rfl ?_
      refine S_lconst (n := 0) dX2_odds_24 (by decide) rfl ?_
      refine S_lstore (lv' := [(5, .inr (.inl 0)), (3, .inr (.inl 0)), (0, .inr (.inr 60)), (1, .inl p1), (2, .inl p2)]) dX2_odds_25 rfl rfl ?_
      refine S_iconst dX2_odds_27 rfl ?_
      refine S_istore (lv' := [(7, .inl 0), (5, .inr (.inl 0)), (3, .inr (.inl 0)), (0, .inr (.inr 60)), (1, .inl p1), (2, .inl p2)]) dX2_odds_28 rfl rfl ?_
      refine S_jn (fun (K5 : Int → Int → Option (Int × Mem)) => ∀ (x3 : Int) (x4 : Int), Sim cX2_odds 10 RX2 (6) (some .int) wI 83 [(0, .inr (.inr 60)), (3, .inr (.inl x3)), (5, .inr (.inl x4))] [] μ (K5 x3 x4)) ?_ (fun K5 hK5 => ?_)
      · intro x3 x4
        refine S_aload_n dX2_odds_83 rfl ?_
        refine S_lload_n dX2_odds_84 rfl ?_
        refine S_lload dX2_odds_85 rfl ?_
        refine S_callV_V dX2_odds_87 [.inr (.inl x3), .inr (.inl x4)] (K_X2_tellParts x3 x4 μ) l_X2_254 yo_X2_tellParts rfl rfl rfl rfl rfl (fun μ6 => ?_)
        refine S_iconst dX2_odds_90 rfl ?_
        exact S_iret dX2_odds_91 rfl rfl
      have hL30 : ∀ (n10 : Nat) (x7 : Int) (x8 : Int) (x9 : Int), Sim cX2_odds 10 RX2 (6) (some .int) wI 30 [(0, .inr (.inr 60)), (1, .inl p1), (2, .inl p2), (3, .inr (.inl x7)), (5, .inr (.inl x8)), (7, .inl x9)] [] μ (fX2_odds_L30 μ K5 p2 p1 n10 x7 x8 x9) := by
        intro n10
        induction n10 with
        | zero =>
          intro x7 x8 x9
          exact S_none rfl
        | succ n10 ih =>
          intro x7 x8 x9
          rw [fX2_odds_L30]
          refine S_iload dX2_odds_30 rfl ?_
          refine S_iconst dX2_odds_32 rfl ?_
          refine S_aload_n dX2_odds_33 rfl ?_
          refine S_getI dX2_odds_34 rfl fl_X2_136 rfl rfl ?_
          refine S_ishl dX2_odds_37 ?_
          refine S_ic_ge (tgt := 83) dX2_odds_38 (by decide) (fun h19 => ?_) (fun h19 => ?_)
          · exact S_sub [0, 3, 4] rfl (hK5 x7 x8)
          · refine S_aload_n dX2_odds_41 rfl ?_
            refine S_iload dX2_odds_42 rfl ?_
            refine S_iload_n dX2_odds_44 rfl ?_
            refine S_callV_L dX2_odds_45 [.inl x9, .inl p2] (K_X2_chancesOf x9 p2 μ) l_X2_250 yo_X2_chancesOf rfl rfl rfl rfl rfl (fun x11 => ?_)
            refine S_lstore (lv' := [(8, .inr (.inl x11)), (0, .inr (.inr 60)), (1, .inl p1), (2, .inl p2), (3, .inr (.inl x7)), (5, .inr (.inl x8)), (7, .inl x9)]) dX2_odds_48 rfl rfl ?_
            refine S_lload_n dX2_odds_50 rfl ?_
            refine S_aload_n dX2_odds_51 rfl ?_
            refine S_iconst dX2_odds_52 rfl ?_
            refine S_iload dX2_odds_53 rfl ?_
            refine S_callV_I dX2_odds_55 [.inl 0, .inl x9] (K_X2_boldest 0 x9 μ) l_X2_156 yo_X2_boldest rfl rfl rfl rfl rfl (fun x12 => ?_)
            refine S_iload_n dX2_odds_58 rfl ?_
            refine S_jn (fun (K14 : Int → Option (Int × Mem)) => ∀ (x13 : Int), Sim cX2_odds 10 RX2 (6) (some .int) wI 68 [(0, .inr (.inr 60)), (1, .inl p1), (2, .inl p2), (5, .inr (.inl x8)), (7, .inl x9), (8, .inr (.inl x11))] [.inr (.inl x13), .inr (.inl x7)] μ (K14 x13)) ?_ (fun K14 hK14 => ?_)
            · intro x13
              refine S_ladd dX2_odds_68 ?_
              refine S_letL (fun x15 => ?_)
              refine S_lstore_n (lv' := [(3, .inr (.inl x15)), (0, .inr (.inr 60)), (1, .inl p1), (2, .inl p2), (5, .inr (.inl x8)), (7, .inl x9), (8, .inr (.inl x11))]) dX2_odds_69 rfl rfl ?_
              refine S_lload dX2_odds_70 rfl ?_
              refine S_lload dX2_odds_72 rfl ?_
              refine S_ladd dX2_odds_74 ?_
              refine S_letL (fun x16 => ?_)
              refine S_lstore (lv' := [(5, .inr (.inl x16)), (3, .inr (.inl x15)), (0, .inr (.inr 60)), (1, .inl p1), (2, .inl p2), (7, .inl x9), (8, .inr (.inl x11))]) dX2_odds_75 rfl rfl ?_
              refine S_iinc (lv' := fun x17 => [(7, .inl x17), (5, .inr (.inl x16)), (3, .inr (.inl x15)), (0, .inr (.inr 60)), (1, .inl p1), (2, .inl p2), (8, .inr (.inl x11))]) dX2_odds_77 rfl rfl rfl (fun _ => rfl) (fun x17 => ?_)
              refine S_goto (tgt := 30) dX2_odds_80 (by decide) ?_
              exact S_sub [3, 4, 5, 2, 1, 0] rfl (ih x15 x16 x17)
            refine S_ic_ne (tgt := 67) dX2_odds_59 (by decide) (fun h18 => ?_) (fun h18 => ?_)
            · refine S_lconst (n := 0) dX2_odds_67 (by decide) rfl ?_
              exact S_sub [1, 2, 3, 5, 6, 0] rfl (hK14 0)
            · refine S_lload dX2_odds_62 rfl ?_
              refine S_goto (tgt := 68) dX2_odds_64 (by decide) ?_
              exact S_sub [1, 2, 3, 5, 6, 0] rfl (hK14 x11)
      exact S_sub [3, 4, 5, 2, 1, 0] rfl (hL30 fuel 0 0 0)
    · refine S_iconst dX2_odds_20 rfl ?_
      exact S_iret dX2_odds_21 rfl rfl
