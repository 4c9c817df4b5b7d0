theorem dX2_isOf_0 : decode cX2_isOf 0 = .ok (.aload_n 0, 1) := by decide +kernel
theorem dX2_isOf_1 : decode cX2_isOf 1 = .ok (.getfield 13, 3) := by decide +kernel
theorem dX2_isOf_4 : decode cX2_isOf 4 = .ok (.iload_n 1, 1) := by decide +kernel
theorem dX2_isOf_5 : decode cX2_isOf 5 = .ok (.iaload, 1) := by decide +kernel
theorem dX2_isOf_6 : decode cX2_isOf 6 = .ok (.istore_n 3, 1) := by decide +kernel
theorem dX2_isOf_7 : decode cX2_isOf 7 = .ok (.iload_n 3, 1) := by decide +kernel
theorem dX2_isOf_8 : decode cX2_isOf 8 = .ok (.iload_n 2, 1) := by decide +kernel
theorem dX2_isOf_9 : decode cX2_isOf 9 = .ok (.if_icmp .eq 23, 3) := by decide +kernel
theorem dX2_isOf_12 : decode cX2_isOf 12 = .ok (.iload_n 2, 1) := by decide +kernel
theorem dX2_isOf_13 : decode cX2_isOf 13 = .ok (.iconst 3, 1) := by decide +kernel
theorem dX2_isOf_14 : decode cX2_isOf 14 = .ok (.if_icmp .ne 8, 3) := by decide +kernel
theorem dX2_isOf_17 : decode cX2_isOf 17 = .ok (.iload_n 3, 1) := by decide +kernel
theorem dX2_isOf_18 : decode cX2_isOf 18 = .ok (.iconst 4, 1) := by decide +kernel
theorem dX2_isOf_19 : decode cX2_isOf 19 = .ok (.if_icmp .eq 13, 3) := by decide +kernel
theorem dX2_isOf_22 : decode cX2_isOf 22 = .ok (.iload_n 2, 1) := by decide +kernel
theorem dX2_isOf_23 : decode cX2_isOf 23 = .ok (.iconst 2, 1) := by decide +kernel
theorem dX2_isOf_24 : decode cX2_isOf 24 = .ok (.if_icmp .ne 12, 3) := by decide +kernel
theorem dX2_isOf_27 : decode cX2_isOf 27 = .ok (.iload_n 3, 1) := by decide +kernel
theorem dX2_isOf_28 : decode cX2_isOf 28 = .ok (.iconst 5, 1) := by decide +kernel
theorem dX2_isOf_29 : decode cX2_isOf 29 = .ok (.if_icmp .ne 7, 3) := by decide +kernel
theorem dX2_isOf_32 : decode cX2_isOf 32 = .ok (.iconst 1, 1) := by decide +kernel
theorem dX2_isOf_33 : decode cX2_isOf 33 = .ok (.goto 4, 3) := by decide +kernel
theorem dX2_isOf_36 : decode cX2_isOf 36 = .ok (.iconst 0, 1) := by decide +kernel
theorem dX2_isOf_37 : decode cX2_isOf 37 = .ok (.ireturn, 1) := by decide +kernel
theorem dX2_lesserThan_0 : decode cX2_lesserThan 0 = .ok (.iconst 0, 1) := by decide +kernel
theorem dX2_lesserThan_1 : decode cX2_lesserThan 1 = .ok (.istore_n 2, 1) := by decide +kernel
theorem dX2_lesserThan_2 : decode cX2_lesserThan 2 = .ok (.iconst 0, 1) := by decide +kernel
theorem dX2_lesserThan_3 : decode cX2_lesserThan 3 = .ok (.istore_n 3, 1) := by decide +kernel
theorem dX2_lesserThan_4 : decode cX2_lesserThan 4 = .ok (.iload_n 3, 1) := by decide +kernel
theorem dX2_lesserThan_5 : decode cX2_lesserThan 5 = .ok (.aload_n 0, 1) := by decide +kernel
theorem dX2_lesserThan_6 : decode cX2_lesserThan 6 = .ok (.getfield 136, 3) := by decide +kernel
theorem dX2_lesserThan_9 : decode cX2_lesserThan 9 = .ok (.if_icmp .ge 30, 3) := by decide +kernel
theorem dX2_lesserThan_12 : decode cX2_lesserThan 12 = .ok (.iload_n 2, 1) := by decide +kernel
theorem dX2_lesserThan_13 : decode cX2_lesserThan 13 = .ok (.aload_n 0, 1) := by decide +kernel
theorem dX2_lesserThan_14 : decode cX2_lesserThan 14 = .ok (.getfield 7, 3) := by decide +kernel
theorem dX2_lesserThan_17 : decode cX2_lesserThan 17 = .ok (.bipush 9, 2) := by decide +kernel
theorem dX2_lesserThan_19 : decode cX2_lesserThan 19 = .ok (.iload_n 3, 1) := by decide +kernel
theorem dX2_lesserThan_20 : decode cX2_lesserThan 20 = .ok (.iadd, 1) := by decide +kernel
theorem dX2_lesserThan_21 : decode cX2_lesserThan 21 = .ok (.iaload, 1) := by decide +kernel
theorem dX2_lesserThan_22 : decode cX2_lesserThan 22 = .ok (.iload_n 1, 1) := by decide +kernel
theorem dX2_lesserThan_23 : decode cX2_lesserThan 23 = .ok (.if_icmp .ge 7, 3) := by decide +kernel
theorem dX2_lesserThan_26 : decode cX2_lesserThan 26 = .ok (.iconst 1, 1) := by decide +kernel
theorem dX2_lesserThan_27 : decode cX2_lesserThan 27 = .ok (.goto 4, 3) := by decide +kernel
theorem dX2_lesserThan_30 : decode cX2_lesserThan 30 = .ok (.iconst 0, 1) := by decide +kernel
theorem dX2_lesserThan_31 : decode cX2_lesserThan 31 = .ok (.iadd, 1) := by decide +kernel
theorem dX2_lesserThan_32 : decode cX2_lesserThan 32 = .ok (.istore_n 2, 1) := by decide +kernel
theorem dX2_lesserThan_33 : decode cX2_lesserThan 33 = .ok (.iinc 3 1, 3) := by decide +kernel
theorem dX2_lesserThan_36 : decode cX2_lesserThan 36 = .ok (.goto (-32), 3) := by decide +kernel
theorem dX2_lesserThan_39 : decode cX2_lesserThan 39 = .ok (.iload_n 2, 1) := by decide +kernel
theorem dX2_lesserThan_40 : decode cX2_lesserThan 40 = .ok (.ireturn, 1) := by decide +kernel
theorem dX2_mark_0 : decode cX2_mark 0 = .ok (.aload_n 0, 1) := by decide +kernel
theorem dX2_mark_1 : decode cX2_mark 1 = .ok (.iload_n 1, 1) := by decide +kernel
theorem dX2_mark_2 : decode cX2_mark 2 = .ok (.invokevirtual 162, 3) := by decide +kernel
theorem dX2_mark_5 : decode cX2_mark 5 = .ok (.ifCond .eq 15, 3) := by decide +kernel
theorem dX2_mark_8 : decode cX2_mark 8 = .ok (.iload_n 2, 1) := by decide +kernel
theorem dX2_mark_9 : decode cX2_mark 9 = .ok (.i2l, 1) := by decide +kernel
theorem dX2_mark_10 : decode cX2_mark 10 = .ok (.lconst 1, 1) := by decide +kernel
theorem dX2_mark_11 : decode cX2_mark 11 = .ok (.ldc2_w 57, 3) := by decide +kernel
theorem dX2_mark_14 : decode cX2_mark 14 = .ok (.invokestatic 59, 3) := by decide +kernel
theorem dX2_mark_17 : decode cX2_mark 17 = .ok (.ifCond .ne 5, 3) := by decide +kernel
theorem dX2_mark_20 : decode cX2_mark 20 = .ok (.iconst (-1), 1) := by decide +kernel
theorem dX2_mark_21 : decode cX2_mark 21 = .ok (.ireturn, 1) := by decide +kernel
theorem dX2_mark_22 : decode cX2_mark 22 = .ok (.aload_n 0, 1) := by decide +kernel
theorem dX2_mark_23 : decode cX2_mark 23 = .ok (.iload_n 1, 1) := by decide +kernel
theorem dX2_mark_24 : decode cX2_mark 24 = .ok (.iload_n 2, 1) := by decide +kernel
theorem dX2_mark_25 : decode cX2_mark 25 = .ok (.invokevirtual 168, 3) := by decide +kernel
theorem dX2_mark_28 : decode cX2_mark 28 = .ok (.ifCond .ne 9, 3) := by decide +kernel
theorem dX2_mark_31 : decode cX2_mark 31 = .ok (.aload_n 0, 1) := by decide +kernel
theorem dX2_mark_32 : decode cX2_mark 32 = .ok (.iconst 3, 1) := by decide +kernel
theorem dX2_mark_33 : decode cX2_mark 33 = .ok (.invokevirtual 69, 3) := by decide +kernel
theorem dX2_mark_36 : decode cX2_mark 36 = .ok (.ireturn, 1) := by decide +kernel
theorem dX2_mark_37 : decode cX2_mark 37 = .ok (.aload_n 0, 1) := by decide +kernel
theorem dX2_mark_38 : decode cX2_mark 38 = .ok (.getfield 7, 3) := by decide +kernel
theorem dX2_mark_41 : decode cX2_mark 41 = .ok (.bipush 9, 2) := by decide +kernel
theorem dX2_mark_43 : decode cX2_mark 43 = .ok (.iload_n 1, 1) := by decide +kernel
theorem dX2_mark_44 : decode cX2_mark 44 = .ok (.iadd, 1) := by decide +kernel
theorem dX2_mark_45 : decode cX2_mark 45 = .ok (.iaload, 1) := by decide +kernel
theorem dX2_mark_46 : decode cX2_mark 46 = .ok (.istore_n 3, 1) := by decide +kernel
theorem dX2_mark_47 : decode cX2_mark 47 = .ok (.iload_n 2, 1) := by decide +kernel
theorem dX2_mark_48 : decode cX2_mark 48 = .ok (.tableswitch 79 1 4 #[32, 47, 60, 66], 32) := by decide +kernel
theorem dX2_mark_80 : decode cX2_mark 80 = .ok (.iconst 1, 1) := by decide +kernel
theorem dX2_mark_81 : decode cX2_mark 81 = .ok (.iload_n 3, 1) := by decide +kernel
theorem dX2_mark_82 : decode cX2_mark 82 = .ok (.aload_n 0, 1) := by decide +kernel
theorem dX2_mark_83 : decode cX2_mark 83 = .ok (.getfield 7, 3) := by decide +kernel
theorem dX2_mark_86 : decode cX2_mark 86 = .ok (.iconst 1, 1) := by decide +kernel
theorem dX2_mark_87 : decode cX2_mark 87 = .ok (.iaload, 1) := by decide +kernel
theorem dX2_mark_88 : decode cX2_mark 88 = .ok (.iconst 1, 1) := by decide +kernel
theorem dX2_mark_89 : decode cX2_mark 89 = .ok (.iadd, 1) := by decide +kernel
theorem dX2_mark_90 : decode cX2_mark 90 = .ok (.iconst 0, 1) := by decide +kernel
theorem dX2_mark_91 : decode cX2_mark 91 = .ok (.invokestatic 145, 3) := by decide +kernel
theorem dX2_mark_94 : decode cX2_mark 94 = .ok (.ireturn, 1) := by decide +kernel
theorem dX2_mark_95 : decode cX2_mark 95 = .ok (.iload_n 3, 1) := by decide +kernel
theorem dX2_mark_96 : decode cX2_mark 96 = .ok (.iconst 5, 1) := by decide +kernel
theorem dX2_mark_97 : decode cX2_mark 97 = .ok (.if_icmp .ge 9, 3) := by decide +kernel
theorem dX2_mark_100 : decode cX2_mark 100 = .ok (.iconst 5, 1) := by decide +kernel
theorem dX2_mark_101 : decode cX2_mark 101 = .ok (.iload_n 3, 1) := by decide +kernel
theorem dX2_mark_102 : decode cX2_mark 102 = .ok (.isub, 1) := by decide +kernel
theorem dX2_mark_103 : decode cX2_mark 103 = .ok (.goto 4, 3) := by decide +kernel
theorem dX2_mark_106 : decode cX2_mark 106 = .ok (.iconst 0, 1) := by decide +kernel
theorem dX2_mark_107 : decode cX2_mark 107 = .ok (.ireturn, 1) := by decide +kernel
theorem dX2_mark_108 : decode cX2_mark 108 = .ok (.aload_n 0, 1) := by decide +kernel
theorem dX2_mark_109 : decode cX2_mark 109 = .ok (.iload_n 3, 1) := by decide +kernel
theorem dX2_mark_110 : decode cX2_mark 110 = .ok (.invokevirtual 171, 3) := by decide +kernel
theorem dX2_mark_113 : decode cX2_mark 113 = .ok (.ireturn, 1) := by decide +kernel
theorem dX2_mark_114 : decode cX2_mark 114 = .ok (.iconst 4, 1) := by decide +kernel
theorem dX2_mark_115 : decode cX2_mark 115 = .ok (.iconst 0, 1) := by decide +kernel
theorem dX2_mark_116 : decode cX2_mark 116 = .ok (.iconst 0, 1) := by decide +kernel
theorem dX2_mark_117 : decode cX2_mark 117 = .ok (.aload_n 0, 1) := by decide +kernel
theorem dX2_mark_118 : decode cX2_mark 118 = .ok (.iconst 0, 1) := by decide +kernel
theorem dX2_mark_119 : decode cX2_mark 119 = .ok (.iload_n 1, 1) := by decide +kernel
theorem dX2_mark_120 : decode cX2_mark 120 = .ok (.invokevirtual 142, 3) := by decide +kernel
theorem dX2_mark_123 : decode cX2_mark 123 = .ok (.invokestatic 145, 3) := by decide +kernel
theorem dX2_mark_126 : decode cX2_mark 126 = .ok (.ireturn, 1) := by decide +kernel
theorem dX2_mark_127 : decode cX2_mark 127 = .ok (.iconst 2, 1) := by decide +kernel
theorem dX2_mark_128 : decode cX2_mark 128 = .ok (.iload_n 3, 1) := by decide +kernel
theorem dX2_mark_129 : decode cX2_mark 129 = .ok (.iconst 0, 1) := by decide +kernel
theorem dX2_mark_130 : decode cX2_mark 130 = .ok (.iconst 0, 1) := by decide +kernel
theorem dX2_mark_131 : decode cX2_mark 131 = .ok (.invokestatic 145, 3) := by decide +kernel
theorem dX2_mark_134 : decode cX2_mark 134 = .ok (.ireturn, 1) := by decide +kernel
theorem dX2_keepPast_0 : decode cX2_keepPast 0 = .ok (.iconst 0, 1) := by decide +kernel
theorem dX2_keepPast_1 : decode cX2_keepPast 1 = .ok (.istore_n 1, 1) := by decide +kernel
theorem dX2_keepPast_2 : decode cX2_keepPast 2 = .ok (.iload_n 1, 1) := by decide +kernel
theorem dX2_keepPast_3 : decode cX2_keepPast 3 = .ok (.bipush 20, 2) := by decide +kernel
theorem dX2_keepPast_5 : decode cX2_keepPast 5 = .ok (.if_icmp .ge 36, 3) := by decide +kernel
theorem dX2_keepPast_8 : decode cX2_keepPast 8 = .ok (.aload_n 0, 1) := by decide +kernel
theorem dX2_keepPast_9 : decode cX2_keepPast 9 = .ok (.getfield 7, 3) := by decide +kernel
theorem dX2_keepPast_12 : decode cX2_keepPast 12 = .ok (.bipush 21, 2) := by decide +kernel
theorem dX2_keepPast_14 : decode cX2_keepPast 14 = .ok (.bipush 20, 2) := by decide +kernel
theorem dX2_keepPast_16 : decode cX2_keepPast 16 = .ok (.aload_n 0, 1) := by decide +kernel
theorem dX2_keepPast_17 : decode cX2_keepPast 17 = .ok (.getfield 7, 3) := by decide +kernel
theorem dX2_keepPast_20 : decode cX2_keepPast 20 = .ok (.iconst 0, 1) := by decide +kernel
theorem dX2_keepPast_21 : decode cX2_keepPast 21 = .ok (.iaload, 1) := by decide +kernel
theorem dX2_keepPast_22 : decode cX2_keepPast 22 = .ok (.imul, 1) := by decide +kernel
theorem dX2_keepPast_23 : decode cX2_keepPast 23 = .ok (.iadd, 1) := by decide +kernel
theorem dX2_keepPast_24 : decode cX2_keepPast 24 = .ok (.iload_n 1, 1) := by decide +kernel
theorem dX2_keepPast_25 : decode cX2_keepPast 25 = .ok (.iadd, 1) := by decide +kernel
theorem dX2_keepPast_26 : decode cX2_keepPast 26 = .ok (.aload_n 0, 1) := by decide +kernel
theorem dX2_keepPast_27 : decode cX2_keepPast 27 = .ok (.getfield 7, 3) := by decide +kernel
theorem dX2_keepPast_30 : decode cX2_keepPast 30 = .ok (.iconst 1, 1) := by decide +kernel
theorem dX2_keepPast_31 : decode cX2_keepPast 31 = .ok (.iload_n 1, 1) := by decide +kernel
theorem dX2_keepPast_32 : decode cX2_keepPast 32 = .ok (.iadd, 1) := by decide +kernel
theorem dX2_keepPast_33 : decode cX2_keepPast 33 = .ok (.iaload, 1) := by decide +kernel
theorem dX2_keepPast_34 : decode cX2_keepPast 34 = .ok (.iastore, 1) := by decide +kernel
theorem dX2_keepPast_35 : decode cX2_keepPast 35 = .ok (.iinc 1 1, 3) := by decide +kernel
theorem dX2_keepPast_38 : decode cX2_keepPast 38 = .ok (.goto (-36), 3) := by decide +kernel
theorem dX2_keepPast_41 : decode cX2_keepPast 41 = .ok (.aload_n 0, 1) := by decide +kernel
theorem dX2_keepPast_42 : decode cX2_keepPast 42 = .ok (.getfield 7, 3) := by decide +kernel
theorem dX2_keepPast_45 : decode cX2_keepPast 45 = .ok (.iconst 0, 1) := by decide +kernel
theorem dX2_keepPast_46 : decode cX2_keepPast 46 = .ok (.dup2, 1) := by decide +kernel
theorem dX2_keepPast_47 : decode cX2_keepPast 47 = .ok (.iaload, 1) := by decide +kernel
theorem dX2_keepPast_48 : decode cX2_keepPast 48 = .ok (.iconst 1, 1) := by decide +kernel
theorem dX2_keepPast_49 : decode cX2_keepPast 49 = .ok (.iadd, 1) := by decide +kernel
theorem dX2_keepPast_50 : decode cX2_keepPast 50 = .ok (.iastore, 1) := by decide +kernel
theorem dX2_keepPast_51 : decode cX2_keepPast 51 = .ok (.return_, 1) := by decide +kernel
theorem dX2_night_0 : decode cX2_night 0 = .ok (.aload_n 0, 1) := by decide +kernel
theorem dX2_night_1 : decode cX2_night 1 = .ok (.getfield 136, 3) := by decide +kernel
theorem dX2_night_4 : decode cX2_night 4 = .ok (.ifCond .ne 6, 3) := by decide +kernel
theorem dX2_night_7 : decode cX2_night 7 = .ok (.bipush (-4), 2) := by decide +kernel
theorem dX2_night_9 : decode cX2_night 9 = .ok (.ireturn, 1) := by decide +kernel
theorem dX2_night_10 : decode cX2_night 10 = .ok (.aload_n 0, 1) := by decide +kernel
theorem dX2_night_11 : decode cX2_night 11 = .ok (.getfield 7, 3) := by decide +kernel
theorem dX2_night_14 : decode cX2_night 14 = .ok (.iconst 0, 1) := by decide +kernel
theorem dX2_night_15 : decode cX2_night 15 = .ok (.iaload, 1) := by decide +kernel
theorem dX2_night_16 : decode cX2_night 16 = .ok (.bipush 40, 2) := by decide +kernel
theorem dX2_night_18 : decode cX2_night 18 = .ok (.if_icmp .ne 6, 3) := by decide +kernel
theorem dX2_night_21 : decode cX2_night 21 = .ok (.bipush (-2), 2) := by decide +kernel
theorem dX2_night_23 : decode cX2_night 23 = .ok (.ireturn, 1) := by decide +kernel
theorem dX2_night_24 : decode cX2_night 24 = .ok (.aload_n 0, 1) := by decide +kernel
theorem dX2_night_25 : decode cX2_night 25 = .ok (.invokevirtual 174, 3) := by decide +kernel
theorem dX2_night_28 : decode cX2_night 28 = .ok (.aload_n 0, 1) := by decide +kernel
theorem dX2_night_29 : decode cX2_night 29 = .ok (.iconst 0, 1) := by decide +kernel
theorem dX2_night_30 : decode cX2_night 30 = .ok (.invokevirtual 177, 3) := by decide +kernel
theorem dX2_night_33 : decode cX2_night 33 = .ok (.ireturn, 1) := by decide +kernel
theorem dX2_makeDaring_0 : decode cX2_makeDaring 0 = .ok (.iload_n 2, 1) := by decide +kernel
theorem dX2_makeDaring_1 : decode cX2_makeDaring 1 = .ok (.i2l, 1) := by decide +kernel
theorem dX2_makeDaring_2 : decode cX2_makeDaring 2 = .ok (.lconst 0, 1) := by decide +kernel
theorem dX2_makeDaring_3 : decode cX2_makeDaring 3 = .ok (.ldc2_w 180, 3) := by decide +kernel
theorem dX2_makeDaring_6 : decode cX2_makeDaring 6 = .ok (.invokestatic 59, 3) := by decide +kernel
theorem dX2_makeDaring_9 : decode cX2_makeDaring 9 = .ok (.ifCond .ne 6, 3) := by decide +kernel
theorem dX2_makeDaring_12 : decode cX2_makeDaring 12 = .ok (.bipush (-4), 2) := by decide +kernel
theorem dX2_makeDaring_14 : decode cX2_makeDaring 14 = .ok (.ireturn, 1) := by decide +kernel
theorem dX2_makeDaring_15 : decode cX2_makeDaring 15 = .ok (.aload_n 0, 1) := by decide +kernel
theorem dX2_makeDaring_16 : decode cX2_makeDaring 16 = .ok (.getfield 7, 3) := by decide +kernel
theorem dX2_makeDaring_19 : decode cX2_makeDaring 19 = .ok (.iconst 0, 1) := by decide +kernel
theorem dX2_makeDaring_20 : decode cX2_makeDaring 20 = .ok (.iaload, 1) := by decide +kernel
theorem dX2_makeDaring_21 : decode cX2_makeDaring 21 = .ok (.bipush 40, 2) := by decide +kernel
theorem dX2_makeDaring_23 : decode cX2_makeDaring 23 = .ok (.if_icmp .ne 6, 3) := by decide +kernel
theorem dX2_makeDaring_26 : decode cX2_makeDaring 26 = .ok (.bipush (-2), 2) := by decide +kernel
theorem dX2_makeDaring_28 : decode cX2_makeDaring 28 = .ok (.ireturn, 1) := by decide +kernel
theorem dX2_makeDaring_29 : decode cX2_makeDaring 29 = .ok (.aload_n 0, 1) := by decide +kernel
theorem dX2_makeDaring_30 : decode cX2_makeDaring 30 = .ok (.invokevirtual 174, 3) := by decide +kernel
theorem dX2_makeDaring_33 : decode cX2_makeDaring 33 = .ok (.aload_n 0, 1) := by decide +kernel
theorem dX2_makeDaring_34 : decode cX2_makeDaring 34 = .ok (.getfield 7, 3) := by decide +kernel
theorem dX2_makeDaring_37 : decode cX2_makeDaring 37 = .ok (.bipush 9, 2) := by decide +kernel
theorem dX2_makeDaring_39 : decode cX2_makeDaring 39 = .ok (.iload_n 1, 1) := by decide +kernel
theorem dX2_makeDaring_40 : decode cX2_makeDaring 40 = .ok (.iadd, 1) := by decide +kernel
theorem dX2_makeDaring_41 : decode cX2_makeDaring 41 = .ok (.iload_n 2, 1) := by decide +kernel
theorem dX2_makeDaring_42 : decode cX2_makeDaring 42 = .ok (.iastore, 1) := by decide +kernel
theorem dX2_makeDaring_43 : decode cX2_makeDaring 43 = .ok (.iload_n 2, 1) := by decide +kernel
theorem dX2_makeDaring_44 : decode cX2_makeDaring 44 = .ok (.ireturn, 1) := by decide +kernel
theorem dX2_raise_0 : decode cX2_raise 0 = .ok (.aload_n 0, 1) := by decide +kernel
theorem dX2_raise_1 : decode cX2_raise 1 = .ok (.iload_n 1, 1) := by decide +kernel
theorem dX2_raise_2 : decode cX2_raise 2 = .ok (.invokevirtual 162, 3) := by decide +kernel
theorem dX2_raise_5 : decode cX2_raise 5 = .ok (.ifCond .eq 34, 3) := by decide +kernel
theorem dX2_raise_8 : decode cX2_raise 8 = .ok (.iload_n 2, 1) := by decide +kernel
theorem dX2_raise_9 : decode cX2_raise 9 = .ok (.i2l, 1) := by decide +kernel
theorem dX2_raise_10 : decode cX2_raise 10 = .ok (.lconst 1, 1) := by decide +kernel
theorem dX2_raise_11 : decode cX2_raise 11 = .ok (.ldc2_w 182, 3) := by decide +kernel
theorem dX2_raise_14 : decode cX2_raise 14 = .ok (.invokestatic 59, 3) := by decide +kernel
theorem dX2_raise_17 : decode cX2_raise 17 = .ok (.ifCond .eq 22, 3) := by decide +kernel
theorem dX2_raise_20 : decode cX2_raise 20 = .ok (.aload_n 0, 1) := by decide +kernel
theorem dX2_raise_21 : decode cX2_raise 21 = .ok (.iload_n 1, 1) := by decide +kernel
theorem dX2_raise_22 : decode cX2_raise 22 = .ok (.aload_n 0, 1) := by decide +kernel
theorem dX2_raise_23 : decode cX2_raise 23 = .ok (.getfield 7, 3) := by decide +kernel
theorem dX2_raise_26 : decode cX2_raise 26 = .ok (.bipush 9, 2) := by decide +kernel
theorem dX2_raise_28 : decode cX2_raise 28 = .ok (.iload_n 1, 1) := by decide +kernel
theorem dX2_raise_29 : decode cX2_raise 29 = .ok (.iadd, 1) := by decide +kernel
theorem dX2_raise_30 : decode cX2_raise 30 = .ok (.iaload, 1) := by decide +kernel
theorem dX2_raise_31 : decode cX2_raise 31 = .ok (.iload_n 2, 1) := by decide +kernel
theorem dX2_raise_32 : decode cX2_raise 32 = .ok (.iadd, 1) := by decide +kernel
theorem dX2_raise_33 : decode cX2_raise 33 = .ok (.invokevirtual 184, 3) := by decide +kernel
theorem dX2_raise_36 : decode cX2_raise 36 = .ok (.goto 4, 3) := by decide +kernel
theorem dX2_raise_39 : decode cX2_raise 39 = .ok (.iconst (-1), 1) := by decide +kernel
theorem dX2_raise_40 : decode cX2_raise 40 = .ok (.ireturn, 1) := by decide +kernel
theorem dX2_shame_0 : decode cX2_shame 0 = .ok (.aload_n 0, 1) := by decide +kernel
theorem dX2_shame_1 : decode cX2_shame 1 = .ok (.iload_n 1, 1) := by decide +kernel
theorem dX2_shame_2 : decode cX2_shame 2 = .ok (.invokevirtual 162, 3) := by decide +kernel
theorem dX2_shame_5 : decode cX2_shame 5 = .ok (.ifCond .eq 34, 3) := by decide +kernel
theorem dX2_shame_8 : decode cX2_shame 8 = .ok (.iload_n 2, 1) := by decide +kernel
theorem dX2_shame_9 : decode cX2_shame 9 = .ok (.i2l, 1) := by decide +kernel
theorem dX2_shame_10 : decode cX2_shame 10 = .ok (.lconst 1, 1) := by decide +kernel
theorem dX2_shame_11 : decode cX2_shame 11 = .ok (.ldc2_w 182, 3) := by decide +kernel
theorem dX2_shame_14 : decode cX2_shame 14 = .ok (.invokestatic 59, 3) := by decide +kernel
theorem dX2_shame_17 : decode cX2_shame 17 = .ok (.ifCond .eq 22, 3) := by decide +kernel
theorem dX2_shame_20 : decode cX2_shame 20 = .ok (.aload_n 0, 1) := by decide +kernel
theorem dX2_shame_21 : decode cX2_shame 21 = .ok (.iload_n 1, 1) := by decide +kernel
theorem dX2_shame_22 : decode cX2_shame 22 = .ok (.aload_n 0, 1) := by decide +kernel
theorem dX2_shame_23 : decode cX2_shame 23 = .ok (.getfield 7, 3) := by decide +kernel
theorem dX2_shame_26 : decode cX2_shame 26 = .ok (.bipush 9, 2) := by decide +kernel
theorem dX2_shame_28 : decode cX2_shame 28 = .ok (.iload_n 1, 1) := by decide +kernel
theorem dX2_shame_29 : decode cX2_shame 29 = .ok (.iadd, 1) := by decide +kernel
theorem dX2_shame_30 : decode cX2_shame 30 = .ok (.iaload, 1) := by decide +kernel
theorem dX2_shame_31 : decode cX2_shame 31 = .ok (.iload_n 2, 1) := by decide +kernel
theorem dX2_shame_32 : decode cX2_shame 32 = .ok (.isub, 1) := by decide +kernel
theorem dX2_shame_33 : decode cX2_shame 33 = .ok (.invokevirtual 184, 3) := by decide +kernel
theorem dX2_shame_36 : decode cX2_shame 36 = .ok (.goto 4, 3) := by decide +kernel
theorem dX2_shame_39 : decode cX2_shame 39 = .ok (.iconst (-1), 1) := by decide +kernel
theorem dX2_shame_40 : decode cX2_shame 40 = .ok (.ireturn, 1) := by decide +kernel
theorem dX2_door_0 : decode cX2_door 0 = .ok (.aload_n 0, 1) := by decide +kernel
theorem dX2_door_1 : decode cX2_door 1 = .ok (.iload_n 1, 1) := by decide +kernel
theorem dX2_door_2 : decode cX2_door 2 = .ok (.invokevirtual 162, 3) := by decide +kernel
theorem dX2_door_5 : decode cX2_door 5 = .ok (.ifCond .eq 15, 3) := by decide +kernel
theorem dX2_door_8 : decode cX2_door 8 = .ok (.iload_n 2, 1) := by decide +kernel
theorem dX2_door_9 : decode cX2_door 9 = .ok (.i2l, 1) := by decide +kernel
theorem dX2_door_10 : decode cX2_door 10 = .ok (.lconst 0, 1) := by decide +kernel
theorem dX2_door_11 : decode cX2_door 11 = .ok (.ldc2_w 182, 3) := by decide +kernel
theorem dX2_door_14 : decode cX2_door 14 = .ok (.invokestatic 59, 3) := by decide +kernel
theorem dX2_door_17 : decode cX2_door 17 = .ok (.ifCond .ne 5, 3) := by decide +kernel
theorem dX2_door_20 : decode cX2_door 20 = .ok (.iconst (-1), 1) := by decide +kernel
theorem dX2_door_21 : decode cX2_door 21 = .ok (.ireturn, 1) := by decide +kernel
theorem dX2_door_22 : decode cX2_door 22 = .ok (.aload_n 0, 1) := by decide +kernel
theorem dX2_door_23 : decode cX2_door 23 = .ok (.getfield 7, 3) := by decide +kernel
theorem dX2_door_26 : decode cX2_door 26 = .ok (.iconst 3, 1) := by decide +kernel
theorem dX2_door_27 : decode cX2_door 27 = .ok (.iload_n 1, 1) := by decide +kernel
theorem dX2_door_28 : decode cX2_door 28 = .ok (.iadd, 1) := by decide +kernel
theorem dX2_door_29 : decode cX2_door 29 = .ok (.iaload, 1) := by decide +kernel
theorem dX2_door_30 : decode cX2_door 30 = .ok (.istore_n 3, 1) := by decide +kernel
theorem dX2_door_31 : decode cX2_door 31 = .ok (.iload_n 3, 1) := by decide +kernel
theorem dX2_door_32 : decode cX2_door 32 = .ok (.iload_n 2, 1) := by decide +kernel
theorem dX2_door_33 : decode cX2_door 33 = .ok (.if_icmp .ne 6, 3) := by decide +kernel
theorem dX2_door_36 : decode cX2_door 36 = .ok (.bipush (-4), 2) := by decide +kernel
theorem dX2_door_38 : decode cX2_door 38 = .ok (.ireturn, 1) := by decide +kernel
theorem dX2_door_39 : decode cX2_door 39 = .ok (.aload_n 0, 1) := by decide +kernel
theorem dX2_door_40 : decode cX2_door 40 = .ok (.getfield 7, 3) := by decide +kernel
theorem dX2_door_43 : decode cX2_door 43 = .ok (.iconst 0, 1) := by decide +kernel
theorem dX2_door_44 : decode cX2_door 44 = .ok (.iaload, 1) := by decide +kernel
theorem dX2_door_45 : decode cX2_door 45 = .ok (.bipush 40, 2) := by decide +kernel
theorem dX2_door_47 : decode cX2_door 47 = .ok (.if_icmp .ne 6, 3) := by decide +kernel
theorem dX2_door_50 : decode cX2_door 50 = .ok (.bipush (-2), 2) := by decide +kernel
theorem dX2_door_52 : decode cX2_door 52 = .ok (.ireturn, 1) := by decide +kernel
theorem dX2_door_53 : decode cX2_door 53 = .ok (.aload_n 0, 1) := by decide +kernel
theorem dX2_door_54 : decode cX2_door 54 = .ok (.invokevirtual 174, 3) := by decide +kernel
theorem dX2_door_57 : decode cX2_door 57 = .ok (.aload_n 0, 1) := by decide +kernel
theorem dX2_door_58 : decode cX2_door 58 = .ok (.getfield 7, 3) := by decide +kernel
theorem dX2_door_61 : decode cX2_door 61 = .ok (.iconst 3, 1) := by decide +kernel
theorem dX2_door_62 : decode cX2_door 62 = .ok (.iload_n 1, 1) := by decide +kernel
theorem dX2_door_63 : decode cX2_door 63 = .ok (.iadd, 1) := by decide +kernel
theorem dX2_door_64 : decode cX2_door 64 = .ok (.iload_n 2, 1) := by decide +kernel
theorem dX2_door_65 : decode cX2_door 65 = .ok (.iastore, 1) := by decide +kernel
theorem dX2_door_66 : decode cX2_door 66 = .ok (.iload_n 3, 1) := by decide +kernel
theorem dX2_door_67 : decode cX2_door 67 = .ok (.ireturn, 1) := by decide +kernel
theorem dX2_undo_0 : decode cX2_undo 0 = .ok (.iload_n 1, 1) := by decide +kernel
theorem dX2_undo_1 : decode cX2_undo 1 = .ok (.i2l, 1) := by decide +kernel
theorem dX2_undo_2 : decode cX2_undo 2 = .ok (.lconst 0, 1) := by decide +kernel
theorem dX2_undo_3 : decode cX2_undo 3 = .ok (.aload_n 0, 1) := by decide +kernel
theorem dX2_undo_4 : decode cX2_undo 4 = .ok (.getfield 7, 3) := by decide +kernel
theorem dX2_undo_7 : decode cX2_undo 7 = .ok (.iconst 0, 1) := by decide +kernel
theorem dX2_undo_8 : decode cX2_undo 8 = .ok (.iaload, 1) := by decide +kernel
theorem dX2_undo_9 : decode cX2_undo 9 = .ok (.i2l, 1) := by decide +kernel
theorem dX2_undo_10 : decode cX2_undo 10 = .ok (.invokestatic 59, 3) := by decide +kernel
theorem dX2_undo_13 : decode cX2_undo 13 = .ok (.ifCond .ne 5, 3) := by decide +kernel
theorem dX2_undo_16 : decode cX2_undo 16 = .ok (.iconst (-1), 1) := by decide +kernel
theorem dX2_undo_17 : decode cX2_undo 17 = .ok (.ireturn, 1) := by decide +kernel
theorem dX2_undo_18 : decode cX2_undo 18 = .ok (.aload_n 0, 1) := by decide +kernel
theorem dX2_undo_19 : decode cX2_undo 19 = .ok (.getfield 7, 3) := by decide +kernel
theorem dX2_undo_22 : decode cX2_undo 22 = .ok (.iconst 0, 1) := by decide +kernel
theorem dX2_undo_23 : decode cX2_undo 23 = .ok (.iaload, 1) := by decide +kernel
theorem dX2_undo_24 : decode cX2_undo 24 = .ok (.iload_n 1, 1) := by decide +kernel
theorem dX2_undo_25 : decode cX2_undo 25 = .ok (.isub, 1) := by decide +kernel
theorem dX2_undo_26 : decode cX2_undo 26 = .ok (.istore_n 2, 1) := by decide +kernel
theorem dX2_undo_27 : decode cX2_undo 27 = .ok (.iconst 0, 1) := by decide +kernel
theorem dX2_undo_28 : decode cX2_undo 28 = .ok (.istore_n 3, 1) := by decide +kernel
theorem dX2_undo_29 : decode cX2_undo 29 = .ok (.iload_n 3, 1) := by decide +kernel
theorem dX2_undo_30 : decode cX2_undo 30 = .ok (.bipush 20, 2) := by decide +kernel
theorem dX2_undo_32 : decode cX2_undo 32 = .ok (.if_icmp .ge 35, 3) := by decide +kernel
theorem dX2_undo_35 : decode cX2_undo 35 = .ok (.iload_n 2, 1) := by decide +kernel
theorem dX2_undo_36 : decode cX2_undo 36 = .ok (.ifCond .le 31, 3) := by decide +kernel
theorem dX2_undo_39 : decode cX2_undo 39 = .ok (.aload_n 0, 1) := by decide +kernel
theorem dX2_undo_40 : decode cX2_undo 40 = .ok (.getfield 7, 3) := by decide +kernel
theorem dX2_undo_43 : decode cX2_undo 43 = .ok (.iconst 1, 1) := by decide +kernel
theorem dX2_undo_44 : decode cX2_undo 44 = .ok (.iload_n 3, 1) := by decide +kernel
theorem dX2_undo_45 : decode cX2_undo 45 = .ok (.iadd, 1) := by decide +kernel
theorem dX2_undo_46 : decode cX2_undo 46 = .ok (.aload_n 0, 1) := by decide +kernel
theorem dX2_undo_47 : decode cX2_undo 47 = .ok (.getfield 7, 3) := by decide +kernel
theorem dX2_undo_50 : decode cX2_undo 50 = .ok (.bipush 21, 2) := by decide +kernel
theorem dX2_undo_52 : decode cX2_undo 52 = .ok (.bipush 20, 2) := by decide +kernel
theorem dX2_undo_54 : decode cX2_undo 54 = .ok (.iload_n 1, 1) := by decide +kernel
theorem dX2_undo_55 : decode cX2_undo 55 = .ok (.imul, 1) := by decide +kernel
theorem dX2_undo_56 : decode cX2_undo 56 = .ok (.iadd, 1) := by decide +kernel
theorem dX2_undo_57 : decode cX2_undo 57 = .ok (.iload_n 3, 1) := by decide +kernel
theorem dX2_undo_58 : decode cX2_undo 58 = .ok (.iadd, 1) := by decide +kernel
theorem dX2_undo_59 : decode cX2_undo 59 = .ok (.iaload, 1) := by decide +kernel
theorem dX2_undo_60 : decode cX2_undo 60 = .ok (.iastore, 1) := by decide +kernel
theorem dX2_undo_61 : decode cX2_undo 61 = .ok (.iinc 3 1, 3) := by decide +kernel
theorem dX2_undo_64 : decode cX2_undo 64 = .ok (.goto (-35), 3) := by decide +kernel
theorem dX2_undo_67 : decode cX2_undo 67 = .ok (.aload_n 0, 1) := by decide +kernel
theorem dX2_undo_68 : decode cX2_undo 68 = .ok (.getfield 7, 3) := by decide +kernel
theorem dX2_undo_71 : decode cX2_undo 71 = .ok (.iconst 0, 1) := by decide +kernel
theorem dX2_undo_72 : decode cX2_undo 72 = .ok (.iload_n 1, 1) := by decide +kernel
theorem dX2_undo_73 : decode cX2_undo 73 = .ok (.iastore, 1) := by decide +kernel
theorem dX2_undo_74 : decode cX2_undo 74 = .ok (.iload_n 2, 1) := by decide +kernel
theorem dX2_undo_75 : decode cX2_undo 75 = .ok (.ireturn, 1) := by decide +kernel
theorem dX2_copyRiver_0 : decode cX2_copyRiver 0 = .ok (.iconst 0, 1) := by decide +kernel
theorem dX2_copyRiver_1 : decode cX2_copyRiver 1 = .ok (.istore_n 3, 1) := by decide +kernel
theorem dX2_copyRiver_2 : decode cX2_copyRiver 2 = .ok (.iload_n 3, 1) := by decide +kernel
theorem dX2_copyRiver_3 : decode cX2_copyRiver 3 = .ok (.sipush 821, 3) := by decide +kernel
theorem dX2_copyRiver_6 : decode cX2_copyRiver 6 = .ok (.if_icmp .ge 25, 3) := by decide +kernel
theorem dX2_copyRiver_9 : decode cX2_copyRiver 9 = .ok (.aload_n 0, 1) := by decide +kernel
theorem dX2_copyRiver_10 : decode cX2_copyRiver 10 = .ok (.getfield 7, 3) := by decide +kernel
theorem dX2_copyRiver_13 : decode cX2_copyRiver 13 = .ok (.iload_n 2, 1) := by decide +kernel
theorem dX2_copyRiver_14 : decode cX2_copyRiver 14 = .ok (.iload_n 3, 1) := by decide +kernel
theorem dX2_copyRiver_15 : decode cX2_copyRiver 15 = .ok (.iadd, 1) := by decide +kernel
theorem dX2_copyRiver_16 : decode cX2_copyRiver 16 = .ok (.aload_n 0, 1) := by decide +kernel
theorem dX2_copyRiver_17 : decode cX2_copyRiver 17 = .ok (.getfield 7, 3) := by decide +kernel
theorem dX2_copyRiver_20 : decode cX2_copyRiver 20 = .ok (.iload_n 1, 1) := by decide +kernel
theorem dX2_copyRiver_21 : decode cX2_copyRiver 21 = .ok (.iload_n 3, 1) := by decide +kernel
theorem dX2_copyRiver_22 : decode cX2_copyRiver 22 = .ok (.iadd, 1) := by decide +kernel
theorem dX2_copyRiver_23 : decode cX2_copyRiver 23 = .ok (.iaload, 1) := by decide +kernel
theorem dX2_copyRiver_24 : decode cX2_copyRiver 24 = .ok (.iastore, 1) := by decide +kernel
theorem dX2_copyRiver_25 : decode cX2_copyRiver 25 = .ok (.iinc 3 1, 3) := by decide +kernel
theorem dX2_copyRiver_28 : decode cX2_copyRiver 28 = .ok (.goto (-26), 3) := by decide +kernel
theorem dX2_copyRiver_31 : decode cX2_copyRiver 31 = .ok (.return_, 1) := by decide +kernel
theorem dX2_keep_0 : decode cX2_keep 0 = .ok (.iload_n 1, 1) := by decide +kernel
theorem dX2_keep_1 : decode cX2_keep 1 = .ok (.i2l, 1) := by decide +kernel
theorem dX2_keep_2 : decode cX2_keep 2 = .ok (.lconst 0, 1) := by decide +kernel
theorem dX2_keep_3 : decode cX2_keep 3 = .ok (.ldc2_w 187, 3) := by decide +kernel
theorem dX2_keep_6 : decode cX2_keep 6 = .ok (.invokestatic 59, 3) := by decide +kernel
theorem dX2_keep_9 : decode cX2_keep 9 = .ok (.ifCond .ne 5, 3) := by decide +kernel
theorem dX2_keep_12 : decode cX2_keep 12 = .ok (.iconst (-1), 1) := by decide +kernel
theorem dX2_keep_13 : decode cX2_keep 13 = .ok (.ireturn, 1) := by decide +kernel
theorem dX2_keep_14 : decode cX2_keep 14 = .ok (.aload_n 0, 1) := by decide +kernel
theorem dX2_keep_15 : decode cX2_keep 15 = .ok (.getfield 136, 3) := by decide +kernel
theorem dX2_keep_18 : decode cX2_keep 18 = .ok (.ifCond .ne 6, 3) := by decide +kernel
theorem dX2_keep_21 : decode cX2_keep 21 = .ok (.bipush (-4), 2) := by decide +kernel
theorem dX2_keep_23 : decode cX2_keep 23 = .ok (.ireturn, 1) := by decide +kernel
theorem dX2_keep_24 : decode cX2_keep 24 = .ok (.aload_n 0, 1) := by decide +kernel
theorem dX2_keep_25 : decode cX2_keep 25 = .ok (.iconst 0, 1) := by decide +kernel
theorem dX2_keep_26 : decode cX2_keep 26 = .ok (.sipush 821, 3) := by decide +kernel
theorem dX2_keep_29 : decode cX2_keep 29 = .ok (.iconst 1, 1) := by decide +kernel
theorem dX2_keep_30 : decode cX2_keep 30 = .ok (.iload_n 1, 1) := by decide +kernel
theorem dX2_keep_31 : decode cX2_keep 31 = .ok (.iadd, 1) := by decide +kernel
theorem dX2_keep_32 : decode cX2_keep 32 = .ok (.imul, 1) := by decide +kernel
theorem dX2_keep_33 : decode cX2_keep 33 = .ok (.invokevirtual 189, 3) := by decide +kernel
theorem dX2_keep_36 : decode cX2_keep 36 = .ok (.aload_n 0, 1) := by decide +kernel
theorem dX2_keep_37 : decode cX2_keep 37 = .ok (.getfield 7, 3) := by decide +kernel
theorem dX2_keep_40 : decode cX2_keep 40 = .ok (.iconst 0, 1) := by decide +kernel
theorem dX2_keep_41 : decode cX2_keep 41 = .ok (.iaload, 1) := by decide +kernel
theorem dX2_keep_42 : decode cX2_keep 42 = .ok (.ireturn, 1) := by decide +kernel
theorem dX2_on_0 : decode cX2_on 0 = .ok (.iload_n 1, 1) := by decide +kernel
theorem dX2_on_1 : decode cX2_on 1 = .ok (.i2l, 1) := by decide +kernel
theorem dX2_on_2 : decode cX2_on 2 = .ok (.lconst 0, 1) := by decide +kernel
theorem dX2_on_3 : decode cX2_on 3 = .ok (.ldc2_w 187, 3) := by decide +kernel
theorem dX2_on_6 : decode cX2_on 6 = .ok (.invokestatic 59, 3) := by decide +kernel
theorem dX2_on_9 : decode cX2_on 9 = .ok (.ifCond .ne 5, 3) := by decide +kernel
theorem dX2_on_12 : decode cX2_on 12 = .ok (.iconst (-1), 1) := by decide +kernel
theorem dX2_on_13 : decode cX2_on 13 = .ok (.ireturn, 1) := by decide +kernel
theorem dX2_on_14 : decode cX2_on 14 = .ok (.aload_n 0, 1) := by decide +kernel
theorem dX2_on_15 : decode cX2_on 15 = .ok (.getfield 7, 3) := by decide +kernel
theorem dX2_on_18 : decode cX2_on 18 = .ok (.sipush 821, 3) := by decide +kernel
theorem dX2_on_21 : decode cX2_on 21 = .ok (.iconst 1, 1) := by decide +kernel
theorem dX2_on_22 : decode cX2_on 22 = .ok (.iload_n 1, 1) := by decide +kernel
theorem dX2_on_23 : decode cX2_on 23 = .ok (.iadd, 1) := by decide +kernel
theorem dX2_on_24 : decode cX2_on 24 = .ok (.imul, 1) := by decide +kernel
theorem dX2_on_25 : decode cX2_on 25 = .ok (.iconst 0, 1) := by decide +kernel
theorem dX2_on_26 : decode cX2_on 26 = .ok (.iadd, 1) := by decide +kernel
theorem dX2_on_27 : decode cX2_on 27 = .ok (.iaload, 1) := by decide +kernel
theorem dX2_on_28 : decode cX2_on 28 = .ok (.ifCond .ge 9, 3) := by decide +kernel
theorem dX2_on_31 : decode cX2_on 31 = .ok (.aload_n 0, 1) := by decide +kernel
theorem dX2_on_32 : decode cX2_on 32 = .ok (.iconst 1, 1) := by decide +kernel
theorem dX2_on_33 : decode cX2_on 33 = .ok (.invokevirtual 69, 3) := by decide +kernel
theorem dX2_on_36 : decode cX2_on 36 = .ok (.ireturn, 1) := by decide +kernel
theorem dX2_on_37 : decode cX2_on 37 = .ok (.aload_n 0, 1) := by decide +kernel
theorem dX2_on_38 : decode cX2_on 38 = .ok (.sipush 821, 3) := by decide +kernel
theorem dX2_on_41 : decode cX2_on 41 = .ok (.iconst 1, 1) := by decide +kernel
theorem dX2_on_42 : decode cX2_on 42 = .ok (.iload_n 1, 1) := by decide +kernel
theorem dX2_on_43 : decode cX2_on 43 = .ok (.iadd, 1) := by decide +kernel
theorem dX2_on_44 : decode cX2_on 44 = .ok (.imul, 1) := by decide +kernel
theorem dX2_on_45 : decode cX2_on 45 = .ok (.iconst 0, 1) := by decide +kernel
theorem dX2_on_46 : decode cX2_on 46 = .ok (.invokevirtual 189, 3) := by decide +kernel
theorem dX2_on_49 : decode cX2_on 49 = .ok (.aload_n 0, 1) := by decide +kernel
theorem dX2_on_50 : decode cX2_on 50 = .ok (.getfield 7, 3) := by decide +kernel
theorem dX2_on_53 : decode cX2_on 53 = .ok (.iconst 0, 1) := by decide +kernel
theorem dX2_on_54 : decode cX2_on 54 = .ok (.iaload, 1) := by decide +kernel
theorem dX2_on_55 : decode cX2_on 55 = .ok (.ireturn, 1) := by decide +kernel
theorem dX2_layTried_0 : decode cX2_layTried 0 = .ok (.iconst 0, 1) := by decide +kernel
theorem dX2_layTried_1 : decode cX2_layTried 1 = .ok (.istore_n 1, 1) := by decide +kernel
theorem dX2_layTried_2 : decode cX2_layTried 2 = .ok (.iload_n 1, 1) := by decide +kernel
theorem dX2_layTried_3 : decode cX2_layTried 3 = .ok (.bipush 21, 2) := by decide +kernel
theorem dX2_layTried_5 : decode cX2_layTried 5 = .ok (.if_icmp .ge 25, 3) := by decide +kernel
theorem dX2_layTried_8 : decode cX2_layTried 8 = .ok (.aload_n 0, 1) := by decide +kernel
theorem dX2_layTried_9 : decode cX2_layTried 9 = .ok (.getfield 7, 3) := by decide +kernel
theorem dX2_layTried_12 : decode cX2_layTried 12 = .ok (.sipush 3284, 3) := by decide +kernel
theorem dX2_layTried_15 : decode cX2_layTried 15 = .ok (.iload_n 1, 1) := by decide +kernel
theorem dX2_layTried_16 : decode cX2_layTried 16 = .ok (.iadd, 1) := by decide +kernel
theorem dX2_layTried_17 : decode cX2_layTried 17 = .ok (.aload_n 0, 1) := by decide +kernel
theorem dX2_layTried_18 : decode cX2_layTried 18 = .ok (.getfield 7, 3) := by decide +kernel
theorem dX2_layTried_21 : decode cX2_layTried 21 = .ok (.iload_n 1, 1) := by decide +kernel
theorem dX2_layTried_22 : decode cX2_layTried 22 = .ok (.iaload, 1) := by decide +kernel
theorem dX2_layTried_23 : decode cX2_layTried 23 = .ok (.iastore, 1) := by decide +kernel
theorem dX2_layTried_24 : decode cX2_layTried 24 = .ok (.iinc 1 1, 3) := by decide +kernel
theorem dX2_layTried_27 : decode cX2_layTried 27 = .ok (.goto (-25), 3) := by decide +kernel
theorem dX2_layTried_30 : decode cX2_layTried 30 = .ok (.return_, 1) := by decide +kernel
theorem mt_X2_isOf : (Cond.instanceMethod yX2_isOf ∈ gd_tbl ∧ Cond.selects yX2_isOf.cls yX2_isOf yX2_isOf ∈ gd_tbl) ∧ Cond.initialized yX2_isOf.cls ∈ gd_tbl ∧ Cond.code yX2_isOf cX2_isOf 4 (some .boolean) ∈ gd_tbl := ⟨⟨in_gd (i := 819) (by decide +kernel) rfl, in_gd (i := 53) (by decide +kernel) rfl⟩, in_gd (i := 87) (by decide +kernel) rfl, in_gd (i := 820) (by decide +kernel) rfl⟩
theorem yo_X2_isOf : yOk yX2_isOf 2 := ⟨by decide, by decide, by decide +kernel⟩
theorem l_X2_168 : mlV RX2 168 yX2_isOf cX2_isOf 4 (some .boolean) := ⟨in_gd (i := 817) (by decide +kernel) rfl, mt_X2_isOf⟩
theorem mt_X2_lesserThan : (Cond.instanceMethod yX2_lesserThan ∈ gd_tbl ∧ Cond.selects yX2_lesserThan.cls yX2_lesserThan yX2_lesserThan ∈ gd_tbl) ∧ Cond.initialized yX2_lesserThan.cls ∈ gd_tbl ∧ Cond.code yX2_lesserThan cX2_lesserThan 4 (some .int) ∈ gd_tbl := ⟨⟨in_gd (i := 823) (by decide +kernel) rfl, in_gd (i := 54) (by decide +kernel) rfl⟩, in_gd (i := 87) (by decide +kernel) rfl, in_gd (i := 824) (by decide +kernel) rfl⟩
theorem yo_X2_lesserThan : yOk yX2_lesserThan 1 := ⟨by decide, by decide, by decide +kernel⟩
theorem l_X2_171 : mlV RX2 171 yX2_lesserThan cX2_lesserThan 4 (some .int) := ⟨in_gd (i := 821) (by decide +kernel) rfl, mt_X2_lesserThan⟩
theorem mt_X2_keepPast : (Cond.instanceMethod yX2_keepPast ∈ gd_tbl ∧ Cond.selects yX2_keepPast.cls yX2_keepPast yX2_keepPast ∈ gd_tbl) ∧ Cond.initialized yX2_keepPast.cls ∈ gd_tbl ∧ Cond.code yX2_keepPast cX2_keepPast 2 (none) ∈ gd_tbl := ⟨⟨in_gd (i := 831) (by decide +kernel) rfl, in_gd (i := 55) (by decide +kernel) rfl⟩, in_gd (i := 87) (by decide +kernel) rfl, in_gd (i := 832) (by decide +kernel) rfl⟩
theorem yo_X2_keepPast : yOk yX2_keepPast 0 := ⟨by decide, by decide, by decide +kernel⟩
theorem l_X2_174 : mlV RX2 174 yX2_keepPast cX2_keepPast 2 (none) := ⟨in_gd (i := 829) (by decide +kernel) rfl, mt_X2_keepPast⟩
theorem mt_X2_passes : (Cond.instanceMethod yX2_passes ∈ gd_tbl ∧ Cond.selects yX2_passes.cls yX2_passes yX2_passes ∈ gd_tbl) ∧ Cond.initialized yX2_passes.cls ∈ gd_tbl ∧ Cond.code yX2_passes cX2_passes 5 (some .int) ∈ gd_tbl := ⟨⟨in_gd (i := 835) (by decide +kernel) rfl, in_gd (i := 56) (by decide +kernel) rfl⟩, in_gd (i := 87) (by decide +kernel) rfl, in_gd (i := 836) (by decide +kernel) rfl⟩
theorem yo_X2_passes : yOk yX2_passes 1 := ⟨by decide, by decide, by decide +kernel⟩
theorem l_X2_177 : mlV RX2 177 yX2_passes cX2_passes 5 (some .int) := ⟨in_gd (i := 833) (by decide +kernel) rfl, mt_X2_passes⟩
theorem k_X2_180 : Cond.constantLong RX2 180 (Int64.ofInt 20) ∈ gd_tbl := in_gd (i := 857) (by decide +kernel) rfl
theorem k_X2_182 : Cond.constantLong RX2 182 (Int64.ofInt 9) ∈ gd_tbl := in_gd (i := 852) (by decide +kernel) rfl
theorem mt_X2_makeDaring : (Cond.instanceMethod yX2_makeDaring ∈ gd_tbl ∧ Cond.selects yX2_makeDaring.cls yX2_makeDaring yX2_makeDaring ∈ gd_tbl) ∧ Cond.initialized yX2_makeDaring.cls ∈ gd_tbl ∧ Cond.code yX2_makeDaring cX2_makeDaring 3 (some .int) ∈ gd_tbl := ⟨⟨in_gd (i := 855) (by decide +kernel) rfl, in_gd (i := 59) (by decide +kernel) rfl⟩, in_gd (i := 87) (by decide +kernel) rfl, in_gd (i := 856) (by decide +kernel) rfl⟩
theorem yo_X2_makeDaring : yOk yX2_makeDaring 2 := ⟨by decide, by decide, by decide +kernel⟩
theorem l_X2_184 : mlV RX2 184 yX2_makeDaring cX2_makeDaring 3 (some .int) := ⟨in_gd (i := 853) (by decide +kernel) rfl, mt_X2_makeDaring⟩
theorem k_X2_187 : Cond.constantLong RX2 187 (Int64.ofInt 2) ∈ gd_tbl := in_gd (i := 874) (by decide +kernel) rfl
theorem mt_X2_copyRiver : (Cond.instanceMethod yX2_copyRiver ∈ gd_tbl ∧ Cond.selects yX2_copyRiver.cls yX2_copyRiver yX2_copyRiver ∈ gd_tbl) ∧ Cond.initialized yX2_copyRiver.cls ∈ gd_tbl ∧ Cond.code yX2_copyRiver cX2_copyRiver 4 (none) ∈ gd_tbl := ⟨⟨in_gd (i := 877) (by decide +kernel) rfl, in_gd (i := 60) (by decide +kernel) rfl⟩, in_gd (i := 87) (by decide +kernel) rfl, in_gd (i := 878) (by decide +kernel) rfl⟩
theorem yo_X2_copyRiver : yOk yX2_copyRiver 2 := ⟨by decide, by decide, by decide +kernel⟩
theorem l_X2_189 : mlV RX2 189 yX2_copyRiver cX2_copyRiver 4 (none) := ⟨in_gd (i := 875) (by decide +kernel) rfl, mt_X2_copyRiver⟩
def fX2_isOf (p1 : Int) (p2 : Int) (μ : Mem) : Option Int :=
  grd (0 ≤ p1 ∧ p1 < 6) <|
  mlet ((μ 62 (p1).toNat)) fun x1 =>
  mlet (
    some 1
    : Option Int) fun (K2 : Option Int) =>
  if x1 = p2 then
    K2
  else
    mlet (
      mlet (
        some 0
        : Option Int) fun (K4 : Option Int) =>
      if ¬ p2 = 2 then
        K4
      else
        if ¬ x1 = 5 then
          K4
        else
          K2
      : Option Int) fun (K3 : Option Int) =>
    if ¬ p2 = 3 then
      K3
    else
      if x1 = 4 then
        K2
      else
        K3
theorem K_X2_isOf  (p1 : Int) (p2 : Int)  (μ : Mem) : Con yX2_isOf cX2_isOf 4 (some .boolean) 2 [.inr (.inr 60), .inl p1, .inl p2] μ (fX2_isOf p1 p2 μ) (rI μ) := by
  refine con_of (own := RX2) (by decide) rfl (Nat.le_of_ble_eq_true rfl) ?_
  show Sim cX2_isOf 4 RX2 (2) (some .boolean) (rI μ) 0 [(0, .inr (.inr 60)), (1, .inl p1), (2, .inl p2)] [] μ (fX2_isOf p1 p2 μ)
  unfold fX2_isOf
  refine S_aload_n dX2_isOf_0 rfl ?_
  refine S_getR (c1 := 62) dX2_isOf_1 rfl fl_X2_13 rfl rfl rfl ?_
  refine S_iload_n dX2_isOf_4 rfl ?_
  refine S_iald (N := 6) dX2_isOf_5 rfl (by decide) rfl ?_
  refine S_let (fun x1 => ?_)
  refine S_istore_n (lv' := [(3, .inl x1), (0, .inr (.inr 60)), (1, .inl p1), (2, .inl p2)]) dX2_isOf_6 rfl rfl ?_
  refine S_iload_n dX2_isOf_7 rfl ?_
  refine S_iload_n dX2_isOf_8 rfl ?_
  refine S_jn (fun (K2 : Option Int) => Sim cX2_isOf 4 RX2 (2) (some .boolean) (rI μ) 32 [] [] μ K2) ?_ (fun K2 hK2 => ?_)
  · skip
    refine S_iconst dX2_isOf_32 rfl ?_
    refine S_goto (tgt := 37) dX2_isOf_33 (by decide) ?_
    exact S_zret dX2_isOf_37 rfl (by decide) rfl
  refine S_ic_eq (tgt := 32) dX2_isOf_9 (by decide) (fun h9 => ?_) (fun h9 => ?_)
  · exact S_sub [] rfl (hK2)
  · refine S_iload_n dX2_isOf_12 rfl ?_
    refine S_iconst dX2_isOf_13 rfl ?_
    refine S_jn (fun (K3 : Option Int) => Sim cX2_isOf 4 RX2 (2) (some .boolean) (rI μ) 22 [(2, .inl p2), (3, .inl x1)] [] μ K3) ?_ (fun K3 hK3 => ?_)
    · skip
      refine S_iload_n dX2_isOf_22 rfl ?_
      refine S_iconst dX2_isOf_23 rfl ?_
      refine S_jn (fun (K4 : Option Int) => Sim cX2_isOf 4 RX2 (2) (some .boolean) (rI μ) 36 [] [] μ K4) ?_ (fun K4 hK4 => ?_)
      · skip
        refine S_iconst dX2_isOf_36 rfl ?_
        exact S_zret dX2_isOf_37 rfl (by decide) rfl
      refine S_ic_ne (tgt := 36) dX2_isOf_24 (by decide) (fun h6 => ?_) (fun h6 => ?_)
      · exact S_sub [] rfl (hK4)
      · refine S_iload_n dX2_isOf_27 rfl ?_
        refine S_iconst dX2_isOf_28 rfl ?_
        refine S_ic_ne (tgt := 36) dX2_isOf_29 (by decide) (fun h5 => ?_) (fun h5 => ?_)
        · exact S_sub [] rfl (hK4)
        · exact S_sub [] rfl (hK2)
    refine S_ic_ne (tgt := 22) dX2_isOf_14 (by decide) (fun h8 => ?_) (fun h8 => ?_)
    · exact S_sub [3, 0] rfl (hK3)
    · refine S_iload_n dX2_isOf_17 rfl ?_
      refine S_iconst dX2_isOf_18 rfl ?_
      refine S_ic_eq (tgt := 32) dX2_isOf_19 (by decide) (fun h7 => ?_) (fun h7 => ?_)
      · exact S_sub [] rfl (hK2)
      · exact S_sub [3, 0] rfl (hK3)
def fX2_lesserThan_L4 (μ : Mem) (p1 : Int) : Nat → Int → Int → Option Int
  | 0, _, _ => none
  | n3 + 1, x1, x2 =>
    if (μ 60 1) ≤ x2 then
      some x1
    else
      grd (0 ≤ (w32 (9 + x2)) ∧ (w32 (9 + x2)) < 3305) <|
      mlet (fun (x4 : Int) =>
        mlet ((w32 (x1 + x4))) fun x6 =>
        mlet (w32 (x2 + 1)) fun x7 =>
        fX2_lesserThan_L4 μ p1 n3 x6 x7
        ) fun (K5 : Int → Option Int) =>
      if p1 ≤ (μ 61 ((w32 (9 + x2))).toNat) then
        K5 0
      else
        K5 1
def fX2_lesserThan (p1 : Int) (μ : Mem) : Option Int :=
  fX2_lesserThan_L4 μ p1 fuel 0 0
theorem K_X2_lesserThan  (p1 : Int)  (μ : Mem) : Con yX2_lesserThan cX2_lesserThan 4 (some .int) 2 [.inr (.inr 60), .inl p1] μ (fX2_lesserThan p1 μ) (rI μ) := by
  refine con_of (own := RX2) (by decide) rfl (Nat.le_of_ble_eq_true rfl) ?_
  show Sim cX2_lesserThan 4 RX2 (2) (some .int) (rI μ) 0 [(0, .inr (.inr 60)), (1, .inl p1)] [] μ (fX2_lesserThan p1 μ)
  unfold fX2_lesserThan
  refine S_iconst dX2_lesserThan_0 rfl ?_
  refine S_istore_n (lv' := [(2, .inl 0), (0, .inr (.inr 60)), (1, .inl p1)]) dX2_lesserThan_1 rfl rfl ?_
  refine S_iconst dX2_lesserThan_2 rfl ?_
  refine S_istore_n (lv' := [(3, .inl 0), (2, .inl 0), (0, .inr (.inr 60)), (1, .inl p1)]) dX2_lesserThan_3 rfl rfl ?_
  have hL4 : ∀ (n3 : Nat) (x1 : Int) (x2 : Int), Sim cX2_lesserThan 4 RX2 (2) (some .int) (rI μ) 4 [(0, .inr (.inr 60)), (1, .inl p1), (2, .inl x1), (3, .inl x2)] [] μ (fX2_lesserThan_L4 μ p1 n3 x1 x2) := by
    intro n3
    induction n3 with
    | zero =>
      intro x1 x2
      exact S_none rfl
    | succ n3 ih =>
      intro x1 x2
      rw [fX2_lesserThan_L4]
      refine S_iload_n dX2_lesserThan_4 rfl ?_
      refine S_aload_n dX2_lesserThan_5 rfl ?_
      refine S_getI dX2_lesserThan_6 rfl fl_X2_136 rfl rfl ?_
      refine S_ic_ge (tgt := 39) dX2_lesserThan_9 (by decide) (fun h9 => ?_) (fun h9 => ?_)
      · refine S_iload_n dX2_lesserThan_39 rfl ?_
        exact S_iret dX2_lesserThan_40 rfl rfl
      · refine S_iload_n dX2_lesserThan_12 rfl ?_
        refine S_aload_n dX2_lesserThan_13 rfl ?_
        refine S_getR (c1 := 61) dX2_lesserThan_14 rfl fl_X2_7 rfl rfl rfl ?_
        refine S_bipush dX2_lesserThan_17 rfl (by decide) ?_
        refine S_iload_n dX2_lesserThan_19 rfl ?_
        refine S_iadd dX2_lesserThan_20 ?_
        refine S_iald (N := 3305) dX2_lesserThan_21 rfl (by decide) rfl ?_
        refine S_iload_n dX2_lesserThan_22 rfl ?_
        refine S_jn (fun (K5 : Int → Option Int) => ∀ (x4 : Int), Sim cX2_lesserThan 4 RX2 (2) (some .int) (rI μ) 31 [(0, .inr (.inr 60)), (1, .inl p1), (3, .inl x2)] [.inl x4, .inl x1] μ (K5 x4)) ?_ (fun K5 hK5 => ?_)
        · intro x4
          refine S_iadd dX2_lesserThan_31 ?_
          refine S_let (fun x6 => ?_)
          refine S_istore_n (lv' := [(2, .inl x6), (0, .inr (.inr 60)), (1, .inl p1), (3, .inl x2)]) dX2_lesserThan_32 rfl rfl ?_
          refine S_iinc (lv' := fun x7 => [(3, .inl x7), (2, .inl x6), (0, .inr (.inr 60)), (1, .inl p1)]) dX2_lesserThan_33 rfl rfl rfl (fun _ => rfl) (fun x7 => ?_)
          refine S_goto (tgt := 4) dX2_lesserThan_36 (by decide) ?_
          exact S_sub [2, 3, 1, 0] rfl (ih x6 x7)
        refine S_ic_ge (tgt := 30) dX2_lesserThan_23 (by decide) (fun h8 => ?_) (fun h8 => ?_)
        · refine S_iconst dX2_lesserThan_30 rfl ?_
          exact S_sub [0, 1, 3] rfl (hK5 0)
        · refine S_iconst dX2_lesserThan_26 rfl ?_
          refine S_goto (tgt := 31) dX2_lesserThan_27 (by decide) ?_
          exact S_sub [0, 1, 3] rfl (hK5 1)
  exact S_sub [2, 3, 1, 0] rfl (hL4 fuel 0 0)
def fX2_mark (p1 : Int) (p2 : Int) (μ : Mem) : Option (Int × Mem) :=
  (fX2_isOne p1 μ).bind fun x1 =>
  if x1 = 0 then
    some ((-1), μ)
  else
    (fX2_in p2 1 5 μ).bind fun x2 =>
    if ¬ x2 = 0 then
      (fX2_isOf p1 p2 μ).bind fun x3 =>
      if ¬ x3 = 0 then
        grd (0 ≤ (w32 (9 + p1)) ∧ (w32 (9 + p1)) < 3305) <|
        mlet ((μ 61 ((w32 (9 + p1))).toNat)) fun x4 =>
        if p2 = 1 then
          (fX2_daresBy 1 x4 (w32 ((μ 61 1) + 1)) 0 μ).bind fun x6 =>
          some (x6, μ)
        else
          if p2 = 2 then
            if 5 ≤ x4 then
              some (0, μ)
            else
              some ((w32 (5 - x4)), μ)
          else
            if p2 = 3 then
              (fX2_lesserThan x4 μ).bind fun x10 =>
              some (x10, μ)
            else
              if p2 = 4 then
                (fX2_farOf 0 p1 μ).bind fun x12 =>
                (fX2_daresBy 4 0 0 x12 μ).bind fun x13 =>
                some (x13, μ)
              else
                (fX2_daresBy 2 x4 0 0 μ).bind fun x14 =>
                some (x14, μ)
      else
        bnd2 (fX2_find 3 μ) fun x15 μ16 =>
        some (x15, μ16)
    else
      some ((-1), μ)
theorem K_X2_mark  (p1 : Int) (p2 : Int)  (μ : Mem) : Con yX2_mark cX2_mark 4 (some .int) 4 [.inr (.inr 60), .inl p1, .inl p2] μ (fX2_mark p1 p2 μ) wI := by
  refine con_of (own := RX2) (by decide) rfl (Nat.le_of_ble_eq_true rfl) ?_
  show Sim cX2_mark 4 RX2 (4) (some .int) wI 0 [(0, .inr (.inr 60)), (1, .inl p1), (2, .inl p2)] [] μ (fX2_mark p1 p2 μ)
  unfold fX2_mark
  refine S_aload_n dX2_mark_0 rfl ?_
  refine S_iload_n dX2_mark_1 rfl ?_
  refine S_callV_I dX2_mark_2 [.inl p1] (K_X2_isOne p1 μ) l_X2_162 yo_X2_isOne rfl rfl rfl rfl rfl (fun x1 => ?_)
  refine S_if_eq (tgt := 20) dX2_mark_5 (by decide) (fun h19 => ?_) (fun h19 => ?_)
  · refine S_iconst dX2_mark_20 rfl ?_
    exact S_iret dX2_mark_21 rfl rfl
  · refine S_iload_n dX2_mark_8 rfl ?_
    refine S_i2l dX2_mark_9 ?_
    refine S_lconst (n := 1) dX2_mark_10 (by decide) rfl ?_
    refine S_ldc2 dX2_mark_11 rfl k_X2_57 ?_
    refine S_callS_I dX2_mark_14 [.inr (.inl p2), .inr (.inl 1), .inr (.inl 5)] (K_X2_in p2 1 5 μ) l_X2_59 yo_X2_in rfl rfl rfl (fun x2 => ?_)
    refine S_if_ne (tgt := 22) dX2_mark_17 (by decide) (fun h18 => ?_) (fun h18 => ?_)
    · refine S_aload_n dX2_mark_22 rfl ?_
      refine S_iload_n dX2_mark_23 rfl ?_
      refine S_iload_n dX2_mark_24 rfl ?_
      refine S_callV_I dX2_mark_25 [.inl p1, .inl p2] (K_X2_isOf p1 p2 μ) l_X2_168 yo_X2_isOf rfl rfl rfl rfl rfl (fun x3 => ?_)
      refine S_if_ne (tgt := 37) dX2_mark_28 (by decide) (fun h17 => ?_) (fun h17 => ?_)
      · refine S_aload_n dX2_mark_37 rfl ?_
        refine S_getR (c1 := 61) dX2_mark_38 rfl fl_X2_7 rfl rfl rfl ?_
        refine S_bipush dX2_mark_41 rfl (by decide) ?_
        refine S_iload_n dX2_mark_43 rfl ?_
        refine S_iadd dX2_mark_44 ?_
        refine S_iald (N := 3305) dX2_mark_45 rfl (by decide) rfl ?_
        refine S_let (fun x4 => ?_)
        refine S_istore_n (lv' := [(3, .inl x4), (0, .inr (.inr 60)), (1, .inl p1), (2, .inl p2)]) dX2_mark_46 rfl rfl ?_
        refine S_iload_n dX2_mark_47 rfl ?_
        refine S_if (fun h5 => ?_) (fun h5 => ?_)
        · refine S_tsIn (n := 1) (tgt := 80) dX2_mark_48 h5 (by decide) (by decide) rfl (by decide) ?_
          refine S_iconst dX2_mark_80 rfl ?_
          refine S_iload_n dX2_mark_81 rfl ?_
          refine S_aload_n dX2_mark_82 rfl ?_
          refine S_getR (c1 := 61) dX2_mark_83 rfl fl_X2_7 rfl rfl rfl ?_
          refine S_iconst dX2_mark_86 rfl ?_
          refine S_ialdK (k := 1) dX2_mark_87 rfl (by decide) (by decide) ?_
          refine S_iconst dX2_mark_88 rfl ?_
          refine S_iadd dX2_mark_89 ?_
          refine S_iconst dX2_mark_90 rfl ?_
          refine S_callS_I dX2_mark_91 [.inl 1, .inl x4, .inl (w32 ((μ 61 1) + 1)), .inl 0] (K_X2_daresBy 1 x4 (w32 ((μ 61 1) + 1)) 0 μ) l_X2_145 yo_X2_daresBy rfl rfl rfl (fun x6 => ?_)
          exact S_iret dX2_mark_94 rfl rfl
        · refine S_if (fun h7 => ?_) (fun h7 => ?_)
          · refine S_tsIn (n := 2) (tgt := 95) dX2_mark_48 h7 (by decide) (by decide) rfl (by decide) ?_
            refine S_iload_n dX2_mark_95 rfl ?_
            refine S_iconst dX2_mark_96 rfl ?_
            refine S_ic_ge (tgt := 106) dX2_mark_97 (by decide) (fun h8 => ?_) (fun h8 => ?_)
            · refine S_iconst dX2_mark_106 rfl ?_
              exact S_iret dX2_mark_107 rfl rfl
            · refine S_iconst dX2_mark_100 rfl ?_
              refine S_iload_n dX2_mark_101 rfl ?_
              refine S_isub dX2_mark_102 ?_
              refine S_goto (tgt := 107) dX2_mark_103 (by decide) ?_
              exact S_iret dX2_mark_107 rfl rfl
          · refine S_if (fun h9 => ?_) (fun h9 => ?_)
            · refine S_tsIn (n := 3) (tgt := 108) dX2_mark_48 h9 (by decide) (by decide) rfl (by decide) ?_
              refine S_aload_n dX2_mark_108 rfl ?_
              refine S_iload_n dX2_mark_109 rfl ?_
              refine S_callV_I dX2_mark_110 [.inl x4] (K_X2_lesserThan x4 μ) l_X2_171 yo_X2_lesserThan rfl rfl rfl rfl rfl (fun x10 => ?_)
              exact S_iret dX2_mark_113 rfl rfl
            · refine S_if (fun h11 => ?_) (fun h11 => ?_)
              · refine S_tsIn (n := 4) (tgt := 114) dX2_mark_48 h11 (by decide) (by decide) rfl (by decide) ?_
                refine S_iconst dX2_mark_114 rfl ?_
                refine S_iconst dX2_mark_115 rfl ?_
                refine S_iconst dX2_mark_116 rfl ?_
                refine S_aload_n dX2_mark_117 rfl ?_
                refine S_iconst dX2_mark_118 rfl ?_
                refine S_iload_n dX2_mark_119 rfl ?_
                refine S_callV_I dX2_mark_120 [.inl 0, .inl p1] (K_X2_farOf 0 p1 μ) l_X2_142 yo_X2_farOf rfl rfl rfl rfl rfl (fun x12 => ?_)
                refine S_callS_I dX2_mark_123 [.inl 4, .inl 0, .inl 0, .inl x12] (K_X2_daresBy 4 0 0 x12 μ) l_X2_145 yo_X2_daresBy rfl rfl rfl (fun x13 => ?_)
                exact S_iret dX2_mark_126 rfl rfl
              · refine S_tsD (tgt := 127) [1, 2, 3, 4] dX2_mark_48 (by decide) (by decide) (by intro v9 h9 e9; simp only [List.mem_cons, List.not_mem_nil, or_false] at h9; omega) ?_
                refine S_iconst dX2_mark_127 rfl ?_
                refine S_iload_n dX2_mark_128 rfl ?_
                refine S_iconst dX2_mark_129 rfl ?_
                refine S_iconst dX2_mark_130 rfl ?_
                refine S_callS_I dX2_mark_131 [.inl 2, .inl x4, .inl 0, .inl 0] (K_X2_daresBy 2 x4 0 0 μ) l_X2_145 yo_X2_daresBy rfl rfl rfl (fun x14 => ?_)
                exact S_iret dX2_mark_134 rfl rfl
      · refine S_aload_n dX2_mark_31 rfl ?_
        refine S_iconst dX2_mark_32 rfl ?_
        refine S_callV_M2 dX2_mark_33 [.inl 3] (K_X2_find 3 μ) l_X2_69 yo_X2_find rfl rfl rfl rfl rfl (fun x15 μ16 => ?_)
        exact S_iret dX2_mark_36 rfl rfl
    · refine S_iconst dX2_mark_20 rfl ?_
      exact S_iret dX2_mark_21 rfl rfl
def fX2_keepPast_L2 (K2 : Mem → Option Mem) : Nat → Int → Mem → Option Mem
  | 0, _, _ => none
  | n6 + 1, x4, μ5 =>
    if 20 ≤ x4 then
      K2 μ5
    else
      grd (0 ≤ (w32 (1 + x4)) ∧ (w32 (1 + x4)) < 3305) <|
      grd (0 ≤ (w32 ((w32 (21 + (w32 (20 * (μ5 61 0))))) + x4)) ∧ (w32 ((w32 (21 + (w32 (20 * (μ5 61 0))))) + x4)) < 3305) <|
      mlet (wr μ5 61 ((w32 ((w32 (21 + (w32 (20 * (μ5 61 0))))) + x4))).toNat (μ5 61 ((w32 (1 + x4))).toNat)) fun μ7 =>
      mlet (w32 (x4 + 1)) fun x8 =>
      fX2_keepPast_L2 K2 n6 x8 μ7
def fX2_keepPast (μ : Mem) : Option Mem :=
  mlet (fun (μ1 : Mem) =>
    mlet (wr μ1 61 0 (w32 ((μ1 61 0) + 1))) fun μ3 =>
    some μ3
    ) fun (K2 : Mem → Option Mem) =>
  fX2_keepPast_L2 K2 fuel 0 μ
theorem K_X2_keepPast    (μ : Mem) : Con yX2_keepPast cX2_keepPast 2 (none) 2 [.inr (.inr 60)] μ (fX2_keepPast  μ) wV := by
  refine con_of (own := RX2) (by decide) rfl (Nat.le_of_ble_eq_true rfl) ?_
  show Sim cX2_keepPast 2 RX2 (2) (none) wV 0 [(0, .inr (.inr 60))] [] μ (fX2_keepPast  μ)
  unfold fX2_keepPast
  refine S_iconst dX2_keepPast_0 rfl ?_
  refine S_istore_n (lv' := [(1, .inl 0), (0, .inr (.inr 60))]) dX2_keepPast_1 rfl rfl ?_
  refine S_jn (fun (K2 : Mem → Option Mem) => ∀ (μ1 : Mem), Sim cX2_keepPast 2 RX2 (2) (none) wV 41 [(0, .inr (.inr 60))] [] μ1 (K2 μ1)) ?_ (fun K2 hK2 => ?_)
  · intro μ1
    refine S_aload_n dX2_keepPast_41 rfl ?_
    refine S_getR (c1 := 61) dX2_keepPast_42 rfl fl_X2_7 rfl rfl rfl ?_
    refine S_iconst dX2_keepPast_45 rfl ?_
    refine S_dup2 dX2_keepPast_46 rfl rfl ?_
    refine S_ialdK (k := 0) dX2_keepPast_47 rfl (by decide) (by decide) ?_
    refine S_iconst dX2_keepPast_48 rfl ?_
    refine S_iadd dX2_keepPast_49 ?_
    refine S_iastK (k := 0) dX2_keepPast_50 rfl (by decide) (by decide) (fun μ3 => ?_)
    exact S_vret dX2_keepPast_51 rfl rfl
  have hL2 : ∀ (n6 : Nat) (x4 : Int) (μ5 : Mem), Sim cX2_keepPast 2 RX2 (2) (none) wV 2 [(0, .inr (.inr 60)), (1, .inl x4)] [] μ5 (fX2_keepPast_L2 K2 n6 x4 μ5) := by
    intro n6
    induction n6 with
    | zero =>
      intro x4 μ5
      exact S_none rfl
    | succ n6 ih =>
      intro x4 μ5
      rw [fX2_keepPast_L2]
      refine S_iload_n dX2_keepPast_2 rfl ?_
      refine S_bipush dX2_keepPast_3 rfl (by decide) ?_
      refine S_ic_ge (tgt := 41) dX2_keepPast_5 (by decide) (fun h9 => ?_) (fun h9 => ?_)
      · exact S_sub [0] rfl (hK2 μ5)
      · refine S_aload_n dX2_keepPast_8 rfl ?_
        refine S_getR (c1 := 61) dX2_keepPast_9 rfl fl_X2_7 rfl rfl rfl ?_
        refine S_bipush dX2_keepPast_12 rfl (by decide) ?_
        refine S_bipush dX2_keepPast_14 rfl (by decide) ?_
        refine S_aload_n dX2_keepPast_16 rfl ?_
        refine S_getR (c1 := 61) dX2_keepPast_17 rfl fl_X2_7 rfl rfl rfl ?_
        refine S_iconst dX2_keepPast_20 rfl ?_
        refine S_ialdK (k := 0) dX2_keepPast_21 rfl (by decide) (by decide) ?_
        refine S_imul dX2_keepPast_22 ?_
        refine S_iadd dX2_keepPast_23 ?_
        refine S_iload_n dX2_keepPast_24 rfl ?_
        refine S_iadd dX2_keepPast_25 ?_
        refine S_aload_n dX2_keepPast_26 rfl ?_
        refine S_getR (c1 := 61) dX2_keepPast_27 rfl fl_X2_7 rfl rfl rfl ?_
        refine S_iconst dX2_keepPast_30 rfl ?_
        refine S_iload_n dX2_keepPast_31 rfl ?_
        refine S_iadd dX2_keepPast_32 ?_
        refine S_iald (N := 3305) dX2_keepPast_33 rfl (by decide) rfl ?_
        refine S_iast (N := 3305) dX2_keepPast_34 rfl (by decide) rfl (fun μ7 => ?_)
        refine S_iinc (lv' := fun x8 => [(1, .inl x8), (0, .inr (.inr 60))]) dX2_keepPast_35 rfl rfl rfl (fun _ => rfl) (fun x8 => ?_)
        refine S_goto (tgt := 2) dX2_keepPast_38 (by decide) ?_
        exact S_sub [1, 0] rfl (ih x8 μ7)
  exact S_sub [1, 0] rfl (hL2 fuel 0 μ)
def fX2_night (μ : Mem) : Option (Int × Mem) :=
  if ¬ (μ 60 1) = 0 then
    if ¬ (μ 61 0) = 40 then
      (fX2_keepPast μ).bind fun μ1 =>
      bnd2 (fX2_passes 0 μ1) fun x2 μ3 =>
      some (x2, μ3)
    else
      some ((-2), μ)
  else
    some ((-4), μ)
theorem K_X2_night    (μ : Mem) : Con yX2_night cX2_night 1 (some .int) 7 [.inr (.inr 60)] μ (fX2_night  μ) wI := by
  refine con_of (own := RX2) (by decide) rfl (Nat.le_of_ble_eq_true rfl) ?_
  show Sim cX2_night 1 RX2 (7) (some .int) wI 0 [(0, .inr (.inr 60))] [] μ (fX2_night  μ)
  unfold fX2_night
  refine S_aload_n dX2_night_0 rfl ?_
  refine S_getI dX2_night_1 rfl fl_X2_136 rfl rfl ?_
  refine S_if_ne (tgt := 10) dX2_night_4 (by decide) (fun h5 => ?_) (fun h5 => ?_)
  · refine S_aload_n dX2_night_10 rfl ?_
    refine S_getR (c1 := 61) dX2_night_11 rfl fl_X2_7 rfl rfl rfl ?_
    refine S_iconst dX2_night_14 rfl ?_
    refine S_ialdK (k := 0) dX2_night_15 rfl (by decide) (by decide) ?_
    refine S_bipush dX2_night_16 rfl (by decide) ?_
    refine S_ic_ne (tgt := 24) dX2_night_18 (by decide) (fun h4 => ?_) (fun h4 => ?_)
    · refine S_aload_n dX2_night_24 rfl ?_
      refine S_callV_V dX2_night_25 [] (K_X2_keepPast μ) l_X2_174 yo_X2_keepPast rfl rfl rfl rfl rfl (fun μ1 => ?_)
      refine S_aload_n dX2_night_28 rfl ?_
      refine S_iconst dX2_night_29 rfl ?_
      refine S_callV_M2 dX2_night_30 [.inl 0] (K_X2_passes 0 μ1) l_X2_177 yo_X2_passes rfl rfl rfl rfl rfl (fun x2 μ3 => ?_)
      exact S_iret dX2_night_33 rfl rfl
    · refine S_bipush dX2_night_21 rfl (by decide) ?_
      exact S_iret dX2_night_23 rfl rfl
  · refine S_bipush dX2_night_7 rfl (by decide) ?_
    exact S_iret dX2_night_9 rfl rfl
def fX2_makeDaring (p1 : Int) (p2 : Int) (μ : Mem) : Option (Int × Mem) :=
  (fX2_in p2 0 20 μ).bind fun x1 =>
  if ¬ x1 = 0 then
    if ¬ (μ 61 0) = 40 then
      (fX2_keepPast μ).bind fun μ2 =>
      grd (0 ≤ (w32 (9 + p1)) ∧ (w32 (9 + p1)) < 3305) <|
      mlet (wr μ2 61 ((w32 (9 + p1))).toNat p2) fun μ3 =>
      some (p2, μ3)
    else
      some ((-2), μ)
  else
    some ((-4), μ)
theorem K_X2_makeDaring  (p1 : Int) (p2 : Int)  (μ : Mem) : Con yX2_makeDaring cX2_makeDaring 3 (some .int) 3 [.inr (.inr 60), .inl p1, .inl p2] μ (fX2_makeDaring p1 p2 μ) wI := by
  refine con_of (own := RX2) (by decide) rfl (Nat.le_of_ble_eq_true rfl) ?_
  show Sim cX2_makeDaring 3 RX2 (3) (some .int) wI 0 [(0, .inr (.inr 60)), (1, .inl p1), (2, .inl p2)] [] μ (fX2_makeDaring p1 p2 μ)
  unfold fX2_makeDaring
  refine S_iload_n dX2_makeDaring_0 rfl ?_
  refine S_i2l dX2_makeDaring_1 ?_
  refine S_lconst (n := 0) dX2_makeDaring_2 (by decide) rfl ?_
  refine S_ldc2 dX2_makeDaring_3 rfl k_X2_180 ?_
  refine S_callS_I dX2_makeDaring_6 [.inr (.inl p2), .inr (.inl 0), .inr (.inl 20)] (K_X2_in p2 0 20 μ) l_X2_59 yo_X2_in rfl rfl rfl (fun x1 => ?_)
  refine S_if_ne (tgt := 15) dX2_makeDaring_9 (by decide) (fun h5 => ?_) (fun h5 => ?_)
  · refine S_aload_n dX2_makeDaring_15 rfl ?_
    refine S_getR (c1 := 61) dX2_makeDaring_16 rfl fl_X2_7 rfl rfl rfl ?_
    refine S_iconst dX2_makeDaring_19 rfl ?_
    refine S_ialdK (k := 0) dX2_makeDaring_20 rfl (by decide) (by decide) ?_
    refine S_bipush dX2_makeDaring_21 rfl (by decide) ?_
    refine S_ic_ne (tgt := 29) dX2_makeDaring_23 (by decide) (fun h4 => ?_) (fun h4 => ?_)
    · refine S_aload_n dX2_makeDaring_29 rfl ?_
      refine S_callV_V dX2_makeDaring_30 [] (K_X2_keepPast μ) l_X2_174 yo_X2_keepPast rfl rfl rfl rfl rfl (fun μ2 => ?_)
      refine S_aload_n dX2_makeDaring_33 rfl ?_
      refine S_getR (c1 := 61) dX2_makeDaring_34 rfl fl_X2_7 rfl rfl rfl ?_
      refine S_bipush dX2_makeDaring_37 rfl (by decide) ?_
      refine S_iload_n dX2_makeDaring_39 rfl ?_
      refine S_iadd dX2_makeDaring_40 ?_
      refine S_iload_n dX2_makeDaring_41 rfl ?_
      refine S_iast (N := 3305) dX2_makeDaring_42 rfl (by decide) rfl (fun μ3 => ?_)
      refine S_iload_n dX2_makeDaring_43 rfl ?_
      exact S_iret dX2_makeDaring_44 rfl rfl
    · refine S_bipush dX2_makeDaring_26 rfl (by decide) ?_
      exact S_iret dX2_makeDaring_28 rfl rfl
  · refine S_bipush dX2_makeDaring_12 rfl (by decide) ?_
    exact S_iret dX2_makeDaring_14 rfl rfl
def fX2_raise (p1 : Int) (p2 : Int) (μ : Mem) : Option (Int × Mem) :=
  (fX2_isOne p1 μ).bind fun x1 =>
  mlet (
    some ((-1), μ)
    : Option (Int × Mem)) fun (K2 : Option (Int × Mem)) =>
  if x1 = 0 then
    K2
  else
    (fX2_in p2 1 9 μ).bind fun x3 =>
    if x3 = 0 then
      K2
    else
      grd (0 ≤ (w32 (9 + p1)) ∧ (w32 (9 + p1)) < 3305) <|
      bnd2 (fX2_makeDaring p1 (w32 ((μ 61 ((w32 (9 + p1))).toNat) + p2)) μ) fun x4 μ5 =>
      some (x4, μ5)
theorem K_X2_raise  (p1 : Int) (p2 : Int)  (μ : Mem) : Con yX2_raise cX2_raise 3 (some .int) 4 [.inr (.inr 60), .inl p1, .inl p2] μ (fX2_raise p1 p2 μ) wI := by
  refine con_of (own := RX2) (by decide) rfl (Nat.le_of_ble_eq_true rfl) ?_
  show Sim cX2_raise 3 RX2 (4) (some .int) wI 0 [(0, .inr (.inr 60)), (1, .inl p1), (2, .inl p2)] [] μ (fX2_raise p1 p2 μ)
  unfold fX2_raise
  refine S_aload_n dX2_raise_0 rfl ?_
  refine S_iload_n dX2_raise_1 rfl ?_
  refine S_callV_I dX2_raise_2 [.inl p1] (K_X2_isOne p1 μ) l_X2_162 yo_X2_isOne rfl rfl rfl rfl rfl (fun x1 => ?_)
  refine S_jn (fun (K2 : Option (Int × Mem)) => Sim cX2_raise 3 RX2 (4) (some .int) wI 39 [] [] μ K2) ?_ (fun K2 hK2 => ?_)
  · skip
    refine S_iconst dX2_raise_39 rfl ?_
    exact S_iret dX2_raise_40 rfl rfl
  refine S_if_eq (tgt := 39) dX2_raise_5 (by decide) (fun h7 => ?_) (fun h7 => ?_)
  · exact S_sub [] rfl (hK2)
  · refine S_iload_n dX2_raise_8 rfl ?_
    refine S_i2l dX2_raise_9 ?_
    refine S_lconst (n := 1) dX2_raise_10 (by decide) rfl ?_
    refine S_ldc2 dX2_raise_11 rfl k_X2_182 ?_
    refine S_callS_I dX2_raise_14 [.inr (.inl p2), .inr (.inl 1), .inr (.inl 9)] (K_X2_in p2 1 9 μ) l_X2_59 yo_X2_in rfl rfl rfl (fun x3 => ?_)
    refine S_if_eq (tgt := 39) dX2_raise_17 (by decide) (fun h6 => ?_) (fun h6 => ?_)
    · exact S_sub [] rfl (hK2)
    · refine S_aload_n dX2_raise_20 rfl ?_
      refine S_iload_n dX2_raise_21 rfl ?_
      refine S_aload_n dX2_raise_22 rfl ?_
      refine S_getR (c1 := 61) dX2_raise_23 rfl fl_X2_7 rfl rfl rfl ?_
      refine S_bipush dX2_raise_26 rfl (by decide) ?_
      refine S_iload_n dX2_raise_28 rfl ?_
      refine S_iadd dX2_raise_29 ?_
      refine S_iald (N := 3305) dX2_raise_30 rfl (by decide) rfl ?_
      refine S_iload_n dX2_raise_31 rfl ?_
      refine S_iadd dX2_raise_32 ?_
      refine S_callV_M2 dX2_raise_33 [.inl p1, .inl (w32 ((μ 61 ((w32 (9 + p1))).toNat) + p2))] (K_X2_makeDaring p1 (w32 ((μ 61 ((w32 (9 + p1))).toNat) + p2)) μ) l_X2_184 yo_X2_makeDaring rfl rfl rfl rfl rfl (fun x4 μ5 => ?_)
      refine S_goto (tgt := 40) dX2_raise_36 (by decide) ?_
      exact S_iret dX2_raise_40 rfl rfl
def fX2_shame (p1 : Int) (p2 : Int) (μ : Mem) : Option (Int × Mem) :=
  (fX2_isOne p1 μ).bind fun x1 =>
  mlet (
    some ((-1), μ)
    : Option (Int × Mem)) fun (K2 : Option (Int × Mem)) =>
  if x1 = 0 then
    K2
  else
    (fX2_in p2 1 9 μ).bind fun x3 =>
    if x3 = 0 then
      K2
    else
      grd (0 ≤ (w32 (9 + p1)) ∧ (w32 (9 + p1)) < 3305) <|
      bnd2 (fX2_makeDaring p1 (w32 ((μ 61 ((w32 (9 + p1))).toNat) - p2)) μ) fun x4 μ5 =>
      some (x4, μ5)
theorem K_X2_shame  (p1 : Int) (p2 : Int)  (μ : Mem) : Con yX2_shame cX2_shame 3 (some .int) 4 [.inr (.inr 60), .inl p1, .inl p2] μ (fX2_shame p1 p2 μ) wI := by
  refine con_of (own := RX2) (by decide) rfl (Nat.le_of_ble_eq_true rfl) ?_
  show Sim cX2_shame 3 RX2 (4) (some .int) wI 0 [(0, .inr (.inr 60)), (1, .inl p1), (2, .inl p2)] [] μ (fX2_shame p1 p2 μ)
  unfold fX2_shame
  refine S_aload_n dX2_shame_0 rfl ?_
  refine S_iload_n dX2_shame_1 rfl ?_
  refine S_callV_I dX2_shame_2 [.inl p1] (K_X2_isOne p1 μ) l_X2_162 yo_X2_isOne rfl rfl rfl rfl rfl (fun x1 => ?_)
  refine S_jn (fun (K2 : Option (Int × Mem)) => Sim cX2_shame 3 RX2 (4) (some .int) wI 39 [] [] μ K2) ?_ (fun K2 hK2 => ?_)
  · skip
    refine S_iconst dX2_shame_39 rfl ?_
    exact S_iret dX2_shame_40 rfl rfl
  refine S_if_eq (tgt := 39) dX2_shame_5 (by decide) (fun h7 => ?_) (fun h7 => ?_)
  · exact S_sub [] rfl (hK2)
  · refine S_iload_n dX2_shame_8 rfl ?_
    refine S_i2l dX2_shame_9 ?_
    refine S_lconst (n := 1) dX2_shame_10 (by decide) rfl ?_
    refine S_ldc2 dX2_shame_11 rfl k_X2_182 ?_
    refine S_callS_I dX2_shame_14 [.inr (.inl p2), .inr (.inl 1), .inr (.inl 9)] (K_X2_in p2 1 9 μ) l_X2_59 yo_X2_in rfl rfl rfl (fun x3 => ?_)
    refine S_if_eq (tgt := 39) dX2_shame_17 (by decide) (fun h6 => ?_) (fun h6 => ?_)
    · exact S_sub [] rfl (hK2)
    · refine S_aload_n dX2_shame_20 rfl ?_
      refine S_iload_n dX2_shame_21 rfl ?_
      refine S_aload_n dX2_shame_22 rfl ?_
      refine S_getR (c1 := 61) dX2_shame_23 rfl fl_X2_7 rfl rfl rfl ?_
      refine S_bipush dX2_shame_26 rfl (by decide) ?_
      refine S_iload_n dX2_shame_28 rfl ?_
      refine S_iadd dX2_shame_29 ?_
      refine S_iald (N := 3305) dX2_shame_30 rfl (by decide) rfl ?_
      refine S_iload_n dX2_shame_31 rfl ?_
      refine S_isub dX2_shame_32 ?_
      refine S_callV_M2 dX2_shame_33 [.inl p1, .inl (w32 ((μ 61 ((w32 (9 + p1))).toNat) - p2))] (K_X2_makeDaring p1 (w32 ((μ 61 ((w32 (9 + p1))).toNat) - p2)) μ) l_X2_184 yo_X2_makeDaring rfl rfl rfl rfl rfl (fun x4 μ5 => ?_)
      refine S_goto (tgt := 40) dX2_shame_36 (by decide) ?_
      exact S_iret dX2_shame_40 rfl rfl
def fX2_door (p1 : Int) (p2 : Int) (μ : Mem) : Option (Int × Mem) :=
  (fX2_isOne p1 μ).bind fun x1 =>
  if x1 = 0 then
    some ((-1), μ)
  else
    (fX2_in p2 0 9 μ).bind fun x2 =>
    if ¬ x2 = 0 then
      grd (0 ≤ (w32 (3 + p1)) ∧ (w32 (3 + p1)) < 3305) <|
      mlet ((μ 61 ((w32 (3 + p1))).toNat)) fun x3 =>
      if ¬ x3 = p2 then
        if ¬ (μ 61 0) = 40 then
          (fX2_keepPast μ).bind fun μ4 =>
          grd (0 ≤ (w32 (3 + p1)) ∧ (w32 (3 + p1)) < 3305) <|
          mlet (wr μ4 61 ((w32 (3 + p1))).toNat p2) fun μ5 =>
          some (x3, μ5)
        else
          some ((-2), μ)
      else
        some ((-4), μ)
    else
      some ((-1), μ)
theorem K_X2_door  (p1 : Int) (p2 : Int)  (μ : Mem) : Con yX2_door cX2_door 4 (some .int) 4 [.inr (.inr 60), .inl p1, .inl p2] μ (fX2_door p1 p2 μ) wI := by
  refine con_of (own := RX2) (by decide) rfl (Nat.le_of_ble_eq_true rfl) ?_
  show Sim cX2_door 4 RX2 (4) (some .int) wI 0 [(0, .inr (.inr 60)), (1, .inl p1), (2, .inl p2)] [] μ (fX2_door p1 p2 μ)
  unfold fX2_door
  refine S_aload_n dX2_door_0 rfl ?_
  refine S_iload_n dX2_door_1 rfl ?_
  refine S_callV_I dX2_door_2 [.inl p1] (K_X2_isOne p1 μ) l_X2_162 yo_X2_isOne rfl rfl rfl rfl rfl (fun x1 => ?_)
  refine S_if_eq (tgt := 20) dX2_door_5 (by decide) (fun h9 => ?_) (fun h9 => ?_)
  · refine S_iconst dX2_door_20 rfl ?_
    exact S_iret dX2_door_21 rfl rfl
  · refine S_iload_n dX2_door_8 rfl ?_
    refine S_i2l dX2_door_9 ?_
    refine S_lconst (n := 0) dX2_door_10 (by decide) rfl ?_
    refine S_ldc2 dX2_door_11 rfl k_X2_182 ?_
    refine S_callS_I dX2_door_14 [.inr (.inl p2), .inr (.inl 0), .inr (.inl 9)] (K_X2_in p2 0 9 μ) l_X2_59 yo_X2_in rfl rfl rfl (fun x2 => ?_)
    refine S_if_ne (tgt := 22) dX2_door_17 (by decide) (fun h8 => ?_) (fun h8 => ?_)
    · refine S_aload_n dX2_door_22 rfl ?_
      refine S_getR (c1 := 61) dX2_door_23 rfl fl_X2_7 rfl rfl rfl ?_
      refine S_iconst dX2_door_26 rfl ?_
      refine S_iload_n dX2_door_27 rfl ?_
      refine S_iadd dX2_door_28 ?_
      refine S_iald (N := 3305) dX2_door_29 rfl (by decide) rfl ?_
      refine S_let (fun x3 => ?_)
      refine S_istore_n (lv' := [(3, .inl x3), (0, .inr (.inr 60)), (1, .inl p1), (2, .inl p2)]) dX2_door_30 rfl rfl ?_
      refine S_iload_n dX2_door_31 rfl ?_
      refine S_iload_n dX2_door_32 rfl ?_
      refine S_ic_ne (tgt := 39) dX2_door_33 (by decide) (fun h7 => ?_) (fun h7 => ?_)
      · refine S_aload_n dX2_door_39 rfl ?_
        refine S_getR (c1 := 61) dX2_door_40 rfl fl_X2_7 rfl rfl rfl ?_
        refine S_iconst dX2_door_43 rfl ?_
        refine S_ialdK (k := 0) dX2_door_44 rfl (by decide) (by decide) ?_
        refine S_bipush dX2_door_45 rfl (by decide) ?_
        refine S_ic_ne (tgt := 53) dX2_door_47 (by decide) (fun h6 => ?_) (fun h6 => ?_)
        · refine S_aload_n dX2_door_53 rfl ?_
          refine S_callV_V dX2_door_54 [] (K_X2_keepPast μ) l_X2_174 yo_X2_keepPast rfl rfl rfl rfl rfl (fun μ4 => ?_)
          refine S_aload_n dX2_door_57 rfl ?_
          refine S_getR (c1 := 61) dX2_door_58 rfl fl_X2_7 rfl rfl rfl ?_
          refine S_iconst dX2_door_61 rfl ?_
          refine S_iload_n dX2_door_62 rfl ?_
          refine S_iadd dX2_door_63 ?_
          refine S_iload_n dX2_door_64 rfl ?_
          refine S_iast (N := 3305) dX2_door_65 rfl (by decide) rfl (fun μ5 => ?_)
          refine S_iload_n dX2_door_66 rfl ?_
          exact S_iret dX2_door_67 rfl rfl
        · refine S_bipush dX2_door_50 rfl (by decide) ?_
          exact S_iret dX2_door_52 rfl rfl
      · refine S_bipush dX2_door_36 rfl (by decide) ?_
        exact S_iret dX2_door_38 rfl rfl
    · refine S_iconst dX2_door_20 rfl ?_
      exact S_iret dX2_door_21 rfl rfl
def fX2_undo_L29 (K4 : Mem → Option (Int × Mem)) (x2 : Int) (p1 : Int) : Nat → Int → Mem → Option (Int × Mem)
  | 0, _, _ => none
  | n8 + 1, x6, μ7 =>
    if 20 ≤ x6 then
      K4 μ7
    else
      if x2 ≤ 0 then
        K4 μ7
      else
        grd (0 ≤ (w32 ((w32 (21 + (w32 (20 * p1)))) + x6)) ∧ (w32 ((w32 (21 + (w32 (20 * p1)))) + x6)) < 3305) <|
        grd (0 ≤ (w32 (1 + x6)) ∧ (w32 (1 + x6)) < 3305) <|
        mlet (wr μ7 61 ((w32 (1 + x6))).toNat (μ7 61 ((w32 ((w32 (21 + (w32 (20 * p1)))) + x6))).toNat)) fun μ9 =>
        mlet (w32 (x6 + 1)) fun x10 =>
        fX2_undo_L29 K4 x2 p1 n8 x10 μ9
def fX2_undo (p1 : Int) (μ : Mem) : Option (Int × Mem) :=
  (fX2_in p1 0 (μ 61 0) μ).bind fun x1 =>
  if ¬ x1 = 0 then
    mlet ((w32 ((μ 61 0) - p1))) fun x2 =>
    mlet (fun (μ3 : Mem) =>
      mlet (wr μ3 61 0 p1) fun μ5 =>
      some (x2, μ5)
      ) fun (K4 : Mem → Option (Int × Mem)) =>
    fX2_undo_L29 K4 x2 p1 fuel 0 μ
  else
    some ((-1), μ)
theorem K_X2_undo  (p1 : Int)  (μ : Mem) : Con yX2_undo cX2_undo 4 (some .int) 3 [.inr (.inr 60), .inl p1] μ (fX2_undo p1 μ) wI := by
  refine con_of (own := RX2) (by decide) rfl (Nat.le_of_ble_eq_true rfl) ?_
  show Sim cX2_undo 4 RX2 (3) (some .int) wI 0 [(0, .inr (.inr 60)), (1, .inl p1)] [] μ (fX2_undo p1 μ)
  unfold fX2_undo
  refine S_iload_n dX2_undo_0 rfl ?_
  refine S_i2l dX2_undo_1 ?_
  refine S_lconst (n := 0) dX2_undo_2 (by decide) rfl ?_
  refine S_aload_n dX2_undo_3 rfl ?_
  refine S_getR (c1 := 61) dX2_undo_4 rfl fl_X2_7 rfl rfl rfl ?_
  refine S_iconst dX2_undo_7 rfl ?_
  refine S_ialdK (k := 0) dX2_undo_8 rfl (by decide) (by decide) ?_
  refine S_i2l dX2_undo_9 ?_
  refine S_callS_I dX2_undo_10 [.inr (.inl p1), .inr (.inl 0), .inr (.inl (μ 61 0))] (K_X2_in p1 0 (μ 61 0) μ) l_X2_59 yo_X2_in rfl rfl rfl (fun x1 => ?_)
  refine S_if_ne (tgt := 18) dX2_undo_13 (by decide) (fun h13 => ?_) (fun h13 => ?_)
  · refine S_aload_n dX2_undo_18 rfl ?_
    refine S_getR (c1 := 61) dX2_undo_19 rfl fl_X2_7 rfl rfl rfl ?_
    refine S_iconst dX2_undo_22 rfl ?_
    refine S_ialdK (k := 0) dX2_undo_23 rfl (by decide) (by decide) ?_
    refine S_iload_n dX2_undo_24 rfl ?_
    refine S_isub dX2_undo_25 ?_
    refine S_let (fun x2 => ?_)
    refine S_istore_n (lv' := [(2, .inl x2), (0, .inr (.inr 60)), (1, .inl p1)]) dX2_undo_26 rfl rfl ?_
    refine S_iconst dX2_undo_27 rfl ?_
    refine S_istore_n (lv' := [(3, .inl 0), (2, .inl x2), (0, .inr (.inr 60)), (1, .inl p1)]) dX2_undo_28 rfl rfl ?_
    refine S_jn (fun (K4 : Mem → Option (Int × Mem)) => ∀ (μ3 : Mem), Sim cX2_undo 4 RX2 (3) (some .int) wI 67 [(0, .inr (.inr 60)), (1, .inl p1), (2, .inl x2)] [] μ3 (K4 μ3)) ?_ (fun K4 hK4 => ?_)
    · intro μ3
      refine S_aload_n dX2_undo_67 rfl ?_
      refine S_getR (c1 := 61) dX2_undo_68 rfl fl_X2_7 rfl rfl rfl ?_
      refine S_iconst dX2_undo_71 rfl ?_
      refine S_iload_n dX2_undo_72 rfl ?_
      refine S_iastK (k := 0) dX2_undo_73 rfl (by decide) (by decide) (fun μ5 => ?_)
      refine S_iload_n dX2_undo_74 rfl ?_
      exact S_iret dX2_undo_75 rfl rfl
    have hL29 : ∀ (n8 : Nat) (x6 : Int) (μ7 : Mem), Sim cX2_undo 4 RX2 (3) (some .int) wI 29 [(0, .inr (.inr 60)), (1, .inl p1), (2, .inl x2), (3, .inl x6)] [] μ7 (fX2_undo_L29 K4 x2 p1 n8 x6 μ7) := by
      intro n8
      induction n8 with
      | zero =>
        intro x6 μ7
        exact S_none rfl
      | succ n8 ih =>
        intro x6 μ7
        rw [fX2_undo_L29]
        refine S_iload_n dX2_undo_29 rfl ?_
        refine S_bipush dX2_undo_30 rfl (by decide) ?_
        refine S_ic_ge (tgt := 67) dX2_undo_32 (by decide) (fun h12 => ?_) (fun h12 => ?_)
        · exact S_sub [0, 1, 2] rfl (hK4 μ7)
        · refine S_iload_n dX2_undo_35 rfl ?_
          refine S_if_le (tgt := 67) dX2_undo_36 (by decide) (fun h11 => ?_) (fun h11 => ?_)
          · exact S_sub [0, 1, 2] rfl (hK4 μ7)
          · refine S_aload_n dX2_undo_39 rfl ?_
            refine S_getR (c1 := 61) dX2_undo_40 rfl fl_X2_7 rfl rfl rfl ?_
            refine S_iconst dX2_undo_43 rfl ?_
            refine S_iload_n dX2_undo_44 rfl ?_
            refine S_iadd dX2_undo_45 ?_
            refine S_aload_n dX2_undo_46 rfl ?_
            refine S_getR (c1 := 61) dX2_undo_47 rfl fl_X2_7 rfl rfl rfl ?_
            refine S_bipush dX2_undo_50 rfl (by decide) ?_
            refine S_bipush dX2_undo_52 rfl (by decide) ?_
            refine S_iload_n dX2_undo_54 rfl ?_
            refine S_imul dX2_undo_55 ?_
            refine S_iadd dX2_undo_56 ?_
            refine S_iload_n dX2_undo_57 rfl ?_
            refine S_iadd dX2_undo_58 ?_
            refine S_iald (N := 3305) dX2_undo_59 rfl (by decide) rfl ?_
            refine S_iast (N := 3305) dX2_undo_60 rfl (by decide) rfl (fun μ9 => ?_)
            refine S_iinc (lv' := fun x10 => [(3, .inl x10), (0, .inr (.inr 60)), (1, .inl p1), (2, .inl x2)]) dX2_undo_61 rfl rfl rfl (fun _ => rfl) (fun x10 => ?_)
            refine S_goto (tgt := 29) dX2_undo_64 (by decide) ?_
            exact S_sub [1, 2, 3, 0] rfl (ih x10 μ9)
    exact S_sub [2, 3, 1, 0] rfl (hL29 fuel 0 μ)
  · refine S_iconst dX2_undo_16 rfl ?_
    exact S_iret dX2_undo_17 rfl rfl
def fX2_copyRiver_L2 (p1 : Int) (p2 : Int) : Nat → Int → Mem → Option Mem
  | 0, _, _ => none
  | n3 + 1, x1, μ2 =>
    if 821 ≤ x1 then
      some μ2
    else
      grd (0 ≤ (w32 (p1 + x1)) ∧ (w32 (p1 + x1)) < 3305) <|
      grd (0 ≤ (w32 (p2 + x1)) ∧ (w32 (p2 + x1)) < 3305) <|
      mlet (wr μ2 61 ((w32 (p2 + x1))).toNat (μ2 61 ((w32 (p1 + x1))).toNat)) fun μ4 =>
      mlet (w32 (x1 + 1)) fun x5 =>
      fX2_copyRiver_L2 p1 p2 n3 x5 μ4
def fX2_copyRiver (p1 : Int) (p2 : Int) (μ : Mem) : Option Mem :=
  fX2_copyRiver_L2 p1 p2 fuel 0 μ
theorem K_X2_copyRiver  (p1 : Int) (p2 : Int)  (μ : Mem) : Con yX2_copyRiver cX2_copyRiver 4 (none) 2 [.inr (.inr 60), .inl p1, .inl p2] μ (fX2_copyRiver p1 p2 μ) wV := by
  refine con_of (own := RX2) (by decide) rfl (Nat.le_of_ble_eq_true rfl) ?_
  show Sim cX2_copyRiver 4 RX2 (2) (none) wV 0 [(0, .inr (.inr 60)), (1, .inl p1), (2, .inl p2)] [] μ (fX2_copyRiver p1 p2 μ)
  unfold fX2_copyRiver
  refine S_iconst dX2_copyRiver_0 rfl ?_
  refine S_istore_n (lv' := [(3, .inl 0), (0, .inr (.inr 60)), (1, .inl p1), (2, .inl p2)]) dX2_copyRiver_1 rfl rfl ?_
  have hL2 : ∀ (n3 : Nat) (x1 : Int) (μ2 : Mem), Sim cX2_copyRiver 4 RX2 (2) (none) wV 2 [(0, .inr (.inr 60)), (1, .inl p1), (2, .inl p2), (3, .inl x1)] [] μ2 (fX2_copyRiver_L2 p1 p2 n3 x1 μ2) := by
    intro n3
    induction n3 with
    | zero =>
      intro x1 μ2
      exact S_none rfl
    | succ n3 ih =>
      intro x1 μ2
      rw [fX2_copyRiver_L2]
      refine S_iload_n dX2_copyRiver_2 rfl ?_
      refine S_sipush dX2_copyRiver_3 rfl (by decide) ?_
      refine S_ic_ge (tgt := 31) dX2_copyRiver_6 (by decide) (fun h6 => ?_) (fun h6 => ?_)
      · exact S_vret dX2_copyRiver_31 rfl rfl
      · refine S_aload_n dX2_copyRiver_9 rfl ?_
        refine S_getR (c1 := 61) dX2_copyRiver_10 rfl fl_X2_7 rfl rfl rfl ?_
        refine S_iload_n dX2_copyRiver_13 rfl ?_
        refine S_iload_n dX2_copyRiver_14 rfl ?_
        refine S_iadd dX2_copyRiver_15 ?_
        refine S_aload_n dX2_copyRiver_16 rfl ?_
        refine S_getR (c1 := 61) dX2_copyRiver_17 rfl fl_X2_7 rfl rfl rfl ?_
        refine S_iload_n dX2_copyRiver_20 rfl ?_
        refine S_iload_n dX2_copyRiver_21 rfl ?_
        refine S_iadd dX2_copyRiver_22 ?_
        refine S_iald (N := 3305) dX2_copyRiver_23 rfl (by decide) rfl ?_
        refine S_iast (N := 3305) dX2_copyRiver_24 rfl (by decide) rfl (fun μ4 => ?_)
        refine S_iinc (lv' := fun x5 => [(3, .inl x5), (0, .inr (.inr 60)), (1, .inl p1), (2, .inl p2)]) dX2_copyRiver_25 rfl rfl rfl (fun _ => rfl) (fun x5 => ?_)
        refine S_goto (tgt := 2) dX2_copyRiver_28 (by decide) ?_
        exact S_sub [1, 2, 3, 0] rfl (ih x5 μ4)
  exact S_sub [1, 2, 3, 0] rfl (hL2 fuel 0 μ)
def fX2_keep (p1 : Int) (μ : Mem) : Option (Int × Mem) :=
  (fX2_in p1 0 2 μ).bind fun x1 =>
  if ¬ x1 = 0 then
    if ¬ (μ 60 1) = 0 then
      (fX2_copyRiver 0 (w32 (821 * (w32 (1 + p1)))) μ).bind fun μ2 =>
      some ((μ2 61 0), μ2)
    else
      some ((-4), μ)
  else
    some ((-1), μ)
theorem K_X2_keep  (p1 : Int)  (μ : Mem) : Con yX2_keep cX2_keep 2 (some .int) 3 [.inr (.inr 60), .inl p1] μ (fX2_keep p1 μ) wI := by
  refine con_of (own := RX2) (by decide) rfl (Nat.le_of_ble_eq_true rfl) ?_
  show Sim cX2_keep 2 RX2 (3) (some .int) wI 0 [(0, .inr (.inr 60)), (1, .inl p1)] [] μ (fX2_keep p1 μ)
  unfold fX2_keep
  refine S_iload_n dX2_keep_0 rfl ?_
  refine S_i2l dX2_keep_1 ?_
  refine S_lconst (n := 0) dX2_keep_2 (by decide) rfl ?_
  refine S_ldc2 dX2_keep_3 rfl k_X2_187 ?_
  refine S_callS_I dX2_keep_6 [.inr (.inl p1), .inr (.inl 0), .inr (.inl 2)] (K_X2_in p1 0 2 μ) l_X2_59 yo_X2_in rfl rfl rfl (fun x1 => ?_)
  refine S_if_ne (tgt := 14) dX2_keep_9 (by decide) (fun h4 => ?_) (fun h4 => ?_)
  · refine S_aload_n dX2_keep_14 rfl ?_
    refine S_getI dX2_keep_15 rfl fl_X2_136 rfl rfl ?_
    refine S_if_ne (tgt := 24) dX2_keep_18 (by decide) (fun h3 => ?_) (fun h3 => ?_)
    · refine S_aload_n dX2_keep_24 rfl ?_
      refine S_iconst dX2_keep_25 rfl ?_
      refine S_sipush dX2_keep_26 rfl (by decide) ?_
      refine S_iconst dX2_keep_29 rfl ?_
      refine S_iload_n dX2_keep_30 rfl ?_
      refine S_iadd dX2_keep_31 ?_
      refine S_imul dX2_keep_32 ?_
      refine S_callV_V dX2_keep_33 [.inl 0, .inl (w32 (821 * (w32 (1 + p1))))] (K_X2_copyRiver 0 (w32 (821 * (w32 (1 + p1)))) μ) l_X2_189 yo_X2_copyRiver rfl rfl rfl rfl rfl (fun μ2 => ?_)
      refine S_aload_n dX2_keep_36 rfl ?_
      refine S_getR (c1 := 61) dX2_keep_37 rfl fl_X2_7 rfl rfl rfl ?_
      refine S_iconst dX2_keep_40 rfl ?_
      refine S_ialdK (k := 0) dX2_keep_41 rfl (by decide) (by decide) ?_
      exact S_iret dX2_keep_42 rfl rfl
    · refine S_bipush dX2_keep_21 rfl (by decide) ?_
      exact S_iret dX2_keep_23 rfl rfl
  · refine S_iconst dX2_keep_12 rfl ?_
    exact S_iret dX2_keep_13 rfl rfl
def fX2_on (p1 : Int) (μ : Mem) : Option (Int × Mem) :=
  (fX2_in p1 0 2 μ).bind fun x1 =>
  if ¬ x1 = 0 then
    grd (0 ≤ (w32 ((w32 (821 * (w32 (1 + p1)))) + 0)) ∧ (w32 ((w32 (821 * (w32 (1 + p1)))) + 0)) < 3305) <|
    if 0 ≤ (μ 61 ((w32 ((w32 (821 * (w32 (1 + p1)))) + 0))).toNat) then
      (fX2_copyRiver (w32 (821 * (w32 (1 + p1)))) 0 μ).bind fun μ2 =>
      some ((μ2 61 0), μ2)
    else
      bnd2 (fX2_find 1 μ) fun x3 μ4 =>
      some (x3, μ4)
  else
    some ((-1), μ)
theorem K_X2_on  (p1 : Int)  (μ : Mem) : Con yX2_on cX2_on 2 (some .int) 3 [.inr (.inr 60), .inl p1] μ (fX2_on p1 μ) wI := by
  refine con_of (own := RX2) (by decide) rfl (Nat.le_of_ble_eq_true rfl) ?_
  show Sim cX2_on 2 RX2 (3) (some .int) wI 0 [(0, .inr (.inr 60)), (1, .inl p1)] [] μ (fX2_on p1 μ)
  unfold fX2_on
  refine S_iload_n dX2_on_0 rfl ?_
  refine S_i2l dX2_on_1 ?_
  refine S_lconst (n := 0) dX2_on_2 (by decide) rfl ?_
  refine S_ldc2 dX2_on_3 rfl k_X2_187 ?_
  refine S_callS_I dX2_on_6 [.inr (.inl p1), .inr (.inl 0), .inr (.inl 2)] (K_X2_in p1 0 2 μ) l_X2_59 yo_X2_in rfl rfl rfl (fun x1 => ?_)
  refine S_if_ne (tgt := 14) dX2_on_9 (by decide) (fun h6 => ?_) (fun h6 => ?_)
  · refine S_aload_n dX2_on_14 rfl ?_
    refine S_getR (c1 := 61) dX2_on_15 rfl fl_X2_7 rfl rfl rfl ?_
    refine S_sipush dX2_on_18 rfl (by decide) ?_
    refine S_iconst dX2_on_21 rfl ?_
    refine S_iload_n dX2_on_22 rfl ?_
    refine S_iadd dX2_on_23 ?_
    refine S_imul dX2_on_24 ?_
    refine S_iconst dX2_on_25 rfl ?_
    refine S_iadd dX2_on_26 ?_
    refine S_iald (N := 3305) dX2_on_27 rfl (by decide) rfl ?_
    refine S_if_ge (tgt := 37) dX2_on_28 (by decide) (fun h5 => ?_) (fun h5 => ?_)
    · refine S_aload_n dX2_on_37 rfl ?_
      refine S_sipush dX2_on_38 rfl (by decide) ?_
      refine S_iconst dX2_on_41 rfl ?_
      refine S_iload_n dX2_on_42 rfl ?_
      refine S_iadd dX2_on_43 ?_
      refine S_imul dX2_on_44 ?_
      refine S_iconst dX2_on_45 rfl ?_
      refine S_callV_V dX2_on_46 [.inl (w32 (821 * (w32 (1 + p1)))), .inl 0] (K_X2_copyRiver (w32 (821 * (w32 (1 + p1)))) 0 μ) l_X2_189 yo_X2_copyRiver rfl rfl rfl rfl rfl (fun μ2 => ?_)
      refine S_aload_n dX2_on_49 rfl ?_
      refine S_getR (c1 := 61) dX2_on_50 rfl fl_X2_7 rfl rfl rfl ?_
      refine S_iconst dX2_on_53 rfl ?_
      refine S_ialdK (k := 0) dX2_on_54 rfl (by decide) (by decide) ?_
      exact S_iret dX2_on_55 rfl rfl
    · refine S_aload_n dX2_on_31 rfl ?_
      refine S_iconst dX2_on_32 rfl ?_
      refine S_callV_M2 dX2_on_33 [.inl 1] (K_X2_find 1 μ) l_X2_69 yo_X2_find rfl rfl rfl rfl rfl (fun x3 μ4 => ?_)
      exact S_iret dX2_on_36 rfl rfl
  · refine S_iconst dX2_on_12 rfl ?_
    exact S_iret dX2_on_13 rfl rfl
def fX2_layTried_L2 : Nat → Int → Mem → Option Mem
  | 0, _, _ => none
  | n3 + 1, x1, μ2 =>
    if 21 ≤ x1 then
      some μ2
    else
      grd (0 ≤ x1 ∧ x1 < 3305) <|
      grd (0 ≤ (w32 (3284 + x1)) ∧ (w32 (3284 + x1)) < 3305) <|
      mlet (wr μ2 61 ((w32 (3284 + x1))).toNat (μ2 61 (x1).toNat)) fun μ4 =>
      mlet (w32 (x1 + 1)) fun x5 =>
      fX2_layTried_L2 n3 x5 μ4
def fX2_layTried (μ : Mem) : Option Mem :=
  fX2_layTried_L2 fuel 0 μ
theorem K_X2_layTried    (μ : Mem) : Con yX2_layTried cX2_layTried 2 (none) 2 [.inr (.inr 60)] μ (fX2_layTried  μ) wV := by
  refine con_of (own := RX2) (by decide) rfl (Nat.le_of_ble_eq_true rfl) ?_
  show Sim cX2_layTried 2 RX2 (2) (none) wV 0 [(0, .inr (.inr 60))] [] μ (fX2_layTried  μ)
  unfold fX2_layTried
  refine S_iconst dX2_layTried_0 rfl ?_
  refine S_istore_n (lv' := [(1, .inl 0), (0, .inr (.inr 60))]) dX2_layTried_1 rfl rfl ?_
  have hL2 : ∀ (n3 : Nat) (x1 : Int) (μ2 : Mem), Sim cX2_layTried 2 RX2 (2) (none) wV 2 [(0, .inr (.inr 60)), (1, .inl x1)] [] μ2 (fX2_layTried_L2 n3 x1 μ2) := by
    intro n3
    induction n3 with
    | zero =>
      intro x1 μ2
      exact S_none rfl
    | succ n3 ih =>
      intro x1 μ2
      rw [fX2_layTried_L2]
      refine S_iload_n dX2_layTried_2 rfl ?_
      refine S_bipush dX2_layTried_3 rfl (by decide) ?_
      refine S_ic_ge (tgt := 30) dX2_layTried_5 (by decide) (fun h6 => ?_) (fun h6 => ?_)
      · exact S_vret dX2_layTried_30 rfl rfl
      · refine S_aload_n dX2_layTried_8 rfl ?_
        refine S_getR (c1 := 61) dX2_layTried_9 rfl fl_X2_7 rfl rfl rfl ?_
        refine S_sipush dX2_layTried_12 rfl (by decide) ?_
        refine S_iload_n dX2_layTried_15 rfl ?_
        refine S_iadd dX2_layTried_16 ?_
        refine S_aload_n dX2_layTried_17 rfl ?_
        refine S_getR (c1 := 61) dX2_layTried_18 rfl fl_X2_7 rfl rfl rfl ?_
        refine S_iload_n dX2_layTried_21 rfl ?_
        refine S_iald (N := 3305) dX2_layTried_22 rfl (by decide) rfl ?_
        refine S_iast (N := 3305) dX2_layTried_23 rfl (by decide) rfl (fun μ4 => ?_)
        refine S_iinc (lv' := fun x5 => [(1, .inl x5), (0, .inr (.inr 60))]) dX2_layTried_24 rfl rfl rfl (fun _ => rfl) (fun x5 => ?_)
        refine S_goto (tgt := 2) dX2_layTried_27 (by decide) ?_
        exact S_sub [1, 0] rfl (ih x5 μ4)
  exact S_sub [1, 0] rfl (hL2 fuel 0 μ)
