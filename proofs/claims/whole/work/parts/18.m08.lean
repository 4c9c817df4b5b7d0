theorem dX2_mean_0 : decode cX2_mean 0 = .ok (.iload_n 1, 1) := by decide +kernel
theorem dX2_mean_1 : decode cX2_mean 1 = .ok (.invokestatic 65, 3) := by decide +kernel
theorem dX2_mean_4 : decode cX2_mean 4 = .ok (.ifCond .ne 5, 3) := by decide +kernel
theorem dX2_mean_7 : decode cX2_mean 7 = .ok (.iconst (-1), 1) := by decide +kernel
theorem dX2_mean_8 : decode cX2_mean 8 = .ok (.ireturn, 1) := by decide +kernel
theorem dX2_mean_9 : decode cX2_mean 9 = .ok (.aload_n 0, 1) := by decide +kernel
theorem dX2_mean_10 : decode cX2_mean 10 = .ok (.getfield 16, 3) := by decide +kernel
theorem dX2_mean_13 : decode cX2_mean 13 = .ok (.iload_n 1, 1) := by decide +kernel
theorem dX2_mean_14 : decode cX2_mean 14 = .ok (.iaload, 1) := by decide +kernel
theorem dX2_mean_15 : decode cX2_mean 15 = .ok (.ifCond .ge 9, 3) := by decide +kernel
theorem dX2_mean_18 : decode cX2_mean 18 = .ok (.aload_n 0, 1) := by decide +kernel
theorem dX2_mean_19 : decode cX2_mean 19 = .ok (.iconst 1, 1) := by decide +kernel
theorem dX2_mean_20 : decode cX2_mean 20 = .ok (.invokevirtual 69, 3) := by decide +kernel
theorem dX2_mean_23 : decode cX2_mean 23 = .ok (.ireturn, 1) := by decide +kernel
theorem dX2_mean_24 : decode cX2_mean 24 = .ok (.aload_n 0, 1) := by decide +kernel
theorem dX2_mean_25 : decode cX2_mean 25 = .ok (.getfield 16, 3) := by decide +kernel
theorem dX2_mean_28 : decode cX2_mean 28 = .ok (.iload_n 1, 1) := by decide +kernel
theorem dX2_mean_29 : decode cX2_mean 29 = .ok (.iaload, 1) := by decide +kernel
theorem dX2_mean_30 : decode cX2_mean 30 = .ok (.ifCond .ne 9, 3) := by decide +kernel
theorem dX2_mean_33 : decode cX2_mean 33 = .ok (.aload_n 0, 1) := by decide +kernel
theorem dX2_mean_34 : decode cX2_mean 34 = .ok (.iconst 4, 1) := by decide +kernel
theorem dX2_mean_35 : decode cX2_mean 35 = .ok (.invokevirtual 69, 3) := by decide +kernel
theorem dX2_mean_38 : decode cX2_mean 38 = .ok (.ireturn, 1) := by decide +kernel
theorem dX2_mean_39 : decode cX2_mean 39 = .ok (.lconst 0, 1) := by decide +kernel
theorem dX2_mean_40 : decode cX2_mean 40 = .ok (.lstore_n 2, 1) := by decide +kernel
theorem dX2_mean_41 : decode cX2_mean 41 = .ok (.iconst 0, 1) := by decide +kernel
theorem dX2_mean_42 : decode cX2_mean 42 = .ok (.istore 4, 2) := by decide +kernel
theorem dX2_mean_44 : decode cX2_mean 44 = .ok (.iload 4, 2) := by decide +kernel
theorem dX2_mean_46 : decode cX2_mean 46 = .ok (.aload_n 0, 1) := by decide +kernel
theorem dX2_mean_47 : decode cX2_mean 47 = .ok (.getfield 16, 3) := by decide +kernel
theorem dX2_mean_50 : decode cX2_mean 50 = .ok (.iload_n 1, 1) := by decide +kernel
theorem dX2_mean_51 : decode cX2_mean 51 = .ok (.iaload, 1) := by decide +kernel
theorem dX2_mean_52 : decode cX2_mean 52 = .ok (.if_icmp .ge 25, 3) := by decide +kernel
theorem dX2_mean_55 : decode cX2_mean 55 = .ok (.lload_n 2, 1) := by decide +kernel
theorem dX2_mean_56 : decode cX2_mean 56 = .ok (.aload_n 0, 1) := by decide +kernel
theorem dX2_mean_57 : decode cX2_mean 57 = .ok (.getfield 19, 3) := by decide +kernel
theorem dX2_mean_60 : decode cX2_mean 60 = .ok (.bipush 40, 2) := by decide +kernel
theorem dX2_mean_62 : decode cX2_mean 62 = .ok (.iload_n 1, 1) := by decide +kernel
theorem dX2_mean_63 : decode cX2_mean 63 = .ok (.imul, 1) := by decide +kernel
theorem dX2_mean_64 : decode cX2_mean 64 = .ok (.iload 4, 2) := by decide +kernel
theorem dX2_mean_66 : decode cX2_mean 66 = .ok (.iadd, 1) := by decide +kernel
theorem dX2_mean_67 : decode cX2_mean 67 = .ok (.iaload, 1) := by decide +kernel
theorem dX2_mean_68 : decode cX2_mean 68 = .ok (.i2l, 1) := by decide +kernel
theorem dX2_mean_69 : decode cX2_mean 69 = .ok (.ladd, 1) := by decide +kernel
theorem dX2_mean_70 : decode cX2_mean 70 = .ok (.lstore_n 2, 1) := by decide +kernel
theorem dX2_mean_71 : decode cX2_mean 71 = .ok (.iinc 4 1, 3) := by decide +kernel
theorem dX2_mean_74 : decode cX2_mean 74 = .ok (.goto (-30), 3) := by decide +kernel
theorem dX2_mean_77 : decode cX2_mean 77 = .ok (.aload_n 0, 1) := by decide +kernel
theorem dX2_mean_78 : decode cX2_mean 78 = .ok (.lload_n 2, 1) := by decide +kernel
theorem dX2_mean_79 : decode cX2_mean 79 = .ok (.aload_n 0, 1) := by decide +kernel
theorem dX2_mean_80 : decode cX2_mean 80 = .ok (.getfield 16, 3) := by decide +kernel
theorem dX2_mean_83 : decode cX2_mean 83 = .ok (.iload_n 1, 1) := by decide +kernel
theorem dX2_mean_84 : decode cX2_mean 84 = .ok (.iaload, 1) := by decide +kernel
theorem dX2_mean_85 : decode cX2_mean 85 = .ok (.i2l, 1) := by decide +kernel
theorem dX2_mean_86 : decode cX2_mean 86 = .ok (.ldiv, 1) := by decide +kernel
theorem dX2_mean_87 : decode cX2_mean 87 = .ok (.l2i, 1) := by decide +kernel
theorem dX2_mean_88 : decode cX2_mean 88 = .ok (.invokevirtual 81, 3) := by decide +kernel
theorem dX2_mean_91 : decode cX2_mean 91 = .ok (.ireturn, 1) := by decide +kernel
theorem dX2_text_0 : decode cX2_text 0 = .ok (.iload_n 1, 1) := by decide +kernel
theorem dX2_text_1 : decode cX2_text 1 = .ok (.invokestatic 88, 3) := by decide +kernel
theorem dX2_text_4 : decode cX2_text 4 = .ok (.ifCond .eq 9, 3) := by decide +kernel
theorem dX2_text_7 : decode cX2_text 7 = .ok (.iload_n 2, 1) := by decide +kernel
theorem dX2_text_8 : decode cX2_text 8 = .ok (.bipush 60, 2) := by decide +kernel
theorem dX2_text_10 : decode cX2_text 10 = .ok (.if_icmp .le 5, 3) := by decide +kernel
theorem dX2_text_13 : decode cX2_text 13 = .ok (.iconst (-1), 1) := by decide +kernel
theorem dX2_text_14 : decode cX2_text 14 = .ok (.ireturn, 1) := by decide +kernel
theorem dX2_text_15 : decode cX2_text 15 = .ok (.iload_n 2, 1) := by decide +kernel
theorem dX2_text_16 : decode cX2_text 16 = .ok (.ifCond .ge 9, 3) := by decide +kernel
theorem dX2_text_19 : decode cX2_text 19 = .ok (.aload_n 0, 1) := by decide +kernel
theorem dX2_text_20 : decode cX2_text 20 = .ok (.iconst 5, 1) := by decide +kernel
theorem dX2_text_21 : decode cX2_text 21 = .ok (.invokevirtual 69, 3) := by decide +kernel
theorem dX2_text_24 : decode cX2_text 24 = .ok (.ireturn, 1) := by decide +kernel
theorem dX2_text_25 : decode cX2_text 25 = .ok (.aload_n 0, 1) := by decide +kernel
theorem dX2_text_26 : decode cX2_text 26 = .ok (.getfield 22, 3) := by decide +kernel
theorem dX2_text_29 : decode cX2_text 29 = .ok (.iload_n 1, 1) := by decide +kernel
theorem dX2_text_30 : decode cX2_text 30 = .ok (.iload_n 2, 1) := by decide +kernel
theorem dX2_text_31 : decode cX2_text 31 = .ok (.iastore, 1) := by decide +kernel
theorem dX2_text_32 : decode cX2_text 32 = .ok (.iconst 0, 1) := by decide +kernel
theorem dX2_text_33 : decode cX2_text 33 = .ok (.istore_n 3, 1) := by decide +kernel
theorem dX2_text_34 : decode cX2_text 34 = .ok (.iload_n 3, 1) := by decide +kernel
theorem dX2_text_35 : decode cX2_text 35 = .ok (.bipush 60, 2) := by decide +kernel
theorem dX2_text_37 : decode cX2_text 37 = .ok (.if_icmp .ge 22, 3) := by decide +kernel
theorem dX2_text_40 : decode cX2_text 40 = .ok (.aload_n 0, 1) := by decide +kernel
theorem dX2_text_41 : decode cX2_text 41 = .ok (.getfield 25, 3) := by decide +kernel
theorem dX2_text_44 : decode cX2_text 44 = .ok (.bipush 60, 2) := by decide +kernel
theorem dX2_text_46 : decode cX2_text 46 = .ok (.iload_n 1, 1) := by decide +kernel
theorem dX2_text_47 : decode cX2_text 47 = .ok (.imul, 1) := by decide +kernel
theorem dX2_text_48 : decode cX2_text 48 = .ok (.iload_n 3, 1) := by decide +kernel
theorem dX2_text_49 : decode cX2_text 49 = .ok (.iadd, 1) := by decide +kernel
theorem dX2_text_50 : decode cX2_text 50 = .ok (.bipush 32, 2) := by decide +kernel
theorem dX2_text_52 : decode cX2_text 52 = .ok (.iastore, 1) := by decide +kernel
theorem dX2_text_53 : decode cX2_text 53 = .ok (.iinc 3 1, 3) := by decide +kernel
theorem dX2_text_56 : decode cX2_text 56 = .ok (.goto (-22), 3) := by decide +kernel
theorem dX2_text_59 : decode cX2_text 59 = .ok (.iload_n 2, 1) := by decide +kernel
theorem dX2_text_60 : decode cX2_text 60 = .ok (.ireturn, 1) := by decide +kernel
theorem dX2_put_0 : decode cX2_put 0 = .ok (.iload_n 1, 1) := by decide +kernel
theorem dX2_put_1 : decode cX2_put 1 = .ok (.invokestatic 88, 3) := by decide +kernel
theorem dX2_put_4 : decode cX2_put 4 = .ok (.ifCond .ne 5, 3) := by decide +kernel
theorem dX2_put_7 : decode cX2_put 7 = .ok (.iconst (-1), 1) := by decide +kernel
theorem dX2_put_8 : decode cX2_put 8 = .ok (.ireturn, 1) := by decide +kernel
theorem dX2_put_9 : decode cX2_put 9 = .ok (.aload_n 0, 1) := by decide +kernel
theorem dX2_put_10 : decode cX2_put 10 = .ok (.getfield 22, 3) := by decide +kernel
theorem dX2_put_13 : decode cX2_put 13 = .ok (.iload_n 1, 1) := by decide +kernel
theorem dX2_put_14 : decode cX2_put 14 = .ok (.iaload, 1) := by decide +kernel
theorem dX2_put_15 : decode cX2_put 15 = .ok (.ifCond .ge 9, 3) := by decide +kernel
theorem dX2_put_18 : decode cX2_put 18 = .ok (.aload_n 0, 1) := by decide +kernel
theorem dX2_put_19 : decode cX2_put 19 = .ok (.iconst 1, 1) := by decide +kernel
theorem dX2_put_20 : decode cX2_put 20 = .ok (.invokevirtual 69, 3) := by decide +kernel
theorem dX2_put_23 : decode cX2_put 23 = .ok (.ireturn, 1) := by decide +kernel
theorem dX2_put_24 : decode cX2_put 24 = .ok (.iload_n 2, 1) := by decide +kernel
theorem dX2_put_25 : decode cX2_put 25 = .ok (.i2l, 1) := by decide +kernel
theorem dX2_put_26 : decode cX2_put 26 = .ok (.lconst 0, 1) := by decide +kernel
theorem dX2_put_27 : decode cX2_put 27 = .ok (.aload_n 0, 1) := by decide +kernel
theorem dX2_put_28 : decode cX2_put 28 = .ok (.getfield 22, 3) := by decide +kernel
theorem dX2_put_31 : decode cX2_put 31 = .ok (.iload_n 1, 1) := by decide +kernel
theorem dX2_put_32 : decode cX2_put 32 = .ok (.iaload, 1) := by decide +kernel
theorem dX2_put_33 : decode cX2_put 33 = .ok (.iconst 1, 1) := by decide +kernel
theorem dX2_put_34 : decode cX2_put 34 = .ok (.isub, 1) := by decide +kernel
theorem dX2_put_35 : decode cX2_put 35 = .ok (.i2l, 1) := by decide +kernel
theorem dX2_put_36 : decode cX2_put 36 = .ok (.invokestatic 59, 3) := by decide +kernel
theorem dX2_put_39 : decode cX2_put 39 = .ok (.ifCond .ne 9, 3) := by decide +kernel
theorem dX2_put_42 : decode cX2_put 42 = .ok (.aload_n 0, 1) := by decide +kernel
theorem dX2_put_43 : decode cX2_put 43 = .ok (.iconst 2, 1) := by decide +kernel
theorem dX2_put_44 : decode cX2_put 44 = .ok (.invokevirtual 69, 3) := by decide +kernel
theorem dX2_put_47 : decode cX2_put 47 = .ok (.ireturn, 1) := by decide +kernel
theorem dX2_put_48 : decode cX2_put 48 = .ok (.aload_n 0, 1) := by decide +kernel
theorem dX2_put_49 : decode cX2_put 49 = .ok (.getfield 25, 3) := by decide +kernel
theorem dX2_put_52 : decode cX2_put 52 = .ok (.bipush 60, 2) := by decide +kernel
theorem dX2_put_54 : decode cX2_put 54 = .ok (.iload_n 1, 1) := by decide +kernel
theorem dX2_put_55 : decode cX2_put 55 = .ok (.imul, 1) := by decide +kernel
theorem dX2_put_56 : decode cX2_put 56 = .ok (.iload_n 2, 1) := by decide +kernel
theorem dX2_put_57 : decode cX2_put 57 = .ok (.iadd, 1) := by decide +kernel
theorem dX2_put_58 : decode cX2_put 58 = .ok (.iaload, 1) := by decide +kernel
theorem dX2_put_59 : decode cX2_put 59 = .ok (.istore 4, 2) := by decide +kernel
theorem dX2_put_61 : decode cX2_put 61 = .ok (.aload_n 0, 1) := by decide +kernel
theorem dX2_put_62 : decode cX2_put 62 = .ok (.getfield 25, 3) := by decide +kernel
theorem dX2_put_65 : decode cX2_put 65 = .ok (.bipush 60, 2) := by decide +kernel
theorem dX2_put_67 : decode cX2_put 67 = .ok (.iload_n 1, 1) := by decide +kernel
theorem dX2_put_68 : decode cX2_put 68 = .ok (.imul, 1) := by decide +kernel
theorem dX2_put_69 : decode cX2_put 69 = .ok (.iload_n 2, 1) := by decide +kernel
theorem dX2_put_70 : decode cX2_put 70 = .ok (.iadd, 1) := by decide +kernel
theorem dX2_put_71 : decode cX2_put 71 = .ok (.iload_n 3, 1) := by decide +kernel
theorem dX2_put_72 : decode cX2_put 72 = .ok (.i2b, 1) := by decide +kernel
theorem dX2_put_73 : decode cX2_put 73 = .ok (.iastore, 1) := by decide +kernel
theorem dX2_put_74 : decode cX2_put 74 = .ok (.iload 4, 2) := by decide +kernel
theorem dX2_put_76 : decode cX2_put 76 = .ok (.sipush 1000, 3) := by decide +kernel
theorem dX2_put_79 : decode cX2_put 79 = .ok (.iadd, 1) := by decide +kernel
theorem dX2_put_80 : decode cX2_put 80 = .ok (.ireturn, 1) := by decide +kernel
theorem dX2_here_0 : decode cX2_here 0 = .ok (.aload_n 0, 1) := by decide +kernel
theorem dX2_here_1 : decode cX2_here 1 = .ok (.getfield 25, 3) := by decide +kernel
theorem dX2_here_4 : decode cX2_here 4 = .ok (.aload_n 0, 1) := by decide +kernel
theorem dX2_here_5 : decode cX2_here 5 = .ok (.getfield 91, 3) := by decide +kernel
theorem dX2_here_8 : decode cX2_here 8 = .ok (.aload_n 0, 1) := by decide +kernel
theorem dX2_here_9 : decode cX2_here 9 = .ok (.getfield 94, 3) := by decide +kernel
theorem dX2_here_12 : decode cX2_here 12 = .ok (.iadd, 1) := by decide +kernel
theorem dX2_here_13 : decode cX2_here 13 = .ok (.iaload, 1) := by decide +kernel
theorem dX2_here_14 : decode cX2_here 14 = .ok (.ireturn, 1) := by decide +kernel
theorem dX2_skip_0 : decode cX2_skip 0 = .ok (.aload_n 0, 1) := by decide +kernel
theorem dX2_skip_1 : decode cX2_skip 1 = .ok (.getfield 94, 3) := by decide +kernel
theorem dX2_skip_4 : decode cX2_skip 4 = .ok (.aload_n 0, 1) := by decide +kernel
theorem dX2_skip_5 : decode cX2_skip 5 = .ok (.getfield 97, 3) := by decide +kernel
theorem dX2_skip_8 : decode cX2_skip 8 = .ok (.if_icmp .ge 25, 3) := by decide +kernel
theorem dX2_skip_11 : decode cX2_skip 11 = .ok (.aload_n 0, 1) := by decide +kernel
theorem dX2_skip_12 : decode cX2_skip 12 = .ok (.invokevirtual 100, 3) := by decide +kernel
theorem dX2_skip_15 : decode cX2_skip 15 = .ok (.bipush 32, 2) := by decide +kernel
theorem dX2_skip_17 : decode cX2_skip 17 = .ok (.if_icmp .ne 16, 3) := by decide +kernel
theorem dX2_skip_20 : decode cX2_skip 20 = .ok (.aload_n 0, 1) := by decide +kernel
theorem dX2_skip_21 : decode cX2_skip 21 = .ok (.dup, 1) := by decide +kernel
theorem dX2_skip_22 : decode cX2_skip 22 = .ok (.getfield 94, 3) := by decide +kernel
theorem dX2_skip_25 : decode cX2_skip 25 = .ok (.iconst 1, 1) := by decide +kernel
theorem dX2_skip_26 : decode cX2_skip 26 = .ok (.iadd, 1) := by decide +kernel
theorem dX2_skip_27 : decode cX2_skip 27 = .ok (.putfield 94, 3) := by decide +kernel
theorem dX2_skip_30 : decode cX2_skip 30 = .ok (.goto (-30), 3) := by decide +kernel
theorem dX2_skip_33 : decode cX2_skip 33 = .ok (.return_, 1) := by decide +kernel
theorem dX2_figure_0 : decode cX2_figure 0 = .ok (.aload_n 0, 1) := by decide +kernel
theorem dX2_figure_1 : decode cX2_figure 1 = .ok (.getfield 94, 3) := by decide +kernel
theorem dX2_figure_4 : decode cX2_figure 4 = .ok (.aload_n 0, 1) := by decide +kernel
theorem dX2_figure_5 : decode cX2_figure 5 = .ok (.getfield 97, 3) := by decide +kernel
theorem dX2_figure_8 : decode cX2_figure 8 = .ok (.if_icmp .eq 20, 3) := by decide +kernel
theorem dX2_figure_11 : decode cX2_figure 11 = .ok (.aload_n 0, 1) := by decide +kernel
theorem dX2_figure_12 : decode cX2_figure 12 = .ok (.invokevirtual 100, 3) := by decide +kernel
theorem dX2_figure_15 : decode cX2_figure 15 = .ok (.i2l, 1) := by decide +kernel
theorem dX2_figure_16 : decode cX2_figure 16 = .ok (.ldc2_w 104, 3) := by decide +kernel
theorem dX2_figure_19 : decode cX2_figure 19 = .ok (.ldc2_w 106, 3) := by decide +kernel
theorem dX2_figure_22 : decode cX2_figure 22 = .ok (.invokestatic 59, 3) := by decide +kernel
theorem dX2_figure_25 : decode cX2_figure 25 = .ok (.ifCond .ne 6, 3) := by decide +kernel
theorem dX2_figure_28 : decode cX2_figure 28 = .ok (.bipush (-9), 2) := by decide +kernel
theorem dX2_figure_30 : decode cX2_figure 30 = .ok (.ireturn, 1) := by decide +kernel
theorem dX2_figure_31 : decode cX2_figure 31 = .ok (.aload_n 0, 1) := by decide +kernel
theorem dX2_figure_32 : decode cX2_figure 32 = .ok (.dup, 1) := by decide +kernel
theorem dX2_figure_33 : decode cX2_figure 33 = .ok (.getfield 94, 3) := by decide +kernel
theorem dX2_figure_36 : decode cX2_figure 36 = .ok (.iconst 1, 1) := by decide +kernel
theorem dX2_figure_37 : decode cX2_figure 37 = .ok (.iadd, 1) := by decide +kernel
theorem dX2_figure_38 : decode cX2_figure 38 = .ok (.putfield 94, 3) := by decide +kernel
theorem dX2_figure_41 : decode cX2_figure 41 = .ok (.aload_n 0, 1) := by decide +kernel
theorem dX2_figure_42 : decode cX2_figure 42 = .ok (.getfield 25, 3) := by decide +kernel
theorem dX2_figure_45 : decode cX2_figure 45 = .ok (.aload_n 0, 1) := by decide +kernel
theorem dX2_figure_46 : decode cX2_figure 46 = .ok (.getfield 91, 3) := by decide +kernel
theorem dX2_figure_49 : decode cX2_figure 49 = .ok (.aload_n 0, 1) := by decide +kernel
theorem dX2_figure_50 : decode cX2_figure 50 = .ok (.getfield 94, 3) := by decide +kernel
theorem dX2_figure_53 : decode cX2_figure 53 = .ok (.iadd, 1) := by decide +kernel
theorem dX2_figure_54 : decode cX2_figure 54 = .ok (.iconst 1, 1) := by decide +kernel
theorem dX2_figure_55 : decode cX2_figure 55 = .ok (.isub, 1) := by decide +kernel
theorem dX2_figure_56 : decode cX2_figure 56 = .ok (.iaload, 1) := by decide +kernel
theorem dX2_figure_57 : decode cX2_figure 57 = .ok (.bipush 48, 2) := by decide +kernel
theorem dX2_figure_59 : decode cX2_figure 59 = .ok (.isub, 1) := by decide +kernel
theorem dX2_figure_60 : decode cX2_figure 60 = .ok (.ireturn, 1) := by decide +kernel
theorem dX2_twoFigures_0 : decode cX2_twoFigures 0 = .ok (.aload_n 0, 1) := by decide +kernel
theorem dX2_twoFigures_1 : decode cX2_twoFigures 1 = .ok (.getfield 94, 3) := by decide +kernel
theorem dX2_twoFigures_4 : decode cX2_twoFigures 4 = .ok (.istore_n 2, 1) := by decide +kernel
theorem dX2_twoFigures_5 : decode cX2_twoFigures 5 = .ok (.aload_n 0, 1) := by decide +kernel
theorem dX2_twoFigures_6 : decode cX2_twoFigures 6 = .ok (.invokevirtual 108, 3) := by decide +kernel
theorem dX2_twoFigures_9 : decode cX2_twoFigures 9 = .ok (.istore_n 3, 1) := by decide +kernel
theorem dX2_twoFigures_10 : decode cX2_twoFigures 10 = .ok (.iload_n 3, 1) := by decide +kernel
theorem dX2_twoFigures_11 : decode cX2_twoFigures 11 = .ok (.bipush (-9), 2) := by decide +kernel
theorem dX2_twoFigures_13 : decode cX2_twoFigures 13 = .ok (.if_icmp .ne 8, 3) := by decide +kernel
theorem dX2_twoFigures_16 : decode cX2_twoFigures 16 = .ok (.bipush (-9), 2) := by decide +kernel
theorem dX2_twoFigures_18 : decode cX2_twoFigures 18 = .ok (.goto 7, 3) := by decide +kernel
theorem dX2_twoFigures_21 : decode cX2_twoFigures 21 = .ok (.aload_n 0, 1) := by decide +kernel
theorem dX2_twoFigures_22 : decode cX2_twoFigures 22 = .ok (.invokevirtual 108, 3) := by decide +kernel
theorem dX2_twoFigures_25 : decode cX2_twoFigures 25 = .ok (.istore 4, 2) := by decide +kernel
theorem dX2_twoFigures_27 : decode cX2_twoFigures 27 = .ok (.iload 4, 2) := by decide +kernel
theorem dX2_twoFigures_29 : decode cX2_twoFigures 29 = .ok (.bipush (-9), 2) := by decide +kernel
theorem dX2_twoFigures_31 : decode cX2_twoFigures 31 = .ok (.if_icmp .ne 6, 3) := by decide +kernel
theorem dX2_twoFigures_34 : decode cX2_twoFigures 34 = .ok (.bipush (-9), 2) := by decide +kernel
theorem dX2_twoFigures_36 : decode cX2_twoFigures 36 = .ok (.ireturn, 1) := by decide +kernel
theorem dX2_twoFigures_37 : decode cX2_twoFigures 37 = .ok (.bipush 10, 2) := by decide +kernel
theorem dX2_twoFigures_39 : decode cX2_twoFigures 39 = .ok (.iload_n 3, 1) := by decide +kernel
theorem dX2_twoFigures_40 : decode cX2_twoFigures 40 = .ok (.imul, 1) := by decide +kernel
theorem dX2_twoFigures_41 : decode cX2_twoFigures 41 = .ok (.iload 4, 2) := by decide +kernel
theorem dX2_twoFigures_43 : decode cX2_twoFigures 43 = .ok (.iadd, 1) := by decide +kernel
theorem dX2_twoFigures_44 : decode cX2_twoFigures 44 = .ok (.iload_n 1, 1) := by decide +kernel
theorem dX2_twoFigures_45 : decode cX2_twoFigures 45 = .ok (.if_icmp .le 11, 3) := by decide +kernel
theorem dX2_twoFigures_48 : decode cX2_twoFigures 48 = .ok (.aload_n 0, 1) := by decide +kernel
theorem dX2_twoFigures_49 : decode cX2_twoFigures 49 = .ok (.iload_n 2, 1) := by decide +kernel
theorem dX2_twoFigures_50 : decode cX2_twoFigures 50 = .ok (.putfield 94, 3) := by decide +kernel
theorem dX2_twoFigures_53 : decode cX2_twoFigures 53 = .ok (.bipush (-9), 2) := by decide +kernel
theorem dX2_twoFigures_55 : decode cX2_twoFigures 55 = .ok (.ireturn, 1) := by decide +kernel
theorem dX2_twoFigures_56 : decode cX2_twoFigures 56 = .ok (.bipush 10, 2) := by decide +kernel
theorem dX2_twoFigures_58 : decode cX2_twoFigures 58 = .ok (.iload_n 3, 1) := by decide +kernel
theorem dX2_twoFigures_59 : decode cX2_twoFigures 59 = .ok (.imul, 1) := by decide +kernel
theorem dX2_twoFigures_60 : decode cX2_twoFigures 60 = .ok (.iload 4, 2) := by decide +kernel
theorem dX2_twoFigures_62 : decode cX2_twoFigures 62 = .ok (.iadd, 1) := by decide +kernel
theorem dX2_twoFigures_63 : decode cX2_twoFigures 63 = .ok (.ireturn, 1) := by decide +kernel
theorem dX2_readsFord_0 : decode cX2_readsFord 0 = .ok (.aload_n 0, 1) := by decide +kernel
theorem dX2_readsFord_1 : decode cX2_readsFord 1 = .ok (.invokevirtual 111, 3) := by decide +kernel
theorem dX2_readsFord_4 : decode cX2_readsFord 4 = .ok (.aload_n 0, 1) := by decide +kernel
theorem dX2_readsFord_5 : decode cX2_readsFord 5 = .ok (.getfield 94, 3) := by decide +kernel
theorem dX2_readsFord_8 : decode cX2_readsFord 8 = .ok (.aload_n 0, 1) := by decide +kernel
theorem dX2_readsFord_9 : decode cX2_readsFord 9 = .ok (.getfield 97, 3) := by decide +kernel
theorem dX2_readsFord_12 : decode cX2_readsFord 12 = .ok (.if_icmp .eq 12, 3) := by decide +kernel
theorem dX2_readsFord_15 : decode cX2_readsFord 15 = .ok (.aload_n 0, 1) := by decide +kernel
theorem dX2_readsFord_16 : decode cX2_readsFord 16 = .ok (.invokevirtual 100, 3) := by decide +kernel
theorem dX2_readsFord_19 : decode cX2_readsFord 19 = .ok (.bipush 102, 2) := by decide +kernel
theorem dX2_readsFord_21 : decode cX2_readsFord 21 = .ok (.if_icmp .eq 5, 3) := by decide +kernel
theorem dX2_readsFord_24 : decode cX2_readsFord 24 = .ok (.iconst 0, 1) := by decide +kernel
theorem dX2_readsFord_25 : decode cX2_readsFord 25 = .ok (.ireturn, 1) := by decide +kernel
theorem dX2_readsFord_26 : decode cX2_readsFord 26 = .ok (.aload_n 0, 1) := by decide +kernel
theorem dX2_readsFord_27 : decode cX2_readsFord 27 = .ok (.dup, 1) := by decide +kernel
theorem dX2_readsFord_28 : decode cX2_readsFord 28 = .ok (.getfield 94, 3) := by decide +kernel
theorem dX2_readsFord_31 : decode cX2_readsFord 31 = .ok (.iconst 1, 1) := by decide +kernel
theorem dX2_readsFord_32 : decode cX2_readsFord 32 = .ok (.iadd, 1) := by decide +kernel
theorem dX2_readsFord_33 : decode cX2_readsFord 33 = .ok (.putfield 94, 3) := by decide +kernel
theorem dX2_readsFord_36 : decode cX2_readsFord 36 = .ok (.aload_n 0, 1) := by decide +kernel
theorem dX2_readsFord_37 : decode cX2_readsFord 37 = .ok (.aload_n 0, 1) := by decide +kernel
theorem dX2_readsFord_38 : decode cX2_readsFord 38 = .ok (.invokevirtual 108, 3) := by decide +kernel
theorem dX2_readsFord_41 : decode cX2_readsFord 41 = .ok (.putfield 114, 3) := by decide +kernel
theorem dX2_readsFord_44 : decode cX2_readsFord 44 = .ok (.aload_n 0, 1) := by decide +kernel
theorem dX2_readsFord_45 : decode cX2_readsFord 45 = .ok (.getfield 114, 3) := by decide +kernel
theorem dX2_readsFord_48 : decode cX2_readsFord 48 = .ok (.bipush (-9), 2) := by decide +kernel
theorem dX2_readsFord_50 : decode cX2_readsFord 50 = .ok (.if_icmp .eq 7, 3) := by decide +kernel
theorem dX2_readsFord_53 : decode cX2_readsFord 53 = .ok (.iconst 1, 1) := by decide +kernel
theorem dX2_readsFord_54 : decode cX2_readsFord 54 = .ok (.goto 4, 3) := by decide +kernel
theorem dX2_readsFord_57 : decode cX2_readsFord 57 = .ok (.iconst 0, 1) := by decide +kernel
theorem dX2_readsFord_58 : decode cX2_readsFord 58 = .ok (.ireturn, 1) := by decide +kernel
theorem dX2_kindOfLetter_0 : decode cX2_kindOfLetter 0 = .ok (.iload_n 0, 1) := by decide +kernel
theorem dX2_kindOfLetter_1 : decode cX2_kindOfLetter 1 = .ok (.bipush 112, 2) := by decide +kernel
theorem dX2_kindOfLetter_3 : decode cX2_kindOfLetter 3 = .ok (.if_icmp .ne 7, 3) := by decide +kernel
theorem dX2_kindOfLetter_6 : decode cX2_kindOfLetter 6 = .ok (.iconst 0, 1) := by decide +kernel
theorem dX2_kindOfLetter_7 : decode cX2_kindOfLetter 7 = .ok (.goto 55, 3) := by decide +kernel
theorem dX2_kindOfLetter_10 : decode cX2_kindOfLetter 10 = .ok (.iload_n 0, 1) := by decide +kernel
theorem dX2_kindOfLetter_11 : decode cX2_kindOfLetter 11 = .ok (.bipush 100, 2) := by decide +kernel
theorem dX2_kindOfLetter_13 : decode cX2_kindOfLetter 13 = .ok (.if_icmp .ne 7, 3) := by decide +kernel
theorem dX2_kindOfLetter_16 : decode cX2_kindOfLetter 16 = .ok (.iconst 1, 1) := by decide +kernel
theorem dX2_kindOfLetter_17 : decode cX2_kindOfLetter 17 = .ok (.goto 45, 3) := by decide +kernel
theorem dX2_kindOfLetter_20 : decode cX2_kindOfLetter 20 = .ok (.iload_n 0, 1) := by decide +kernel
theorem dX2_kindOfLetter_21 : decode cX2_kindOfLetter 21 = .ok (.bipush 101, 2) := by decide +kernel
theorem dX2_kindOfLetter_23 : decode cX2_kindOfLetter 23 = .ok (.if_icmp .ne 7, 3) := by decide +kernel
theorem dX2_kindOfLetter_26 : decode cX2_kindOfLetter 26 = .ok (.iconst 2, 1) := by decide +kernel
theorem dX2_kindOfLetter_27 : decode cX2_kindOfLetter 27 = .ok (.goto 35, 3) := by decide +kernel
theorem dX2_kindOfLetter_30 : decode cX2_kindOfLetter 30 = .ok (.iload_n 0, 1) := by decide +kernel
theorem dX2_kindOfLetter_31 : decode cX2_kindOfLetter 31 = .ok (.bipush 98, 2) := by decide +kernel
theorem dX2_kindOfLetter_33 : decode cX2_kindOfLetter 33 = .ok (.if_icmp .ne 7, 3) := by decide +kernel
theorem dX2_kindOfLetter_36 : decode cX2_kindOfLetter 36 = .ok (.iconst 3, 1) := by decide +kernel
theorem dX2_kindOfLetter_37 : decode cX2_kindOfLetter 37 = .ok (.goto 25, 3) := by decide +kernel
theorem dX2_kindOfLetter_40 : decode cX2_kindOfLetter 40 = .ok (.iload_n 0, 1) := by decide +kernel
theorem dX2_kindOfLetter_41 : decode cX2_kindOfLetter 41 = .ok (.bipush 116, 2) := by decide +kernel
theorem dX2_kindOfLetter_43 : decode cX2_kindOfLetter 43 = .ok (.if_icmp .ne 7, 3) := by decide +kernel
theorem dX2_kindOfLetter_46 : decode cX2_kindOfLetter 46 = .ok (.iconst 4, 1) := by decide +kernel
theorem dX2_kindOfLetter_47 : decode cX2_kindOfLetter 47 = .ok (.goto 15, 3) := by decide +kernel
theorem dX2_kindOfLetter_50 : decode cX2_kindOfLetter 50 = .ok (.iload_n 0, 1) := by decide +kernel
theorem dX2_kindOfLetter_51 : decode cX2_kindOfLetter 51 = .ok (.bipush 113, 2) := by decide +kernel
theorem dX2_kindOfLetter_53 : decode cX2_kindOfLetter 53 = .ok (.if_icmp .ne 7, 3) := by decide +kernel
theorem dX2_kindOfLetter_56 : decode cX2_kindOfLetter 56 = .ok (.iconst 5, 1) := by decide +kernel
theorem dX2_kindOfLetter_57 : decode cX2_kindOfLetter 57 = .ok (.goto 5, 3) := by decide +kernel
theorem dX2_kindOfLetter_60 : decode cX2_kindOfLetter 60 = .ok (.bipush (-9), 2) := by decide +kernel
theorem dX2_kindOfLetter_62 : decode cX2_kindOfLetter 62 = .ok (.ireturn, 1) := by decide +kernel
theorem dX2_readsOne_0 : decode cX2_readsOne 0 = .ok (.iconst 3, 1) := by decide +kernel
theorem dX2_readsOne_1 : decode cX2_readsOne 1 = .ok (.aload_n 0, 1) := by decide +kernel
theorem dX2_readsOne_2 : decode cX2_readsOne 2 = .ok (.getfield 117, 3) := by decide +kernel
theorem dX2_readsOne_5 : decode cX2_readsOne 5 = .ok (.imul, 1) := by decide +kernel
theorem dX2_readsOne_6 : decode cX2_readsOne 6 = .ok (.istore_n 1, 1) := by decide +kernel
theorem dX2_readsOne_7 : decode cX2_readsOne 7 = .ok (.aload_n 0, 1) := by decide +kernel
theorem dX2_readsOne_8 : decode cX2_readsOne 8 = .ok (.invokevirtual 100, 3) := by decide +kernel
theorem dX2_readsOne_11 : decode cX2_readsOne 11 = .ok (.invokestatic 120, 3) := by decide +kernel
theorem dX2_readsOne_14 : decode cX2_readsOne 14 = .ok (.istore_n 2, 1) := by decide +kernel
theorem dX2_readsOne_15 : decode cX2_readsOne 15 = .ok (.iload_n 2, 1) := by decide +kernel
theorem dX2_readsOne_16 : decode cX2_readsOne 16 = .ok (.bipush (-9), 2) := by decide +kernel
theorem dX2_readsOne_18 : decode cX2_readsOne 18 = .ok (.if_icmp .eq 12, 3) := by decide +kernel
theorem dX2_readsOne_21 : decode cX2_readsOne 21 = .ok (.aload_n 0, 1) := by decide +kernel
theorem dX2_readsOne_22 : decode cX2_readsOne 22 = .ok (.getfield 117, 3) := by decide +kernel
theorem dX2_readsOne_25 : decode cX2_readsOne 25 = .ok (.bipush 6, 2) := by decide +kernel
theorem dX2_readsOne_27 : decode cX2_readsOne 27 = .ok (.if_icmp .ne 5, 3) := by decide +kernel
theorem dX2_readsOne_30 : decode cX2_readsOne 30 = .ok (.iconst 0, 1) := by decide +kernel
theorem dX2_readsOne_31 : decode cX2_readsOne 31 = .ok (.ireturn, 1) := by decide +kernel
theorem dX2_readsOne_32 : decode cX2_readsOne 32 = .ok (.aload_n 0, 1) := by decide +kernel
theorem dX2_readsOne_33 : decode cX2_readsOne 33 = .ok (.dup, 1) := by decide +kernel
theorem dX2_readsOne_34 : decode cX2_readsOne 34 = .ok (.getfield 94, 3) := by decide +kernel
theorem dX2_readsOne_37 : decode cX2_readsOne 37 = .ok (.iconst 1, 1) := by decide +kernel
theorem dX2_readsOne_38 : decode cX2_readsOne 38 = .ok (.iadd, 1) := by decide +kernel
theorem dX2_readsOne_39 : decode cX2_readsOne 39 = .ok (.putfield 94, 3) := by decide +kernel
theorem dX2_readsOne_42 : decode cX2_readsOne 42 = .ok (.aload_n 0, 1) := by decide +kernel
theorem dX2_readsOne_43 : decode cX2_readsOne 43 = .ok (.invokevirtual 108, 3) := by decide +kernel
theorem dX2_readsOne_46 : decode cX2_readsOne 46 = .ok (.istore_n 3, 1) := by decide +kernel
theorem dX2_readsOne_47 : decode cX2_readsOne 47 = .ok (.iload_n 3, 1) := by decide +kernel
theorem dX2_readsOne_48 : decode cX2_readsOne 48 = .ok (.bipush (-9), 2) := by decide +kernel
theorem dX2_readsOne_50 : decode cX2_readsOne 50 = .ok (.if_icmp .ne 8, 3) := by decide +kernel
theorem dX2_readsOne_53 : decode cX2_readsOne 53 = .ok (.bipush (-9), 2) := by decide +kernel
theorem dX2_readsOne_55 : decode cX2_readsOne 55 = .ok (.goto 9, 3) := by decide +kernel
theorem dX2_readsOne_58 : decode cX2_readsOne 58 = .ok (.aload_n 0, 1) := by decide +kernel
theorem dX2_readsOne_59 : decode cX2_readsOne 59 = .ok (.bipush 20, 2) := by decide +kernel
theorem dX2_readsOne_61 : decode cX2_readsOne 61 = .ok (.invokevirtual 123, 3) := by decide +kernel
theorem dX2_readsOne_64 : decode cX2_readsOne 64 = .ok (.istore 4, 2) := by decide +kernel
theorem dX2_readsOne_66 : decode cX2_readsOne 66 = .ok (.iload 4, 2) := by decide +kernel
theorem dX2_readsOne_68 : decode cX2_readsOne 68 = .ok (.bipush (-9), 2) := by decide +kernel
theorem dX2_readsOne_70 : decode cX2_readsOne 70 = .ok (.if_icmp .ne 5, 3) := by decide +kernel
theorem dX2_readsOne_73 : decode cX2_readsOne 73 = .ok (.iconst 0, 1) := by decide +kernel
theorem dX2_readsOne_74 : decode cX2_readsOne 74 = .ok (.ireturn, 1) := by decide +kernel
theorem dX2_readsOne_75 : decode cX2_readsOne 75 = .ok (.aload_n 0, 1) := by decide +kernel
theorem dX2_readsOne_76 : decode cX2_readsOne 76 = .ok (.getfield 35, 3) := by decide +kernel
theorem dX2_readsOne_79 : decode cX2_readsOne 79 = .ok (.iload_n 1, 1) := by decide +kernel
theorem dX2_readsOne_80 : decode cX2_readsOne 80 = .ok (.iload_n 2, 1) := by decide +kernel
theorem dX2_readsOne_81 : decode cX2_readsOne 81 = .ok (.iastore, 1) := by decide +kernel
theorem dX2_readsOne_82 : decode cX2_readsOne 82 = .ok (.aload_n 0, 1) := by decide +kernel
theorem dX2_readsOne_83 : decode cX2_readsOne 83 = .ok (.getfield 35, 3) := by decide +kernel
theorem dX2_readsOne_86 : decode cX2_readsOne 86 = .ok (.iload_n 1, 1) := by decide +kernel
theorem dX2_readsOne_87 : decode cX2_readsOne 87 = .ok (.iconst 1, 1) := by decide +kernel
theorem dX2_readsOne_88 : decode cX2_readsOne 88 = .ok (.iadd, 1) := by decide +kernel
theorem dX2_readsOne_89 : decode cX2_readsOne 89 = .ok (.iload_n 3, 1) := by decide +kernel
theorem dX2_readsOne_90 : decode cX2_readsOne 90 = .ok (.iastore, 1) := by decide +kernel
theorem dX2_readsOne_91 : decode cX2_readsOne 91 = .ok (.aload_n 0, 1) := by decide +kernel
theorem dX2_readsOne_92 : decode cX2_readsOne 92 = .ok (.getfield 35, 3) := by decide +kernel
theorem dX2_readsOne_95 : decode cX2_readsOne 95 = .ok (.iload_n 1, 1) := by decide +kernel
theorem dX2_readsOne_96 : decode cX2_readsOne 96 = .ok (.iconst 2, 1) := by decide +kernel
theorem dX2_readsOne_97 : decode cX2_readsOne 97 = .ok (.iadd, 1) := by decide +kernel
theorem dX2_readsOne_98 : decode cX2_readsOne 98 = .ok (.iload 4, 2) := by decide +kernel
theorem dX2_readsOne_100 : decode cX2_readsOne 100 = .ok (.iastore, 1) := by decide +kernel
theorem dX2_readsOne_101 : decode cX2_readsOne 101 = .ok (.aload_n 0, 1) := by decide +kernel
theorem dX2_readsOne_102 : decode cX2_readsOne 102 = .ok (.dup, 1) := by decide +kernel
theorem dX2_readsOne_103 : decode cX2_readsOne 103 = .ok (.getfield 117, 3) := by decide +kernel
theorem dX2_readsOne_106 : decode cX2_readsOne 106 = .ok (.iconst 1, 1) := by decide +kernel
theorem dX2_readsOne_107 : decode cX2_readsOne 107 = .ok (.iadd, 1) := by decide +kernel
theorem dX2_readsOne_108 : decode cX2_readsOne 108 = .ok (.putfield 117, 3) := by decide +kernel
theorem dX2_readsOne_111 : decode cX2_readsOne 111 = .ok (.iconst 1, 1) := by decide +kernel
theorem dX2_readsOne_112 : decode cX2_readsOne 112 = .ok (.ireturn, 1) := by decide +kernel
theorem dX2_faultOf_0 : decode cX2_faultOf 0 = .ok (.aload_n 0, 1) := by decide +kernel
theorem dX2_faultOf_1 : decode cX2_faultOf 1 = .ok (.bipush 60, 2) := by decide +kernel
theorem dX2_faultOf_3 : decode cX2_faultOf 3 = .ok (.iload_n 1, 1) := by decide +kernel
theorem dX2_faultOf_4 : decode cX2_faultOf 4 = .ok (.imul, 1) := by decide +kernel
theorem dX2_faultOf_5 : decode cX2_faultOf 5 = .ok (.putfield 91, 3) := by decide +kernel
theorem dX2_faultOf_8 : decode cX2_faultOf 8 = .ok (.aload_n 0, 1) := by decide +kernel
theorem dX2_faultOf_9 : decode cX2_faultOf 9 = .ok (.iconst 0, 1) := by decide +kernel
theorem dX2_faultOf_10 : decode cX2_faultOf 10 = .ok (.putfield 94, 3) := by decide +kernel
theorem dX2_faultOf_13 : decode cX2_faultOf 13 = .ok (.aload_n 0, 1) := by decide +kernel
theorem dX2_faultOf_14 : decode cX2_faultOf 14 = .ok (.aload_n 0, 1) := by decide +kernel
theorem dX2_faultOf_15 : decode cX2_faultOf 15 = .ok (.getfield 22, 3) := by decide +kernel
theorem dX2_faultOf_18 : decode cX2_faultOf 18 = .ok (.iload_n 1, 1) := by decide +kernel
theorem dX2_faultOf_19 : decode cX2_faultOf 19 = .ok (.iaload, 1) := by decide +kernel
theorem dX2_faultOf_20 : decode cX2_faultOf 20 = .ok (.putfield 97, 3) := by decide +kernel
theorem dX2_faultOf_23 : decode cX2_faultOf 23 = .ok (.aload_n 0, 1) := by decide +kernel
theorem dX2_faultOf_24 : decode cX2_faultOf 24 = .ok (.iconst 0, 1) := by decide +kernel
theorem dX2_faultOf_25 : decode cX2_faultOf 25 = .ok (.putfield 117, 3) := by decide +kernel
theorem dX2_faultOf_28 : decode cX2_faultOf 28 = .ok (.aload_n 0, 1) := by decide +kernel
theorem dX2_faultOf_29 : decode cX2_faultOf 29 = .ok (.invokevirtual 126, 3) := by decide +kernel
theorem dX2_faultOf_32 : decode cX2_faultOf 32 = .ok (.istore_n 2, 1) := by decide +kernel
theorem dX2_faultOf_33 : decode cX2_faultOf 33 = .ok (.iload_n 2, 1) := by decide +kernel
theorem dX2_faultOf_34 : decode cX2_faultOf 34 = .ok (.ifCond .eq 7, 3) := by decide +kernel
theorem dX2_faultOf_37 : decode cX2_faultOf 37 = .ok (.aload_n 0, 1) := by decide +kernel
theorem dX2_faultOf_38 : decode cX2_faultOf 38 = .ok (.invokevirtual 111, 3) := by decide +kernel
theorem dX2_faultOf_41 : decode cX2_faultOf 41 = .ok (.iload_n 2, 1) := by decide +kernel
theorem dX2_faultOf_42 : decode cX2_faultOf 42 = .ok (.ifCond .eq 30, 3) := by decide +kernel
theorem dX2_faultOf_45 : decode cX2_faultOf 45 = .ok (.aload_n 0, 1) := by decide +kernel
theorem dX2_faultOf_46 : decode cX2_faultOf 46 = .ok (.getfield 94, 3) := by decide +kernel
theorem dX2_faultOf_49 : decode cX2_faultOf 49 = .ok (.aload_n 0, 1) := by decide +kernel
theorem dX2_faultOf_50 : decode cX2_faultOf 50 = .ok (.getfield 97, 3) := by decide +kernel
theorem dX2_faultOf_53 : decode cX2_faultOf 53 = .ok (.if_icmp .ge 19, 3) := by decide +kernel
theorem dX2_faultOf_56 : decode cX2_faultOf 56 = .ok (.aload_n 0, 1) := by decide +kernel
theorem dX2_faultOf_57 : decode cX2_faultOf 57 = .ok (.invokevirtual 130, 3) := by decide +kernel
theorem dX2_faultOf_60 : decode cX2_faultOf 60 = .ok (.istore_n 2, 1) := by decide +kernel
theorem dX2_faultOf_61 : decode cX2_faultOf 61 = .ok (.iload_n 2, 1) := by decide +kernel
theorem dX2_faultOf_62 : decode cX2_faultOf 62 = .ok (.ifCond .eq (-21), 3) := by decide +kernel
theorem dX2_faultOf_65 : decode cX2_faultOf 65 = .ok (.aload_n 0, 1) := by decide +kernel
theorem dX2_faultOf_66 : decode cX2_faultOf 66 = .ok (.invokevirtual 111, 3) := by decide +kernel
theorem dX2_faultOf_69 : decode cX2_faultOf 69 = .ok (.goto (-28), 3) := by decide +kernel
theorem dX2_faultOf_72 : decode cX2_faultOf 72 = .ok (.iload_n 2, 1) := by decide +kernel
theorem dX2_faultOf_73 : decode cX2_faultOf 73 = .ok (.ifCond .eq 15, 3) := by decide +kernel
theorem dX2_faultOf_76 : decode cX2_faultOf 76 = .ok (.aload_n 0, 1) := by decide +kernel
theorem dX2_faultOf_77 : decode cX2_faultOf 77 = .ok (.getfield 117, 3) := by decide +kernel
theorem dX2_faultOf_80 : decode cX2_faultOf 80 = .ok (.ifCond .le 8, 3) := by decide +kernel
theorem dX2_faultOf_83 : decode cX2_faultOf 83 = .ok (.bipush (-9), 2) := by decide +kernel
theorem dX2_faultOf_85 : decode cX2_faultOf 85 = .ok (.goto 7, 3) := by decide +kernel
theorem dX2_faultOf_88 : decode cX2_faultOf 88 = .ok (.aload_n 0, 1) := by decide +kernel
theorem dX2_faultOf_89 : decode cX2_faultOf 89 = .ok (.getfield 94, 3) := by decide +kernel
theorem dX2_faultOf_92 : decode cX2_faultOf 92 = .ok (.ireturn, 1) := by decide +kernel
theorem dX2_fault_0 : decode cX2_fault 0 = .ok (.iload_n 1, 1) := by decide +kernel
theorem dX2_fault_1 : decode cX2_fault 1 = .ok (.invokestatic 88, 3) := by decide +kernel
theorem dX2_fault_4 : decode cX2_fault 4 = .ok (.ifCond .ne 5, 3) := by decide +kernel
theorem dX2_fault_7 : decode cX2_fault 7 = .ok (.iconst (-1), 1) := by decide +kernel
theorem dX2_fault_8 : decode cX2_fault 8 = .ok (.ireturn, 1) := by decide +kernel
theorem dX2_fault_9 : decode cX2_fault 9 = .ok (.aload_n 0, 1) := by decide +kernel
theorem dX2_fault_10 : decode cX2_fault 10 = .ok (.getfield 22, 3) := by decide +kernel
theorem dX2_fault_13 : decode cX2_fault 13 = .ok (.iload_n 1, 1) := by decide +kernel
theorem dX2_fault_14 : decode cX2_fault 14 = .ok (.iaload, 1) := by decide +kernel
theorem dX2_fault_15 : decode cX2_fault 15 = .ok (.ifCond .ge 11, 3) := by decide +kernel
theorem dX2_fault_18 : decode cX2_fault 18 = .ok (.aload_n 0, 1) := by decide +kernel
theorem dX2_fault_19 : decode cX2_fault 19 = .ok (.iconst 1, 1) := by decide +kernel
theorem dX2_fault_20 : decode cX2_fault 20 = .ok (.invokevirtual 69, 3) := by decide +kernel
theorem dX2_fault_23 : decode cX2_fault 23 = .ok (.goto 8, 3) := by decide +kernel
theorem dX2_fault_26 : decode cX2_fault 26 = .ok (.aload_n 0, 1) := by decide +kernel
theorem dX2_fault_27 : decode cX2_fault 27 = .ok (.iload_n 1, 1) := by decide +kernel
theorem dX2_fault_28 : decode cX2_fault 28 = .ok (.invokevirtual 133, 3) := by decide +kernel
theorem dX2_fault_31 : decode cX2_fault 31 = .ok (.ireturn, 1) := by decide +kernel
theorem fl_X2_22 : FLk RX2 22 2 5 := Or.inl (in_gd (i := 618) (by decide +kernel) rfl)
theorem fl_X2_25 : FLk RX2 25 2 6 := Or.inl (in_gd (i := 619) (by decide +kernel) rfl)
theorem mt_X2_isText : Cond.static yX2_isText ∈ gd_tbl ∧ Cond.initialized yX2_isText.cls ∈ gd_tbl ∧ Cond.code yX2_isText cX2_isText 1 (some .boolean) ∈ gd_tbl := ⟨in_gd (i := 739) (by decide +kernel) rfl, in_gd (i := 87) (by decide +kernel) rfl, in_gd (i := 740) (by decide +kernel) rfl⟩
theorem yo_X2_isText : yOk yX2_isText 1 := ⟨by decide, by decide, by decide +kernel⟩
theorem l_X2_88 : mlS RX2 88 yX2_isText cX2_isText 1 (some .boolean) := ⟨in_gd (i := 738) (by decide +kernel) rfl, mt_X2_isText⟩
theorem fl_X2_91 : FLk RX2 91 2 12 := Or.inl (in_gd (i := 625) (by decide +kernel) rfl)
theorem fl_X2_94 : FLk RX2 94 2 13 := Or.inl (in_gd (i := 626) (by decide +kernel) rfl)
theorem fl_X2_97 : FLk RX2 97 2 14 := Or.inl (in_gd (i := 627) (by decide +kernel) rfl)
theorem mt_X2_here : (Cond.instanceMethod yX2_here ∈ gd_tbl ∧ Cond.selects yX2_here.cls yX2_here yX2_here ∈ gd_tbl) ∧ Cond.initialized yX2_here.cls ∈ gd_tbl ∧ Cond.code yX2_here cX2_here 1 (some .int) ∈ gd_tbl := ⟨⟨in_gd (i := 764) (by decide +kernel) rfl, in_gd (i := 45) (by decide +kernel) rfl⟩, in_gd (i := 87) (by decide +kernel) rfl, in_gd (i := 765) (by decide +kernel) rfl⟩
theorem yo_X2_here : yOk yX2_here 0 := ⟨by decide, by decide, by decide +kernel⟩
theorem l_X2_100 : mlV RX2 100 yX2_here cX2_here 1 (some .int) := ⟨in_gd (i := 762) (by decide +kernel) rfl, mt_X2_here⟩
theorem k_X2_104 : Cond.constantLong RX2 104 (Int64.ofInt 48) ∈ gd_tbl := in_gd (i := 770) (by decide +kernel) rfl
theorem k_X2_106 : Cond.constantLong RX2 106 (Int64.ofInt 57) ∈ gd_tbl := in_gd (i := 771) (by decide +kernel) rfl
theorem mt_X2_figure : (Cond.instanceMethod yX2_figure ∈ gd_tbl ∧ Cond.selects yX2_figure.cls yX2_figure yX2_figure ∈ gd_tbl) ∧ Cond.initialized yX2_figure.cls ∈ gd_tbl ∧ Cond.code yX2_figure cX2_figure 1 (some .int) ∈ gd_tbl := ⟨⟨in_gd (i := 768) (by decide +kernel) rfl, in_gd (i := 46) (by decide +kernel) rfl⟩, in_gd (i := 87) (by decide +kernel) rfl, in_gd (i := 769) (by decide +kernel) rfl⟩
theorem yo_X2_figure : yOk yX2_figure 0 := ⟨by decide, by decide, by decide +kernel⟩
theorem l_X2_108 : mlV RX2 108 yX2_figure cX2_figure 1 (some .int) := ⟨in_gd (i := 766) (by decide +kernel) rfl, mt_X2_figure⟩
theorem fl_X2_114 : FLk RX2 114 2 15 := Or.inl (in_gd (i := 628) (by decide +kernel) rfl)
theorem mt_X2_skip : (Cond.instanceMethod yX2_skip ∈ gd_tbl ∧ Cond.selects yX2_skip.cls yX2_skip yX2_skip ∈ gd_tbl) ∧ Cond.initialized yX2_skip.cls ∈ gd_tbl ∧ Cond.code yX2_skip cX2_skip 1 (none) ∈ gd_tbl := ⟨⟨in_gd (i := 760) (by decide +kernel) rfl, in_gd (i := 44) (by decide +kernel) rfl⟩, in_gd (i := 87) (by decide +kernel) rfl, in_gd (i := 761) (by decide +kernel) rfl⟩
theorem yo_X2_skip : yOk yX2_skip 0 := ⟨by decide, by decide, by decide +kernel⟩
theorem l_X2_111 : mlV RX2 111 yX2_skip cX2_skip 1 (none) := ⟨in_gd (i := 758) (by decide +kernel) rfl, mt_X2_skip⟩
theorem fl_X2_117 : FLk RX2 117 2 17 := Or.inl (in_gd (i := 630) (by decide +kernel) rfl)
theorem fl_X2_35 : FLk RX2 35 2 16 := Or.inl (in_gd (i := 629) (by decide +kernel) rfl)
theorem mt_X2_kindOfLetter : Cond.static yX2_kindOfLetter ∈ gd_tbl ∧ Cond.initialized yX2_kindOfLetter.cls ∈ gd_tbl ∧ Cond.code yX2_kindOfLetter cX2_kindOfLetter 1 (some .int) ∈ gd_tbl := ⟨in_gd (i := 777) (by decide +kernel) rfl, in_gd (i := 87) (by decide +kernel) rfl, in_gd (i := 778) (by decide +kernel) rfl⟩
theorem yo_X2_kindOfLetter : yOk yX2_kindOfLetter 1 := ⟨by decide, by decide, by decide +kernel⟩
theorem l_X2_120 : mlS RX2 120 yX2_kindOfLetter cX2_kindOfLetter 1 (some .int) := ⟨in_gd (i := 776) (by decide +kernel) rfl, mt_X2_kindOfLetter⟩
theorem mt_X2_twoFigures : (Cond.instanceMethod yX2_twoFigures ∈ gd_tbl ∧ Cond.selects yX2_twoFigures.cls yX2_twoFigures yX2_twoFigures ∈ gd_tbl) ∧ Cond.initialized yX2_twoFigures.cls ∈ gd_tbl ∧ Cond.code yX2_twoFigures cX2_twoFigures 5 (some .int) ∈ gd_tbl := ⟨⟨in_gd (i := 781) (by decide +kernel) rfl, in_gd (i := 48) (by decide +kernel) rfl⟩, in_gd (i := 87) (by decide +kernel) rfl, in_gd (i := 782) (by decide +kernel) rfl⟩
theorem yo_X2_twoFigures : yOk yX2_twoFigures 1 := ⟨by decide, by decide, by decide +kernel⟩
theorem l_X2_123 : mlV RX2 123 yX2_twoFigures cX2_twoFigures 5 (some .int) := ⟨in_gd (i := 779) (by decide +kernel) rfl, mt_X2_twoFigures⟩
theorem mt_X2_readsFord : (Cond.instanceMethod yX2_readsFord ∈ gd_tbl ∧ Cond.selects yX2_readsFord.cls yX2_readsFord yX2_readsFord ∈ gd_tbl) ∧ Cond.initialized yX2_readsFord.cls ∈ gd_tbl ∧ Cond.code yX2_readsFord cX2_readsFord 1 (some .boolean) ∈ gd_tbl := ⟨⟨in_gd (i := 756) (by decide +kernel) rfl, in_gd (i := 43) (by decide +kernel) rfl⟩, in_gd (i := 87) (by decide +kernel) rfl, in_gd (i := 757) (by decide +kernel) rfl⟩
theorem yo_X2_readsFord : yOk yX2_readsFord 0 := ⟨by decide, by decide, by decide +kernel⟩
theorem l_X2_126 : mlV RX2 126 yX2_readsFord cX2_readsFord 1 (some .boolean) := ⟨in_gd (i := 754) (by decide +kernel) rfl, mt_X2_readsFord⟩
theorem mt_X2_readsOne : (Cond.instanceMethod yX2_readsOne ∈ gd_tbl ∧ Cond.selects yX2_readsOne.cls yX2_readsOne yX2_readsOne ∈ gd_tbl) ∧ Cond.initialized yX2_readsOne.cls ∈ gd_tbl ∧ Cond.code yX2_readsOne cX2_readsOne 5 (some .boolean) ∈ gd_tbl := ⟨⟨in_gd (i := 774) (by decide +kernel) rfl, in_gd (i := 47) (by decide +kernel) rfl⟩, in_gd (i := 87) (by decide +kernel) rfl, in_gd (i := 775) (by decide +kernel) rfl⟩
theorem yo_X2_readsOne : yOk yX2_readsOne 0 := ⟨by decide, by decide, by decide +kernel⟩
theorem l_X2_130 : mlV RX2 130 yX2_readsOne cX2_readsOne 5 (some .boolean) := ⟨in_gd (i := 772) (by decide +kernel) rfl, mt_X2_readsOne⟩
theorem mt_X2_faultOf : (Cond.instanceMethod yX2_faultOf ∈ gd_tbl ∧ Cond.selects yX2_faultOf.cls yX2_faultOf yX2_faultOf ∈ gd_tbl) ∧ Cond.initialized yX2_faultOf.cls ∈ gd_tbl ∧ Cond.code yX2_faultOf cX2_faultOf 3 (some .int) ∈ gd_tbl := ⟨⟨in_gd (i := 752) (by decide +kernel) rfl, in_gd (i := 42) (by decide +kernel) rfl⟩, in_gd (i := 87) (by decide +kernel) rfl, in_gd (i := 753) (by decide +kernel) rfl⟩
theorem yo_X2_faultOf : yOk yX2_faultOf 1 := ⟨by decide, by decide, by decide +kernel⟩
theorem l_X2_133 : mlV RX2 133 yX2_faultOf cX2_faultOf 3 (some .int) := ⟨in_gd (i := 750) (by decide +kernel) rfl, mt_X2_faultOf⟩
def fX2_mean_L44 (p1 : Int) (μ : Mem) (K3 : Int → Option (Int × Mem)) : Nat → Int → Int → Option (Int × Mem)
  | 0, _, _ => none
  | n8 + 1, x6, x7 =>
    grd (0 ≤ p1 ∧ p1 < 6) <|
    if (μ 63 (p1).toNat) ≤ x7 then
      K3 x6
    else
      grd (0 ≤ (w32 ((w32 (40 * p1)) + x7)) ∧ (w32 ((w32 (40 * p1)) + x7)) < 240) <|
      mlet ((w64 (x6 + (μ 64 ((w32 ((w32 (40 * p1)) + x7))).toNat)))) fun x9 =>
      mlet (w32 (x7 + 1)) fun x10 =>
      fX2_mean_L44 p1 μ K3 n8 x9 x10
def fX2_mean (p1 : Int) (μ : Mem) : Option (Int × Mem) :=
  (fX2_isRow p1 μ).bind fun x1 =>
  if ¬ x1 = 0 then
    grd (0 ≤ p1 ∧ p1 < 6) <|
    if 0 ≤ (μ 63 (p1).toNat) then
      grd (0 ≤ p1 ∧ p1 < 6) <|
      if ¬ (μ 63 (p1).toNat) = 0 then
        mlet (fun (x2 : Int) =>
          grd (0 ≤ p1 ∧ p1 < 6) <|
          grd (¬ (μ 63 (p1).toNat) = 0) <|
          bnd2 (fX2_tell (w32 (w64 (x2.tdiv (μ 63 (p1).toNat)))) μ) fun x4 μ5 =>
          some (x4, μ5)
          ) fun (K3 : Int → Option (Int × Mem)) =>
        fX2_mean_L44 p1 μ K3 fuel 0 0
      else
        bnd2 (fX2_find 4 μ) fun x12 μ13 =>
        some (x12, μ13)
    else
      bnd2 (fX2_find 1 μ) fun x15 μ16 =>
      some (x15, μ16)
  else
    some ((-1), μ)
theorem K_X2_mean  (p1 : Int)  (μ : Mem) : Con yX2_mean cX2_mean 5 (some .int) 4 [.inr (.inr 60), .inl p1] μ (fX2_mean p1 μ) wI := by
  refine con_of (own := RX2) (by decide) rfl (Nat.le_of_ble_eq_true rfl) ?_
  show Sim cX2_mean 5 RX2 (4) (some .int) wI 0 [(0, .inr (.inr 60)), (1, .inl p1)] [] μ (fX2_mean p1 μ)
  unfold fX2_mean
  refine S_iload_n dX2_mean_0 rfl ?_
  refine S_callS_I dX2_mean_1 [.inl p1] (K_X2_isRow p1 μ) l_X2_65 yo_X2_isRow rfl rfl rfl (fun x1 => ?_)
  refine S_if_ne (tgt := 9) dX2_mean_4 (by decide) (fun h18 => ?_) (fun h18 => ?_)
  · refine S_aload_n dX2_mean_9 rfl ?_
    refine S_getR (c1 := 63) dX2_mean_10 rfl fl_X2_16 rfl rfl rfl ?_
    refine S_iload_n dX2_mean_13 rfl ?_
    refine S_iald (N := 6) dX2_mean_14 rfl (by decide) rfl ?_
    refine S_if_ge (tgt := 24) dX2_mean_15 (by decide) (fun h17 => ?_) (fun h17 => ?_)
    · refine S_aload_n dX2_mean_24 rfl ?_
      refine S_getR (c1 := 63) dX2_mean_25 rfl fl_X2_16 rfl rfl rfl ?_
      refine S_iload_n dX2_mean_28 rfl ?_
      refine S_iald (N := 6) dX2_mean_29 rfl (by decide) rfl ?_
      refine S_if_ne (tgt := 39) dX2_mean_30 (by decide) (fun h14 => ?_) (fun h14 => ?_)
      · refine S_lconst (n := 0) dX2_mean_39 (by decide) rfl ?_
        refine S_lstore_n (lv' := [(2, .inr (.inl 0)), (0, .inr (.inr 60)), (1, .inl p1)]) dX2_mean_40 rfl rfl ?_
        refine S_iconst dX2_mean_41 rfl ?_
        refine S_istore (lv' := [(4, .inl 0), (2, .inr (.inl 0)), (0, .inr (.inr 60)), (1, .inl p1)]) dX2_mean_42 rfl rfl ?_
        refine S_jn (fun (K3 : Int → Option (Int × Mem)) => ∀ (x2 : Int), Sim cX2_mean 5 RX2 (4) (some .int) wI 77 [(0, .inr (.inr 60)), (1, .inl p1), (2, .inr (.inl x2))] [] μ (K3 x2)) ?_ (fun K3 hK3 => ?_)
        · intro x2
          refine S_aload_n dX2_mean_77 rfl ?_
          refine S_lload_n dX2_mean_78 rfl ?_
          refine S_aload_n dX2_mean_79 rfl ?_
          refine S_getR (c1 := 63) dX2_mean_80 rfl fl_X2_16 rfl rfl rfl ?_
          refine S_iload_n dX2_mean_83 rfl ?_
          refine S_iald (N := 6) dX2_mean_84 rfl (by decide) rfl ?_
          refine S_i2l dX2_mean_85 ?_
          refine S_ldiv dX2_mean_86 ?_
          refine S_l2i dX2_mean_87 ?_
          refine S_callV_M2 dX2_mean_88 [.inl (w32 (w64 (x2.tdiv (μ 63 (p1).toNat))))] (K_X2_tell (w32 (w64 (x2.tdiv (μ 63 (p1).toNat)))) μ) l_X2_81 yo_X2_tell rfl rfl rfl rfl rfl (fun x4 μ5 => ?_)
          exact S_iret dX2_mean_91 rfl rfl
        have hL44 : ∀ (n8 : Nat) (x6 : Int) (x7 : Int), Sim cX2_mean 5 RX2 (4) (some .int) wI 44 [(0, .inr (.inr 60)), (1, .inl p1), (2, .inr (.inl x6)), (4, .inl x7)] [] μ (fX2_mean_L44 p1 μ K3 n8 x6 x7) := by
          intro n8
          induction n8 with
          | zero =>
            intro x6 x7
            exact S_none rfl
          | succ n8 ih =>
            intro x6 x7
            rw [fX2_mean_L44]
            refine S_iload dX2_mean_44 rfl ?_
            refine S_aload_n dX2_mean_46 rfl ?_
            refine S_getR (c1 := 63) dX2_mean_47 rfl fl_X2_16 rfl rfl rfl ?_
            refine S_iload_n dX2_mean_50 rfl ?_
            refine S_iald (N := 6) dX2_mean_51 rfl (by decide) rfl ?_
            refine S_ic_ge (tgt := 77) dX2_mean_52 (by decide) (fun h11 => ?_) (fun h11 => ?_)
            · exact S_sub [0, 1, 2] rfl (hK3 x6)
            · refine S_lload_n dX2_mean_55 rfl ?_
              refine S_aload_n dX2_mean_56 rfl ?_
              refine S_getR (c1 := 64) dX2_mean_57 rfl fl_X2_19 rfl rfl rfl ?_
              refine S_bipush dX2_mean_60 rfl (by decide) ?_
              refine S_iload_n dX2_mean_62 rfl ?_
              refine S_imul dX2_mean_63 ?_
              refine S_iload dX2_mean_64 rfl ?_
              refine S_iadd dX2_mean_66 ?_
              refine S_iald (N := 240) dX2_mean_67 rfl (by decide) rfl ?_
              refine S_i2l dX2_mean_68 ?_
              refine S_ladd dX2_mean_69 ?_
              refine S_letL (fun x9 => ?_)
              refine S_lstore_n (lv' := [(2, .inr (.inl x9)), (0, .inr (.inr 60)), (1, .inl p1), (4, .inl x7)]) dX2_mean_70 rfl rfl ?_
              refine S_iinc (lv' := fun x10 => [(4, .inl x10), (2, .inr (.inl x9)), (0, .inr (.inr 60)), (1, .inl p1)]) dX2_mean_71 rfl rfl rfl (fun _ => rfl) (fun x10 => ?_)
              refine S_goto (tgt := 44) dX2_mean_74 (by decide) ?_
              exact S_sub [2, 3, 1, 0] rfl (ih x9 x10)
        exact S_sub [2, 3, 1, 0] rfl (hL44 fuel 0 0)
      · refine S_aload_n dX2_mean_33 rfl ?_
        refine S_iconst dX2_mean_34 rfl ?_
        refine S_callV_M2 dX2_mean_35 [.inl 4] (K_X2_find 4 μ) l_X2_69 yo_X2_find rfl rfl rfl rfl rfl (fun x12 μ13 => ?_)
        exact S_iret dX2_mean_38 rfl rfl
    · refine S_aload_n dX2_mean_18 rfl ?_
      refine S_iconst dX2_mean_19 rfl ?_
      refine S_callV_M2 dX2_mean_20 [.inl 1] (K_X2_find 1 μ) l_X2_69 yo_X2_find rfl rfl rfl rfl rfl (fun x15 μ16 => ?_)
      exact S_iret dX2_mean_23 rfl rfl
  · refine S_iconst dX2_mean_7 rfl ?_
    exact S_iret dX2_mean_8 rfl rfl
def fX2_text_L34 (p2 : Int) (p1 : Int) : Nat → Int → Mem → Option (Int × Mem)
  | 0, _, _ => none
  | n5 + 1, x3, μ4 =>
    if 60 ≤ x3 then
      some (p2, μ4)
    else
      grd (0 ≤ (w32 ((w32 (60 * p1)) + x3)) ∧ (w32 ((w32 (60 * p1)) + x3)) < 240) <|
      mlet (wr μ4 66 ((w32 ((w32 (60 * p1)) + x3))).toNat 32) fun μ6 =>
      mlet (w32 (x3 + 1)) fun x7 =>
      fX2_text_L34 p2 p1 n5 x7 μ6
def fX2_text (p1 : Int) (p2 : Int) (μ : Mem) : Option (Int × Mem) :=
  (fX2_isText p1 μ).bind fun x1 =>
  if x1 = 0 then
    some ((-1), μ)
  else
    if p2 ≤ 60 then
      if 0 ≤ p2 then
        grd (0 ≤ p1 ∧ p1 < 4) <|
        mlet (wr μ 65 (p1).toNat p2) fun μ2 =>
        fX2_text_L34 p2 p1 fuel 0 μ2
      else
        bnd2 (fX2_find 5 μ) fun x9 μ10 =>
        some (x9, μ10)
    else
      some ((-1), μ)
theorem K_X2_text  (p1 : Int) (p2 : Int)  (μ : Mem) : Con yX2_text cX2_text 4 (some .int) 4 [.inr (.inr 60), .inl p1, .inl p2] μ (fX2_text p1 p2 μ) wI := by
  refine con_of (own := RX2) (by decide) rfl (Nat.le_of_ble_eq_true rfl) ?_
  show Sim cX2_text 4 RX2 (4) (some .int) wI 0 [(0, .inr (.inr 60)), (1, .inl p1), (2, .inl p2)] [] μ (fX2_text p1 p2 μ)
  unfold fX2_text
  refine S_iload_n dX2_text_0 rfl ?_
  refine S_callS_I dX2_text_1 [.inl p1] (K_X2_isText p1 μ) l_X2_88 yo_X2_isText rfl rfl rfl (fun x1 => ?_)
  refine S_if_eq (tgt := 13) dX2_text_4 (by decide) (fun h13 => ?_) (fun h13 => ?_)
  · refine S_iconst dX2_text_13 rfl ?_
    exact S_iret dX2_text_14 rfl rfl
  · refine S_iload_n dX2_text_7 rfl ?_
    refine S_bipush dX2_text_8 rfl (by decide) ?_
    refine S_ic_le (tgt := 15) dX2_text_10 (by decide) (fun h12 => ?_) (fun h12 => ?_)
    · refine S_iload_n dX2_text_15 rfl ?_
      refine S_if_ge (tgt := 25) dX2_text_16 (by decide) (fun h11 => ?_) (fun h11 => ?_)
      · refine S_aload_n dX2_text_25 rfl ?_
        refine S_getR (c1 := 65) dX2_text_26 rfl fl_X2_22 rfl rfl rfl ?_
        refine S_iload_n dX2_text_29 rfl ?_
        refine S_iload_n dX2_text_30 rfl ?_
        refine S_iast (N := 4) dX2_text_31 rfl (by decide) rfl (fun μ2 => ?_)
        refine S_iconst dX2_text_32 rfl ?_
        refine S_istore_n (lv' := [(3, .inl 0), (0, .inr (.inr 60)), (1, .inl p1), (2, .inl p2)]) dX2_text_33 rfl rfl ?_
        have hL34 : ∀ (n5 : Nat) (x3 : Int) (μ4 : Mem), Sim cX2_text 4 RX2 (4) (some .int) wI 34 [(0, .inr (.inr 60)), (1, .inl p1), (2, .inl p2), (3, .inl x3)] [] μ4 (fX2_text_L34 p2 p1 n5 x3 μ4) := by
          intro n5
          induction n5 with
          | zero =>
            intro x3 μ4
            exact S_none rfl
          | succ n5 ih =>
            intro x3 μ4
            rw [fX2_text_L34]
            refine S_iload_n dX2_text_34 rfl ?_
            refine S_bipush dX2_text_35 rfl (by decide) ?_
            refine S_ic_ge (tgt := 59) dX2_text_37 (by decide) (fun h8 => ?_) (fun h8 => ?_)
            · refine S_iload_n dX2_text_59 rfl ?_
              exact S_iret dX2_text_60 rfl rfl
            · refine S_aload_n dX2_text_40 rfl ?_
              refine S_getR (c1 := 66) dX2_text_41 rfl fl_X2_25 rfl rfl rfl ?_
              refine S_bipush dX2_text_44 rfl (by decide) ?_
              refine S_iload_n dX2_text_46 rfl ?_
              refine S_imul dX2_text_47 ?_
              refine S_iload_n dX2_text_48 rfl ?_
              refine S_iadd dX2_text_49 ?_
              refine S_bipush dX2_text_50 rfl (by decide) ?_
              refine S_iast (N := 240) dX2_text_52 rfl (by decide) rfl (fun μ6 => ?_)
              refine S_iinc (lv' := fun x7 => [(3, .inl x7), (0, .inr (.inr 60)), (1, .inl p1), (2, .inl p2)]) dX2_text_53 rfl rfl rfl (fun _ => rfl) (fun x7 => ?_)
              refine S_goto (tgt := 34) dX2_text_56 (by decide) ?_
              exact S_sub [1, 2, 3, 0] rfl (ih x7 μ6)
        exact S_sub [1, 2, 3, 0] rfl (hL34 fuel 0 μ2)
      · refine S_aload_n dX2_text_19 rfl ?_
        refine S_iconst dX2_text_20 rfl ?_
        refine S_callV_M2 dX2_text_21 [.inl 5] (K_X2_find 5 μ) l_X2_69 yo_X2_find rfl rfl rfl rfl rfl (fun x9 μ10 => ?_)
        exact S_iret dX2_text_24 rfl rfl
    · refine S_iconst dX2_text_13 rfl ?_
      exact S_iret dX2_text_14 rfl rfl
def fX2_put (p1 : Int) (p2 : Int) (p3 : Int) (μ : Mem) : Option (Int × Mem) :=
  (fX2_isText p1 μ).bind fun x1 =>
  if ¬ x1 = 0 then
    grd (0 ≤ p1 ∧ p1 < 4) <|
    if 0 ≤ (μ 65 (p1).toNat) then
      grd (0 ≤ p1 ∧ p1 < 4) <|
      (fX2_in p2 0 (w32 ((μ 65 (p1).toNat) - 1)) μ).bind fun x2 =>
      if ¬ x2 = 0 then
        grd (0 ≤ (w32 ((w32 (60 * p1)) + p2)) ∧ (w32 ((w32 (60 * p1)) + p2)) < 240) <|
        mlet ((μ 66 ((w32 ((w32 (60 * p1)) + p2))).toNat)) fun x3 =>
        grd (0 ≤ (w32 ((w32 (60 * p1)) + p2)) ∧ (w32 ((w32 (60 * p1)) + p2)) < 240) <|
        mlet (wr μ 66 ((w32 ((w32 (60 * p1)) + p2))).toNat (w8 p3)) fun μ4 =>
        some ((w32 (x3 + 1000)), μ4)
      else
        bnd2 (fX2_find 2 μ) fun x5 μ6 =>
        some (x5, μ6)
    else
      bnd2 (fX2_find 1 μ) fun x8 μ9 =>
      some (x8, μ9)
  else
    some ((-1), μ)
theorem K_X2_put  (p1 : Int) (p2 : Int) (p3 : Int)  (μ : Mem) : Con yX2_put cX2_put 5 (some .int) 4 [.inr (.inr 60), .inl p1, .inl p2, .inl p3] μ (fX2_put p1 p2 p3 μ) wI := by
  refine con_of (own := RX2) (by decide) rfl (Nat.le_of_ble_eq_true rfl) ?_
  show Sim cX2_put 5 RX2 (4) (some .int) wI 0 [(0, .inr (.inr 60)), (1, .inl p1), (2, .inl p2), (3, .inl p3)] [] μ (fX2_put p1 p2 p3 μ)
  unfold fX2_put
  refine S_iload_n dX2_put_0 rfl ?_
  refine S_callS_I dX2_put_1 [.inl p1] (K_X2_isText p1 μ) l_X2_88 yo_X2_isText rfl rfl rfl (fun x1 => ?_)
  refine S_if_ne (tgt := 9) dX2_put_4 (by decide) (fun h11 => ?_) (fun h11 => ?_)
  · refine S_aload_n dX2_put_9 rfl ?_
    refine S_getR (c1 := 65) dX2_put_10 rfl fl_X2_22 rfl rfl rfl ?_
    refine S_iload_n dX2_put_13 rfl ?_
    refine S_iald (N := 4) dX2_put_14 rfl (by decide) rfl ?_
    refine S_if_ge (tgt := 24) dX2_put_15 (by decide) (fun h10 => ?_) (fun h10 => ?_)
    · refine S_iload_n dX2_put_24 rfl ?_
      refine S_i2l dX2_put_25 ?_
      refine S_lconst (n := 0) dX2_put_26 (by decide) rfl ?_
      refine S_aload_n dX2_put_27 rfl ?_
      refine S_getR (c1 := 65) dX2_put_28 rfl fl_X2_22 rfl rfl rfl ?_
      refine S_iload_n dX2_put_31 rfl ?_
      refine S_iald (N := 4) dX2_put_32 rfl (by decide) rfl ?_
      refine S_iconst dX2_put_33 rfl ?_
      refine S_isub dX2_put_34 ?_
      refine S_i2l dX2_put_35 ?_
      refine S_callS_I dX2_put_36 [.inr (.inl p2), .inr (.inl 0), .inr (.inl (w32 ((μ 65 (p1).toNat) - 1)))] (K_X2_in p2 0 (w32 ((μ 65 (p1).toNat) - 1)) μ) l_X2_59 yo_X2_in rfl rfl rfl (fun x2 => ?_)
      refine S_if_ne (tgt := 48) dX2_put_39 (by decide) (fun h7 => ?_) (fun h7 => ?_)
      · refine S_aload_n dX2_put_48 rfl ?_
        refine S_getR (c1 := 66) dX2_put_49 rfl fl_X2_25 rfl rfl rfl ?_
        refine S_bipush dX2_put_52 rfl (by decide) ?_
        refine S_iload_n dX2_put_54 rfl ?_
        refine S_imul dX2_put_55 ?_
        refine S_iload_n dX2_put_56 rfl ?_
        refine S_iadd dX2_put_57 ?_
        refine S_iald (N := 240) dX2_put_58 rfl (by decide) rfl ?_
        refine S_let (fun x3 => ?_)
        refine S_istore (lv' := [(4, .inl x3), (0, .inr (.inr 60)), (1, .inl p1), (2, .inl p2), (3, .inl p3)]) dX2_put_59 rfl rfl ?_
        refine S_aload_n dX2_put_61 rfl ?_
        refine S_getR (c1 := 66) dX2_put_62 rfl fl_X2_25 rfl rfl rfl ?_
        refine S_bipush dX2_put_65 rfl (by decide) ?_
        refine S_iload_n dX2_put_67 rfl ?_
        refine S_imul dX2_put_68 ?_
        refine S_iload_n dX2_put_69 rfl ?_
        refine S_iadd dX2_put_70 ?_
        refine S_iload_n dX2_put_71 rfl ?_
        refine S_i2b dX2_put_72 ?_
        refine S_iast (N := 240) dX2_put_73 rfl (by decide) rfl (fun μ4 => ?_)
        refine S_iload dX2_put_74 rfl ?_
        refine S_sipush dX2_put_76 rfl (by decide) ?_
        refine S_iadd dX2_put_79 ?_
        exact S_iret dX2_put_80 rfl rfl
      · refine S_aload_n dX2_put_42 rfl ?_
        refine S_iconst dX2_put_43 rfl ?_
        refine S_callV_M2 dX2_put_44 [.inl 2] (K_X2_find 2 μ) l_X2_69 yo_X2_find rfl rfl rfl rfl rfl (fun x5 μ6 => ?_)
        exact S_iret dX2_put_47 rfl rfl
    · refine S_aload_n dX2_put_18 rfl ?_
      refine S_iconst dX2_put_19 rfl ?_
      refine S_callV_M2 dX2_put_20 [.inl 1] (K_X2_find 1 μ) l_X2_69 yo_X2_find rfl rfl rfl rfl rfl (fun x8 μ9 => ?_)
      exact S_iret dX2_put_23 rfl rfl
  · refine S_iconst dX2_put_7 rfl ?_
    exact S_iret dX2_put_8 rfl rfl
def fX2_here (μ : Mem) : Option Int :=
  grd (0 ≤ (w32 ((μ 60 12) + (μ 60 13))) ∧ (w32 ((μ 60 12) + (μ 60 13))) < 240) <|
  some (μ 66 ((w32 ((μ 60 12) + (μ 60 13)))).toNat)
theorem K_X2_here    (μ : Mem) : Con yX2_here cX2_here 1 (some .int) 2 [.inr (.inr 60)] μ (fX2_here  μ) (rI μ) := by
  refine con_of (own := RX2) (by decide) rfl (Nat.le_of_ble_eq_true rfl) ?_
  show Sim cX2_here 1 RX2 (2) (some .int) (rI μ) 0 [(0, .inr (.inr 60))] [] μ (fX2_here  μ)
  unfold fX2_here
  refine S_aload_n dX2_here_0 rfl ?_
  refine S_getR (c1 := 66) dX2_here_1 rfl fl_X2_25 rfl rfl rfl ?_
  refine S_aload_n dX2_here_4 rfl ?_
  refine S_getI dX2_here_5 rfl fl_X2_91 rfl rfl ?_
  refine S_aload_n dX2_here_8 rfl ?_
  refine S_getI dX2_here_9 rfl fl_X2_94 rfl rfl ?_
  refine S_iadd dX2_here_12 ?_
  refine S_iald (N := 240) dX2_here_13 rfl (by decide) rfl ?_
  exact S_iret dX2_here_14 rfl rfl
def fX2_skip_L0 : Nat → Mem → Option Mem
  | 0, _ => none
  | n2 + 1, μ1 =>
    if (μ1 60 14) ≤ (μ1 60 13) then
      some μ1
    else
      (fX2_here μ1).bind fun x3 =>
      if ¬ x3 = 32 then
        some μ1
      else
        mlet (wr μ1 60 13 (w32 ((μ1 60 13) + 1))) fun μ4 =>
        fX2_skip_L0 n2 μ4
def fX2_skip (μ : Mem) : Option Mem :=
  fX2_skip_L0 fuel μ
theorem K_X2_skip    (μ : Mem) : Con yX2_skip cX2_skip 1 (none) 3 [.inr (.inr 60)] μ (fX2_skip  μ) wV := by
  refine con_of (own := RX2) (by decide) rfl (Nat.le_of_ble_eq_true rfl) ?_
  show Sim cX2_skip 1 RX2 (3) (none) wV 0 [(0, .inr (.inr 60))] [] μ (fX2_skip  μ)
  unfold fX2_skip
  have hL0 : ∀ (n2 : Nat) (μ1 : Mem), Sim cX2_skip 1 RX2 (3) (none) wV 0 [(0, .inr (.inr 60))] [] μ1 (fX2_skip_L0 n2 μ1) := by
    intro n2
    induction n2 with
    | zero =>
      intro μ1
      exact S_none rfl
    | succ n2 ih =>
      intro μ1
      rw [fX2_skip_L0]
      refine S_aload_n dX2_skip_0 rfl ?_
      refine S_getI dX2_skip_1 rfl fl_X2_94 rfl rfl ?_
      refine S_aload_n dX2_skip_4 rfl ?_
      refine S_getI dX2_skip_5 rfl fl_X2_97 rfl rfl ?_
      refine S_ic_ge (tgt := 33) dX2_skip_8 (by decide) (fun h6 => ?_) (fun h6 => ?_)
      · exact S_vret dX2_skip_33 rfl rfl
      · refine S_aload_n dX2_skip_11 rfl ?_
        refine S_callV_I dX2_skip_12 [] (K_X2_here μ1) l_X2_100 yo_X2_here rfl rfl rfl rfl rfl (fun x3 => ?_)
        refine S_bipush dX2_skip_15 rfl (by decide) ?_
        refine S_ic_ne (tgt := 33) dX2_skip_17 (by decide) (fun h5 => ?_) (fun h5 => ?_)
        · exact S_vret dX2_skip_33 rfl rfl
        · refine S_aload_n dX2_skip_20 rfl ?_
          refine S_dup dX2_skip_21 rfl ?_
          refine S_getI dX2_skip_22 rfl fl_X2_94 rfl rfl ?_
          refine S_iconst dX2_skip_25 rfl ?_
          refine S_iadd dX2_skip_26 ?_
          refine S_putI dX2_skip_27 rfl fl_X2_94 rfl rfl rfl rfl (fun μ4 => ?_)
          refine S_goto (tgt := 0) dX2_skip_30 (by decide) ?_
          exact S_sub [0] rfl (ih μ4)
  exact S_sub [0] rfl (hL0 fuel μ)
def fX2_figure (μ : Mem) : Option (Int × Mem) :=
  if (μ 60 13) = (μ 60 14) then
    some ((-9), μ)
  else
    (fX2_here μ).bind fun x1 =>
    (fX2_in x1 48 57 μ).bind fun x2 =>
    if ¬ x2 = 0 then
      mlet (wr μ 60 13 (w32 ((μ 60 13) + 1))) fun μ3 =>
      grd (0 ≤ (w32 ((w32 ((μ3 60 12) + (μ3 60 13))) - 1)) ∧ (w32 ((w32 ((μ3 60 12) + (μ3 60 13))) - 1)) < 240) <|
      some ((w32 ((μ3 66 ((w32 ((w32 ((μ3 60 12) + (μ3 60 13))) - 1))).toNat) - 48)), μ3)
    else
      some ((-9), μ)
theorem K_X2_figure    (μ : Mem) : Con yX2_figure cX2_figure 1 (some .int) 3 [.inr (.inr 60)] μ (fX2_figure  μ) wI := by
  refine con_of (own := RX2) (by decide) rfl (Nat.le_of_ble_eq_true rfl) ?_
  show Sim cX2_figure 1 RX2 (3) (some .int) wI 0 [(0, .inr (.inr 60))] [] μ (fX2_figure  μ)
  unfold fX2_figure
  refine S_aload_n dX2_figure_0 rfl ?_
  refine S_getI dX2_figure_1 rfl fl_X2_94 rfl rfl ?_
  refine S_aload_n dX2_figure_4 rfl ?_
  refine S_getI dX2_figure_5 rfl fl_X2_97 rfl rfl ?_
  refine S_ic_eq (tgt := 28) dX2_figure_8 (by decide) (fun h5 => ?_) (fun h5 => ?_)
  · refine S_bipush dX2_figure_28 rfl (by decide) ?_
    exact S_iret dX2_figure_30 rfl rfl
  · refine S_aload_n dX2_figure_11 rfl ?_
    refine S_callV_I dX2_figure_12 [] (K_X2_here μ) l_X2_100 yo_X2_here rfl rfl rfl rfl rfl (fun x1 => ?_)
    refine S_i2l dX2_figure_15 ?_
    refine S_ldc2 dX2_figure_16 rfl k_X2_104 ?_
    refine S_ldc2 dX2_figure_19 rfl k_X2_106 ?_
    refine S_callS_I dX2_figure_22 [.inr (.inl x1), .inr (.inl 48), .inr (.inl 57)] (K_X2_in x1 48 57 μ) l_X2_59 yo_X2_in rfl rfl rfl (fun x2 => ?_)
    refine S_if_ne (tgt := 31) dX2_figure_25 (by decide) (fun h4 => ?_) (fun h4 => ?_)
    · refine S_aload_n dX2_figure_31 rfl ?_
      refine S_dup dX2_figure_32 rfl ?_
      refine S_getI dX2_figure_33 rfl fl_X2_94 rfl rfl ?_
      refine S_iconst dX2_figure_36 rfl ?_
      refine S_iadd dX2_figure_37 ?_
      refine S_putI dX2_figure_38 rfl fl_X2_94 rfl rfl rfl rfl (fun μ3 => ?_)
      refine S_aload_n dX2_figure_41 rfl ?_
      refine S_getR (c1 := 66) dX2_figure_42 rfl fl_X2_25 rfl rfl rfl ?_
      refine S_aload_n dX2_figure_45 rfl ?_
      refine S_getI dX2_figure_46 rfl fl_X2_91 rfl rfl ?_
      refine S_aload_n dX2_figure_49 rfl ?_
      refine S_getI dX2_figure_50 rfl fl_X2_94 rfl rfl ?_
      refine S_iadd dX2_figure_53 ?_
      refine S_iconst dX2_figure_54 rfl ?_
      refine S_isub dX2_figure_55 ?_
      refine S_iald (N := 240) dX2_figure_56 rfl (by decide) rfl ?_
      refine S_bipush dX2_figure_57 rfl (by decide) ?_
      refine S_isub dX2_figure_59 ?_
      exact S_iret dX2_figure_60 rfl rfl
    · refine S_bipush dX2_figure_28 rfl (by decide) ?_
      exact S_iret dX2_figure_30 rfl rfl
def fX2_twoFigures (p1 : Int) (μ : Mem) : Option (Int × Mem) :=
  mlet ((μ 60 13)) fun x1 =>
  bnd2 (fX2_figure μ) fun x2 μ3 =>
  mlet (fun (x4 : Int) (μ5 : Mem) =>
    if ¬ x4 = (-9) then
      if (w32 ((w32 (10 * x2)) + x4)) ≤ p1 then
        some ((w32 ((w32 (10 * x2)) + x4)), μ5)
      else
        mlet (wr μ5 60 13 x1) fun μ7 =>
        some ((-9), μ7)
    else
      some ((-9), μ5)
    ) fun (K6 : Int → Mem → Option (Int × Mem)) =>
  if ¬ x2 = (-9) then
    bnd2 (fX2_figure μ3) fun x10 μ11 =>
    K6 x10 μ11
  else
    K6 (-9) μ3
theorem K_X2_twoFigures  (p1 : Int)  (μ : Mem) : Con yX2_twoFigures cX2_twoFigures 5 (some .int) 4 [.inr (.inr 60), .inl p1] μ (fX2_twoFigures p1 μ) wI := by
  refine con_of (own := RX2) (by decide) rfl (Nat.le_of_ble_eq_true rfl) ?_
  show Sim cX2_twoFigures 5 RX2 (4) (some .int) wI 0 [(0, .inr (.inr 60)), (1, .inl p1)] [] μ (fX2_twoFigures p1 μ)
  unfold fX2_twoFigures
  refine S_aload_n dX2_twoFigures_0 rfl ?_
  refine S_getI dX2_twoFigures_1 rfl fl_X2_94 rfl rfl ?_
  refine S_let (fun x1 => ?_)
  refine S_istore_n (lv' := [(2, .inl x1), (0, .inr (.inr 60)), (1, .inl p1)]) dX2_twoFigures_4 rfl rfl ?_
  refine S_aload_n dX2_twoFigures_5 rfl ?_
  refine S_callV_M2 dX2_twoFigures_6 [] (K_X2_figure μ) l_X2_108 yo_X2_figure rfl rfl rfl rfl rfl (fun x2 μ3 => ?_)
  refine S_istore_n (lv' := [(3, .inl x2), (2, .inl x1), (0, .inr (.inr 60)), (1, .inl p1)]) dX2_twoFigures_9 rfl rfl ?_
  refine S_iload_n dX2_twoFigures_10 rfl ?_
  refine S_bipush dX2_twoFigures_11 rfl (by decide) ?_
  refine S_jn (fun (K6 : Int → Mem → Option (Int × Mem)) => ∀ (x4 : Int) (μ5 : Mem), Sim cX2_twoFigures 5 RX2 (4) (some .int) wI 25 [(0, .inr (.inr 60)), (1, .inl p1), (2, .inl x1), (3, .inl x2)] [.inl x4] μ5 (K6 x4 μ5)) ?_ (fun K6 hK6 => ?_)
  · intro x4 μ5
    refine S_istore (lv' := [(4, .inl x4), (0, .inr (.inr 60)), (1, .inl p1), (2, .inl x1), (3, .inl x2)]) dX2_twoFigures_25 rfl rfl ?_
    refine S_iload dX2_twoFigures_27 rfl ?_
    refine S_bipush dX2_twoFigures_29 rfl (by decide) ?_
    refine S_ic_ne (tgt := 37) dX2_twoFigures_31 (by decide) (fun h9 => ?_) (fun h9 => ?_)
    · refine S_bipush dX2_twoFigures_37 rfl (by decide) ?_
      refine S_iload_n dX2_twoFigures_39 rfl ?_
      refine S_imul dX2_twoFigures_40 ?_
      refine S_iload dX2_twoFigures_41 rfl ?_
      refine S_iadd dX2_twoFigures_43 ?_
      refine S_iload_n dX2_twoFigures_44 rfl ?_
      refine S_ic_le (tgt := 56) dX2_twoFigures_45 (by decide) (fun h8 => ?_) (fun h8 => ?_)
      · refine S_bipush dX2_twoFigures_56 rfl (by decide) ?_
        refine S_iload_n dX2_twoFigures_58 rfl ?_
        refine S_imul dX2_twoFigures_59 ?_
        refine S_iload dX2_twoFigures_60 rfl ?_
        refine S_iadd dX2_twoFigures_62 ?_
        exact S_iret dX2_twoFigures_63 rfl rfl
      · refine S_aload_n dX2_twoFigures_48 rfl ?_
        refine S_iload_n dX2_twoFigures_49 rfl ?_
        refine S_putI dX2_twoFigures_50 rfl fl_X2_94 rfl rfl rfl rfl (fun μ7 => ?_)
        refine S_bipush dX2_twoFigures_53 rfl (by decide) ?_
        exact S_iret dX2_twoFigures_55 rfl rfl
    · refine S_bipush dX2_twoFigures_34 rfl (by decide) ?_
      exact S_iret dX2_twoFigures_36 rfl rfl
  refine S_ic_ne (tgt := 21) dX2_twoFigures_13 (by decide) (fun h12 => ?_) (fun h12 => ?_)
  · refine S_aload_n dX2_twoFigures_21 rfl ?_
    refine S_callV_M2 dX2_twoFigures_22 [] (K_X2_figure μ3) l_X2_108 yo_X2_figure rfl rfl rfl rfl rfl (fun x10 μ11 => ?_)
    exact S_sub [2, 3, 1, 0] rfl (hK6 x10 μ11)
  · refine S_bipush dX2_twoFigures_16 rfl (by decide) ?_
    refine S_goto (tgt := 25) dX2_twoFigures_18 (by decide) ?_
    exact S_sub [2, 3, 1, 0] rfl (hK6 (-9) μ3)
def fX2_readsFord (μ : Mem) : Option (Int × Mem) :=
  (fX2_skip μ).bind fun μ1 =>
  if (μ1 60 13) = (μ1 60 14) then
    some (0, μ1)
  else
    (fX2_here μ1).bind fun x2 =>
    if x2 = 102 then
      mlet (wr μ1 60 13 (w32 ((μ1 60 13) + 1))) fun μ3 =>
      bnd2 (fX2_figure μ3) fun x4 μ5 =>
      mlet (wr μ5 60 15 x4) fun μ6 =>
      if (μ6 60 15) = (-9) then
        some (0, μ6)
      else
        some (1, μ6)
    else
      some (0, μ1)
theorem K_X2_readsFord    (μ : Mem) : Con yX2_readsFord cX2_readsFord 1 (some .boolean) 4 [.inr (.inr 60)] μ (fX2_readsFord  μ) wI := by
  refine con_of (own := RX2) (by decide) rfl (Nat.le_of_ble_eq_true rfl) ?_
  show Sim cX2_readsFord 1 RX2 (4) (some .boolean) wI 0 [(0, .inr (.inr 60))] [] μ (fX2_readsFord  μ)
  unfold fX2_readsFord
  refine S_aload_n dX2_readsFord_0 rfl ?_
  refine S_callV_V dX2_readsFord_1 [] (K_X2_skip μ) l_X2_111 yo_X2_skip rfl rfl rfl rfl rfl (fun μ1 => ?_)
  refine S_aload_n dX2_readsFord_4 rfl ?_
  refine S_getI dX2_readsFord_5 rfl fl_X2_94 rfl rfl ?_
  refine S_aload_n dX2_readsFord_8 rfl ?_
  refine S_getI dX2_readsFord_9 rfl fl_X2_97 rfl rfl ?_
  refine S_ic_eq (tgt := 24) dX2_readsFord_12 (by decide) (fun h9 => ?_) (fun h9 => ?_)
  · refine S_iconst dX2_readsFord_24 rfl ?_
    exact S_zret dX2_readsFord_25 rfl (by decide) rfl
  · refine S_aload_n dX2_readsFord_15 rfl ?_
    refine S_callV_I dX2_readsFord_16 [] (K_X2_here μ1) l_X2_100 yo_X2_here rfl rfl rfl rfl rfl (fun x2 => ?_)
    refine S_bipush dX2_readsFord_19 rfl (by decide) ?_
    refine S_ic_eq (tgt := 26) dX2_readsFord_21 (by decide) (fun h8 => ?_) (fun h8 => ?_)
    · refine S_aload_n dX2_readsFord_26 rfl ?_
      refine S_dup dX2_readsFord_27 rfl ?_
      refine S_getI dX2_readsFord_28 rfl fl_X2_94 rfl rfl ?_
      refine S_iconst dX2_readsFord_31 rfl ?_
      refine S_iadd dX2_readsFord_32 ?_
      refine S_putI dX2_readsFord_33 rfl fl_X2_94 rfl rfl rfl rfl (fun μ3 => ?_)
      refine S_aload_n dX2_readsFord_36 rfl ?_
      refine S_aload_n dX2_readsFord_37 rfl ?_
      refine S_callV_M2 dX2_readsFord_38 [] (K_X2_figure μ3) l_X2_108 yo_X2_figure rfl rfl rfl rfl rfl (fun x4 μ5 => ?_)
      refine S_putI dX2_readsFord_41 rfl fl_X2_114 rfl rfl rfl rfl (fun μ6 => ?_)
      refine S_aload_n dX2_readsFord_44 rfl ?_
      refine S_getI dX2_readsFord_45 rfl fl_X2_114 rfl rfl ?_
      refine S_bipush dX2_readsFord_48 rfl (by decide) ?_
      refine S_ic_eq (tgt := 57) dX2_readsFord_50 (by decide) (fun h7 => ?_) (fun h7 => ?_)
      · refine S_iconst dX2_readsFord_57 rfl ?_
        exact S_zret dX2_readsFord_58 rfl (by decide) rfl
      · refine S_iconst dX2_readsFord_53 rfl ?_
        refine S_goto (tgt := 58) dX2_readsFord_54 (by decide) ?_
        exact S_zret dX2_readsFord_58 rfl (by decide) rfl
    · refine S_iconst dX2_readsFord_24 rfl ?_
      exact S_zret dX2_readsFord_25 rfl (by decide) rfl
def fX2_kindOfLetter (p1 : Int) (μ : Mem) : Option Int :=
  if ¬ p1 = 112 then
    if ¬ p1 = 100 then
      if ¬ p1 = 101 then
        if ¬ p1 = 98 then
          if ¬ p1 = 116 then
            if ¬ p1 = 113 then
              some (-9)
            else
              some 5
          else
            some 4
        else
          some 3
      else
        some 2
    else
      some 1
  else
    some 0
theorem K_X2_kindOfLetter  (p1 : Int)  (μ : Mem) : Con yX2_kindOfLetter cX2_kindOfLetter 1 (some .int) 2 [.inl p1] μ (fX2_kindOfLetter p1 μ) (rI μ) := by
  refine con_of (own := RX2) (by decide) rfl (Nat.le_of_ble_eq_true rfl) ?_
  show Sim cX2_kindOfLetter 1 RX2 (2) (some .int) (rI μ) 0 [(0, .inl p1)] [] μ (fX2_kindOfLetter p1 μ)
  unfold fX2_kindOfLetter
  refine S_iload_n dX2_kindOfLetter_0 rfl ?_
  refine S_bipush dX2_kindOfLetter_1 rfl (by decide) ?_
  refine S_ic_ne (tgt := 10) dX2_kindOfLetter_3 (by decide) (fun h6 => ?_) (fun h6 => ?_)
  · refine S_iload_n dX2_kindOfLetter_10 rfl ?_
    refine S_bipush dX2_kindOfLetter_11 rfl (by decide) ?_
    refine S_ic_ne (tgt := 20) dX2_kindOfLetter_13 (by decide) (fun h5 => ?_) (fun h5 => ?_)
    · refine S_iload_n dX2_kindOfLetter_20 rfl ?_
      refine S_bipush dX2_kindOfLetter_21 rfl (by decide) ?_
      refine S_ic_ne (tgt := 30) dX2_kindOfLetter_23 (by decide) (fun h4 => ?_) (fun h4 => ?_)
      · refine S_iload_n dX2_kindOfLetter_30 rfl ?_
        refine S_bipush dX2_kindOfLetter_31 rfl (by decide) ?_
        refine S_ic_ne (tgt := 40) dX2_kindOfLetter_33 (by decide) (fun h3 => ?_) (fun h3 => ?_)
        · refine S_iload_n dX2_kindOfLetter_40 rfl ?_
          refine S_bipush dX2_kindOfLetter_41 rfl (by decide) ?_
          refine S_ic_ne (tgt := 50) dX2_kindOfLetter_43 (by decide) (fun h2 => ?_) (fun h2 => ?_)
          · refine S_iload_n dX2_kindOfLetter_50 rfl ?_
            refine S_bipush dX2_kindOfLetter_51 rfl (by decide) ?_
            refine S_ic_ne (tgt := 60) dX2_kindOfLetter_53 (by decide) (fun h1 => ?_) (fun h1 => ?_)
            · refine S_bipush dX2_kindOfLetter_60 rfl (by decide) ?_
              exact S_iret dX2_kindOfLetter_62 rfl rfl
            · refine S_iconst dX2_kindOfLetter_56 rfl ?_
              refine S_goto (tgt := 62) dX2_kindOfLetter_57 (by decide) ?_
              exact S_iret dX2_kindOfLetter_62 rfl rfl
          · refine S_iconst dX2_kindOfLetter_46 rfl ?_
            refine S_goto (tgt := 62) dX2_kindOfLetter_47 (by decide) ?_
            exact S_iret dX2_kindOfLetter_62 rfl rfl
        · refine S_iconst dX2_kindOfLetter_36 rfl ?_
          refine S_goto (tgt := 62) dX2_kindOfLetter_37 (by decide) ?_
          exact S_iret dX2_kindOfLetter_62 rfl rfl
      · refine S_iconst dX2_kindOfLetter_26 rfl ?_
        refine S_goto (tgt := 62) dX2_kindOfLetter_27 (by decide) ?_
        exact S_iret dX2_kindOfLetter_62 rfl rfl
    · refine S_iconst dX2_kindOfLetter_16 rfl ?_
      refine S_goto (tgt := 62) dX2_kindOfLetter_17 (by decide) ?_
      exact S_iret dX2_kindOfLetter_62 rfl rfl
  · refine S_iconst dX2_kindOfLetter_6 rfl ?_
    refine S_goto (tgt := 62) dX2_kindOfLetter_7 (by decide) ?_
    exact S_iret dX2_kindOfLetter_62 rfl rfl
def fX2_readsOne (μ : Mem) : Option (Int × Mem) :=
  mlet ((w32 (3 * (μ 60 17)))) fun x1 =>
  (fX2_here μ).bind fun x2 =>
  (fX2_kindOfLetter x2 μ).bind fun x3 =>
  if x3 = (-9) then
    some (0, μ)
  else
    if ¬ (μ 60 17) = 6 then
      mlet (wr μ 60 13 (w32 ((μ 60 13) + 1))) fun μ4 =>
      bnd2 (fX2_figure μ4) fun x5 μ6 =>
      mlet (fun (x7 : Int) (μ8 : Mem) =>
        if ¬ x7 = (-9) then
          grd (0 ≤ x1 ∧ x1 < 18) <|
          mlet (wr μ8 68 (x1).toNat x3) fun μ10 =>
          grd (0 ≤ (w32 (x1 + 1)) ∧ (w32 (x1 + 1)) < 18) <|
          mlet (wr μ10 68 ((w32 (x1 + 1))).toNat x5) fun μ11 =>
          grd (0 ≤ (w32 (x1 + 2)) ∧ (w32 (x1 + 2)) < 18) <|
          mlet (wr μ11 68 ((w32 (x1 + 2))).toNat x7) fun μ12 =>
          mlet (wr μ12 60 17 (w32 ((μ12 60 17) + 1))) fun μ13 =>
          some (1, μ13)
        else
          some (0, μ8)
        ) fun (K9 : Int → Mem → Option (Int × Mem)) =>
      if ¬ x5 = (-9) then
        bnd2 (fX2_twoFigures 20 μ6) fun x15 μ16 =>
        K9 x15 μ16
      else
        K9 (-9) μ6
    else
      some (0, μ)
theorem K_X2_readsOne    (μ : Mem) : Con yX2_readsOne cX2_readsOne 5 (some .boolean) 5 [.inr (.inr 60)] μ (fX2_readsOne  μ) wI := by
  refine con_of (own := RX2) (by decide) rfl (Nat.le_of_ble_eq_true rfl) ?_
  show Sim cX2_readsOne 5 RX2 (5) (some .boolean) wI 0 [(0, .inr (.inr 60))] [] μ (fX2_readsOne  μ)
  unfold fX2_readsOne
  refine S_iconst dX2_readsOne_0 rfl ?_
  refine S_aload_n dX2_readsOne_1 rfl ?_
  refine S_getI dX2_readsOne_2 rfl fl_X2_117 rfl rfl ?_
  refine S_imul dX2_readsOne_5 ?_
  refine S_let (fun x1 => ?_)
  refine S_istore_n (lv' := [(1, .inl x1), (0, .inr (.inr 60))]) dX2_readsOne_6 rfl rfl ?_
  refine S_aload_n dX2_readsOne_7 rfl ?_
  refine S_callV_I dX2_readsOne_8 [] (K_X2_here μ) l_X2_100 yo_X2_here rfl rfl rfl rfl rfl (fun x2 => ?_)
  refine S_callS_I dX2_readsOne_11 [.inl x2] (K_X2_kindOfLetter x2 μ) l_X2_120 yo_X2_kindOfLetter rfl rfl rfl (fun x3 => ?_)
  refine S_istore_n (lv' := [(2, .inl x3), (1, .inl x1), (0, .inr (.inr 60))]) dX2_readsOne_14 rfl rfl ?_
  refine S_iload_n dX2_readsOne_15 rfl ?_
  refine S_bipush dX2_readsOne_16 rfl (by decide) ?_
  refine S_ic_eq (tgt := 30) dX2_readsOne_18 (by decide) (fun h19 => ?_) (fun h19 => ?_)
  · refine S_iconst dX2_readsOne_30 rfl ?_
    exact S_zret dX2_readsOne_31 rfl (by decide) rfl
  · refine S_aload_n dX2_readsOne_21 rfl ?_
    refine S_getI dX2_readsOne_22 rfl fl_X2_117 rfl rfl ?_
    refine S_bipush dX2_readsOne_25 rfl (by decide) ?_
    refine S_ic_ne (tgt := 32) dX2_readsOne_27 (by decide) (fun h18 => ?_) (fun h18 => ?_)
    · refine S_aload_n dX2_readsOne_32 rfl ?_
      refine S_dup dX2_readsOne_33 rfl ?_
      refine S_getI dX2_readsOne_34 rfl fl_X2_94 rfl rfl ?_
      refine S_iconst dX2_readsOne_37 rfl ?_
      refine S_iadd dX2_readsOne_38 ?_
      refine S_putI dX2_readsOne_39 rfl fl_X2_94 rfl rfl rfl rfl (fun μ4 => ?_)
      refine S_aload_n dX2_readsOne_42 rfl ?_
      refine S_callV_M2 dX2_readsOne_43 [] (K_X2_figure μ4) l_X2_108 yo_X2_figure rfl rfl rfl rfl rfl (fun x5 μ6 => ?_)
      refine S_istore_n (lv' := [(3, .inl x5), (2, .inl x3), (1, .inl x1), (0, .inr (.inr 60))]) dX2_readsOne_46 rfl rfl ?_
      refine S_iload_n dX2_readsOne_47 rfl ?_
      refine S_bipush dX2_readsOne_48 rfl (by decide) ?_
      refine S_jn (fun (K9 : Int → Mem → Option (Int × Mem)) => ∀ (x7 : Int) (μ8 : Mem), Sim cX2_readsOne 5 RX2 (5) (some .boolean) wI 64 [(0, .inr (.inr 60)), (1, .inl x1), (2, .inl x3), (3, .inl x5)] [.inl x7] μ8 (K9 x7 μ8)) ?_ (fun K9 hK9 => ?_)
      · intro x7 μ8
        refine S_istore (lv' := [(4, .inl x7), (0, .inr (.inr 60)), (1, .inl x1), (2, .inl x3), (3, .inl x5)]) dX2_readsOne_64 rfl rfl ?_
        refine S_iload dX2_readsOne_66 rfl ?_
        refine S_bipush dX2_readsOne_68 rfl (by decide) ?_
        refine S_ic_ne (tgt := 75) dX2_readsOne_70 (by decide) (fun h14 => ?_) (fun h14 => ?_)
        · refine S_aload_n dX2_readsOne_75 rfl ?_
          refine S_getR (c1 := 68) dX2_readsOne_76 rfl fl_X2_35 rfl rfl rfl ?_
          refine S_iload_n dX2_readsOne_79 rfl ?_
          refine S_iload_n dX2_readsOne_80 rfl ?_
          refine S_iast (N := 18) dX2_readsOne_81 rfl (by decide) rfl (fun μ10 => ?_)
          refine S_aload_n dX2_readsOne_82 rfl ?_
          refine S_getR (c1 := 68) dX2_readsOne_83 rfl fl_X2_35 rfl rfl rfl ?_
          refine S_iload_n dX2_readsOne_86 rfl ?_
          refine S_iconst dX2_readsOne_87 rfl ?_
          refine S_iadd dX2_readsOne_88 ?_
          refine S_iload_n dX2_readsOne_89 rfl ?_
          refine S_iast (N := 18) dX2_readsOne_90 rfl (by decide) rfl (fun μ11 => ?_)
          refine S_aload_n dX2_readsOne_91 rfl ?_
          refine S_getR (c1 := 68) dX2_readsOne_92 rfl fl_X2_35 rfl rfl rfl ?_
          refine S_iload_n dX2_readsOne_95 rfl ?_
          refine S_iconst dX2_readsOne_96 rfl ?_
          refine S_iadd dX2_readsOne_97 ?_
          refine S_iload dX2_readsOne_98 rfl ?_
          refine S_iast (N := 18) dX2_readsOne_100 rfl (by decide) rfl (fun μ12 => ?_)
          refine S_aload_n dX2_readsOne_101 rfl ?_
          refine S_dup dX2_readsOne_102 rfl ?_
          refine S_getI dX2_readsOne_103 rfl fl_X2_117 rfl rfl ?_
          refine S_iconst dX2_readsOne_106 rfl ?_
          refine S_iadd dX2_readsOne_107 ?_
          refine S_putI dX2_readsOne_108 rfl fl_X2_117 rfl rfl rfl rfl (fun μ13 => ?_)
          refine S_iconst dX2_readsOne_111 rfl ?_
          exact S_zret dX2_readsOne_112 rfl (by decide) rfl
        · refine S_iconst dX2_readsOne_73 rfl ?_
          exact S_zret dX2_readsOne_74 rfl (by decide) rfl
      refine S_ic_ne (tgt := 58) dX2_readsOne_50 (by decide) (fun h17 => ?_) (fun h17 => ?_)
      · refine S_aload_n dX2_readsOne_58 rfl ?_
        refine S_bipush dX2_readsOne_59 rfl (by decide) ?_
        refine S_callV_M2 dX2_readsOne_61 [.inl 20] (K_X2_twoFigures 20 μ6) l_X2_123 yo_X2_twoFigures rfl rfl rfl rfl rfl (fun x15 μ16 => ?_)
        exact S_sub [3, 2, 1, 0] rfl (hK9 x15 μ16)
      · refine S_bipush dX2_readsOne_53 rfl (by decide) ?_
        refine S_goto (tgt := 64) dX2_readsOne_55 (by decide) ?_
        exact S_sub [3, 2, 1, 0] rfl (hK9 (-9) μ6)
    · refine S_iconst dX2_readsOne_30 rfl ?_
      exact S_zret dX2_readsOne_31 rfl (by decide) rfl
def fX2_faultOf_L41 (K11 : Int → Mem → Option (Int × Mem)) : Nat → Int → Mem → Option (Int × Mem)
  | 0, _, _ => none
  | n17 + 1, x15, μ16 =>
    if x15 = 0 then
      K11 x15 μ16
    else
      if (μ16 60 14) ≤ (μ16 60 13) then
        K11 x15 μ16
      else
        bnd2 (fX2_readsOne μ16) fun x18 μ19 =>
        if x18 = 0 then
          fX2_faultOf_L41 K11 n17 x18 μ19
        else
          (fX2_skip μ19).bind fun μ20 =>
          fX2_faultOf_L41 K11 n17 x18 μ20
def fX2_faultOf (p1 : Int) (μ : Mem) : Option (Int × Mem) :=
  mlet (wr μ 60 12 (w32 (60 * p1))) fun μ1 =>
  mlet (wr μ1 60 13 0) fun μ2 =>
  grd (0 ≤ p1 ∧ p1 < 4) <|
  mlet (wr μ2 60 14 (μ2 65 (p1).toNat)) fun μ3 =>
  mlet (wr μ3 60 17 0) fun μ4 =>
  bnd2 (fX2_readsFord μ4) fun x5 μ6 =>
  mlet (fun (μ7 : Mem) =>
    mlet (fun (x9 : Int) (μ10 : Mem) =>
      mlet (
        some ((μ10 60 13), μ10)
        : Option (Int × Mem)) fun (K12 : Option (Int × Mem)) =>
      if x9 = 0 then
        K12
      else
        if (μ10 60 17) ≤ 0 then
          K12
        else
          some ((-9), μ10)
      ) fun (K11 : Int → Mem → Option (Int × Mem)) =>
    fX2_faultOf_L41 K11 fuel x5 μ7
    ) fun (K8 : Mem → Option (Int × Mem)) =>
  if x5 = 0 then
    K8 μ6
  else
    (fX2_skip μ6).bind fun μ24 =>
    K8 μ24
theorem K_X2_faultOf  (p1 : Int)  (μ : Mem) : Con yX2_faultOf cX2_faultOf 3 (some .int) 6 [.inr (.inr 60), .inl p1] μ (fX2_faultOf p1 μ) wI := by
  refine con_of (own := RX2) (by decide) rfl (Nat.le_of_ble_eq_true rfl) ?_
  show Sim cX2_faultOf 3 RX2 (6) (some .int) wI 0 [(0, .inr (.inr 60)), (1, .inl p1)] [] μ (fX2_faultOf p1 μ)
  unfold fX2_faultOf
  refine S_aload_n dX2_faultOf_0 rfl ?_
  refine S_bipush dX2_faultOf_1 rfl (by decide) ?_
  refine S_iload_n dX2_faultOf_3 rfl ?_
  refine S_imul dX2_faultOf_4 ?_
  refine S_putI dX2_faultOf_5 rfl fl_X2_91 rfl rfl rfl rfl (fun μ1 => ?_)
  refine S_aload_n dX2_faultOf_8 rfl ?_
  refine S_iconst dX2_faultOf_9 rfl ?_
  refine S_putI dX2_faultOf_10 rfl fl_X2_94 rfl rfl rfl rfl (fun μ2 => ?_)
  refine S_aload_n dX2_faultOf_13 rfl ?_
  refine S_aload_n dX2_faultOf_14 rfl ?_
  refine S_getR (c1 := 65) dX2_faultOf_15 rfl fl_X2_22 rfl rfl rfl ?_
  refine S_iload_n dX2_faultOf_18 rfl ?_
  refine S_iald (N := 4) dX2_faultOf_19 rfl (by decide) rfl ?_
  refine S_putI dX2_faultOf_20 rfl fl_X2_97 rfl rfl rfl rfl (fun μ3 => ?_)
  refine S_aload_n dX2_faultOf_23 rfl ?_
  refine S_iconst dX2_faultOf_24 rfl ?_
  refine S_putI dX2_faultOf_25 rfl fl_X2_117 rfl rfl rfl rfl (fun μ4 => ?_)
  refine S_aload_n dX2_faultOf_28 rfl ?_
  refine S_callV_M2 dX2_faultOf_29 [] (K_X2_readsFord μ4) l_X2_126 yo_X2_readsFord rfl rfl rfl rfl rfl (fun x5 μ6 => ?_)
  refine S_istore_n (lv' := [(2, .inl x5), (0, .inr (.inr 60)), (1, .inl p1)]) dX2_faultOf_32 rfl rfl ?_
  refine S_iload_n dX2_faultOf_33 rfl ?_
  refine S_jn (fun (K8 : Mem → Option (Int × Mem)) => ∀ (μ7 : Mem), Sim cX2_faultOf 3 RX2 (6) (some .int) wI 41 [(0, .inr (.inr 60)), (2, .inl x5)] [] μ7 (K8 μ7)) ?_ (fun K8 hK8 => ?_)
  · intro μ7
    refine S_jn (fun (K11 : Int → Mem → Option (Int × Mem)) => ∀ (x9 : Int) (μ10 : Mem), Sim cX2_faultOf 3 RX2 (6) (some .int) wI 72 [(0, .inr (.inr 60)), (2, .inl x9)] [] μ10 (K11 x9 μ10)) ?_ (fun K11 hK11 => ?_)
    · intro x9 μ10
      refine S_iload_n dX2_faultOf_72 rfl ?_
      refine S_jn (fun (K12 : Option (Int × Mem)) => Sim cX2_faultOf 3 RX2 (6) (some .int) wI 88 [(0, .inr (.inr 60))] [] μ10 K12) ?_ (fun K12 hK12 => ?_)
      · skip
        refine S_aload_n dX2_faultOf_88 rfl ?_
        refine S_getI dX2_faultOf_89 rfl fl_X2_94 rfl rfl ?_
        exact S_iret dX2_faultOf_92 rfl rfl
      refine S_if_eq (tgt := 88) dX2_faultOf_73 (by decide) (fun h14 => ?_) (fun h14 => ?_)
      · exact S_sub [0] rfl (hK12)
      · refine S_aload_n dX2_faultOf_76 rfl ?_
        refine S_getI dX2_faultOf_77 rfl fl_X2_117 rfl rfl ?_
        refine S_if_le (tgt := 88) dX2_faultOf_80 (by decide) (fun h13 => ?_) (fun h13 => ?_)
        · exact S_sub [0] rfl (hK12)
        · refine S_bipush dX2_faultOf_83 rfl (by decide) ?_
          refine S_goto (tgt := 92) dX2_faultOf_85 (by decide) ?_
          exact S_iret dX2_faultOf_92 rfl rfl
    have hL41 : ∀ (n17 : Nat) (x15 : Int) (μ16 : Mem), Sim cX2_faultOf 3 RX2 (6) (some .int) wI 41 [(0, .inr (.inr 60)), (2, .inl x15)] [] μ16 (fX2_faultOf_L41 K11 n17 x15 μ16) := by
      intro n17
      induction n17 with
      | zero =>
        intro x15 μ16
        exact S_none rfl
      | succ n17 ih =>
        intro x15 μ16
        rw [fX2_faultOf_L41]
        refine S_iload_n dX2_faultOf_41 rfl ?_
        refine S_if_eq (tgt := 72) dX2_faultOf_42 (by decide) (fun h23 => ?_) (fun h23 => ?_)
        · exact S_sub [0, 1] rfl (hK11 x15 μ16)
        · refine S_aload_n dX2_faultOf_45 rfl ?_
          refine S_getI dX2_faultOf_46 rfl fl_X2_94 rfl rfl ?_
          refine S_aload_n dX2_faultOf_49 rfl ?_
          refine S_getI dX2_faultOf_50 rfl fl_X2_97 rfl rfl ?_
          refine S_ic_ge (tgt := 72) dX2_faultOf_53 (by decide) (fun h22 => ?_) (fun h22 => ?_)
          · exact S_sub [0, 1] rfl (hK11 x15 μ16)
          · refine S_aload_n dX2_faultOf_56 rfl ?_
            refine S_callV_M2 dX2_faultOf_57 [] (K_X2_readsOne μ16) l_X2_130 yo_X2_readsOne rfl rfl rfl rfl rfl (fun x18 μ19 => ?_)
            refine S_istore_n (lv' := [(2, .inl x18), (0, .inr (.inr 60))]) dX2_faultOf_60 rfl rfl ?_
            refine S_iload_n dX2_faultOf_61 rfl ?_
            refine S_if_eq (tgt := 41) dX2_faultOf_62 (by decide) (fun h21 => ?_) (fun h21 => ?_)
            · exact S_sub [1, 0] rfl (ih x18 μ19)
            · refine S_aload_n dX2_faultOf_65 rfl ?_
              refine S_callV_V dX2_faultOf_66 [] (K_X2_skip μ19) l_X2_111 yo_X2_skip rfl rfl rfl rfl rfl (fun μ20 => ?_)
              refine S_goto (tgt := 41) dX2_faultOf_69 (by decide) ?_
              exact S_sub [1, 0] rfl (ih x18 μ20)
    exact S_sub [0, 1] rfl (hL41 fuel x5 μ7)
  refine S_if_eq (tgt := 41) dX2_faultOf_34 (by decide) (fun h25 => ?_) (fun h25 => ?_)
  · exact S_sub [1, 0] rfl (hK8 μ6)
  · refine S_aload_n dX2_faultOf_37 rfl ?_
    refine S_callV_V dX2_faultOf_38 [] (K_X2_skip μ6) l_X2_111 yo_X2_skip rfl rfl rfl rfl rfl (fun μ24 => ?_)
    exact S_sub [1, 0] rfl (hK8 μ24)
def fX2_fault (p1 : Int) (μ : Mem) : Option (Int × Mem) :=
  (fX2_isText p1 μ).bind fun x1 =>
  if ¬ x1 = 0 then
    grd (0 ≤ p1 ∧ p1 < 4) <|
    if 0 ≤ (μ 65 (p1).toNat) then
      bnd2 (fX2_faultOf p1 μ) fun x2 μ3 =>
      some (x2, μ3)
    else
      bnd2 (fX2_find 1 μ) fun x4 μ5 =>
      some (x4, μ5)
  else
    some ((-1), μ)
theorem K_X2_fault  (p1 : Int)  (μ : Mem) : Con yX2_fault cX2_fault 2 (some .int) 7 [.inr (.inr 60), .inl p1] μ (fX2_fault p1 μ) wI := by
  refine con_of (own := RX2) (by decide) rfl (Nat.le_of_ble_eq_true rfl) ?_
  show Sim cX2_fault 2 RX2 (7) (some .int) wI 0 [(0, .inr (.inr 60)), (1, .inl p1)] [] μ (fX2_fault p1 μ)
  unfold fX2_fault
  refine S_iload_n dX2_fault_0 rfl ?_
  refine S_callS_I dX2_fault_1 [.inl p1] (K_X2_isText p1 μ) l_X2_88 yo_X2_isText rfl rfl rfl (fun x1 => ?_)
  refine S_if_ne (tgt := 9) dX2_fault_4 (by decide) (fun h7 => ?_) (fun h7 => ?_)
  · refine S_aload_n dX2_fault_9 rfl ?_
    refine S_getR (c1 := 65) dX2_fault_10 rfl fl_X2_22 rfl rfl rfl ?_
    refine S_iload_n dX2_fault_13 rfl ?_
    refine S_iald (N := 4) dX2_fault_14 rfl (by decide) rfl ?_
    refine S_if_ge (tgt := 26) dX2_fault_15 (by decide) (fun h6 => ?_) (fun h6 => ?_)
    · refine S_aload_n dX2_fault_26 rfl ?_
      refine S_iload_n dX2_fault_27 rfl ?_
      refine S_callV_M2 dX2_fault_28 [.inl p1] (K_X2_faultOf p1 μ) l_X2_133 yo_X2_faultOf rfl rfl rfl rfl rfl (fun x2 μ3 => ?_)
      exact S_iret dX2_fault_31 rfl rfl
    · refine S_aload_n dX2_fault_18 rfl ?_
      refine S_iconst dX2_fault_19 rfl ?_
      refine S_callV_M2 dX2_fault_20 [.inl 1] (K_X2_find 1 μ) l_X2_69 yo_X2_find rfl rfl rfl rfl rfl (fun x4 μ5 => ?_)
      refine S_goto (tgt := 31) dX2_fault_23 (by decide) ?_
      exact S_iret dX2_fault_31 rfl rfl
  · refine S_iconst dX2_fault_7 rfl ?_
    exact S_iret dX2_fault_8 rfl rfl
