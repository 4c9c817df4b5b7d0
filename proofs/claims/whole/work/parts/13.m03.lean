theorem dX1_raise_0 : decode cX1_raise 0 = .ok (.aload_n 0, 1) := by decide +kernel
theorem dX1_raise_1 : decode cX1_raise 1 = .ok (.getfield 33, 3) := by decide +kernel
theorem dX1_raise_4 : decode cX1_raise 4 = .ok (.iload_n 1, 1) := by decide +kernel
theorem dX1_raise_5 : decode cX1_raise 5 = .ok (.invokevirtual 125, 3) := by decide +kernel
theorem dX1_raise_8 : decode cX1_raise 8 = .ok (.ifCond .eq 13, 3) := by decide +kernel
theorem dX1_raise_11 : decode cX1_raise 11 = .ok (.iload_n 2, 1) := by decide +kernel
theorem dX1_raise_12 : decode cX1_raise 12 = .ok (.iconst 1, 1) := by decide +kernel
theorem dX1_raise_13 : decode cX1_raise 13 = .ok (.bipush 9, 2) := by decide +kernel
theorem dX1_raise_15 : decode cX1_raise 15 = .ok (.invokestatic 128, 3) := by decide +kernel
theorem dX1_raise_18 : decode cX1_raise 18 = .ok (.ifCond .ne 5, 3) := by decide +kernel
theorem dX1_raise_21 : decode cX1_raise 21 = .ok (.iconst (-1), 1) := by decide +kernel
theorem dX1_raise_22 : decode cX1_raise 22 = .ok (.ireturn, 1) := by decide +kernel
theorem dX1_raise_23 : decode cX1_raise 23 = .ok (.aload_n 0, 1) := by decide +kernel
theorem dX1_raise_24 : decode cX1_raise 24 = .ok (.getfield 33, 3) := by decide +kernel
theorem dX1_raise_27 : decode cX1_raise 27 = .ok (.getfield 156, 3) := by decide +kernel
theorem dX1_raise_30 : decode cX1_raise 30 = .ok (.iload_n 1, 1) := by decide +kernel
theorem dX1_raise_31 : decode cX1_raise 31 = .ok (.iaload, 1) := by decide +kernel
theorem dX1_raise_32 : decode cX1_raise 32 = .ok (.iload_n 2, 1) := by decide +kernel
theorem dX1_raise_33 : decode cX1_raise 33 = .ok (.iadd, 1) := by decide +kernel
theorem dX1_raise_34 : decode cX1_raise 34 = .ok (.bipush 20, 2) := by decide +kernel
theorem dX1_raise_36 : decode cX1_raise 36 = .ok (.if_icmp .le 6, 3) := by decide +kernel
theorem dX1_raise_39 : decode cX1_raise 39 = .ok (.bipush (-4), 2) := by decide +kernel
theorem dX1_raise_41 : decode cX1_raise 41 = .ok (.ireturn, 1) := by decide +kernel
theorem dX1_raise_42 : decode cX1_raise 42 = .ok (.aload_n 0, 1) := by decide +kernel
theorem dX1_raise_43 : decode cX1_raise 43 = .ok (.getfield 42, 3) := by decide +kernel
theorem dX1_raise_46 : decode cX1_raise 46 = .ok (.bipush 40, 2) := by decide +kernel
theorem dX1_raise_48 : decode cX1_raise 48 = .ok (.if_icmp .lt 6, 3) := by decide +kernel
theorem dX1_raise_51 : decode cX1_raise 51 = .ok (.bipush (-2), 2) := by decide +kernel
theorem dX1_raise_53 : decode cX1_raise 53 = .ok (.ireturn, 1) := by decide +kernel
theorem dX1_raise_54 : decode cX1_raise 54 = .ok (.aload_n 0, 1) := by decide +kernel
theorem dX1_raise_55 : decode cX1_raise 55 = .ok (.iconst 1, 1) := by decide +kernel
theorem dX1_raise_56 : decode cX1_raise 56 = .ok (.iload_n 1, 1) := by decide +kernel
theorem dX1_raise_57 : decode cX1_raise 57 = .ok (.iload_n 2, 1) := by decide +kernel
theorem dX1_raise_58 : decode cX1_raise 58 = .ok (.invokestatic 148, 3) := by decide +kernel
theorem dX1_raise_61 : decode cX1_raise 61 = .ok (.invokevirtual 152, 3) := by decide +kernel
theorem dX1_raise_64 : decode cX1_raise 64 = .ok (.aload_n 0, 1) := by decide +kernel
theorem dX1_raise_65 : decode cX1_raise 65 = .ok (.getfield 33, 3) := by decide +kernel
theorem dX1_raise_68 : decode cX1_raise 68 = .ok (.getfield 156, 3) := by decide +kernel
theorem dX1_raise_71 : decode cX1_raise 71 = .ok (.iload_n 1, 1) := by decide +kernel
theorem dX1_raise_72 : decode cX1_raise 72 = .ok (.iaload, 1) := by decide +kernel
theorem dX1_raise_73 : decode cX1_raise 73 = .ok (.ireturn, 1) := by decide +kernel
theorem dX1_shame_0 : decode cX1_shame 0 = .ok (.aload_n 0, 1) := by decide +kernel
theorem dX1_shame_1 : decode cX1_shame 1 = .ok (.getfield 33, 3) := by decide +kernel
theorem dX1_shame_4 : decode cX1_shame 4 = .ok (.iload_n 1, 1) := by decide +kernel
theorem dX1_shame_5 : decode cX1_shame 5 = .ok (.invokevirtual 125, 3) := by decide +kernel
theorem dX1_shame_8 : decode cX1_shame 8 = .ok (.ifCond .eq 13, 3) := by decide +kernel
theorem dX1_shame_11 : decode cX1_shame 11 = .ok (.iload_n 2, 1) := by decide +kernel
theorem dX1_shame_12 : decode cX1_shame 12 = .ok (.iconst 1, 1) := by decide +kernel
theorem dX1_shame_13 : decode cX1_shame 13 = .ok (.bipush 9, 2) := by decide +kernel
theorem dX1_shame_15 : decode cX1_shame 15 = .ok (.invokestatic 128, 3) := by decide +kernel
theorem dX1_shame_18 : decode cX1_shame 18 = .ok (.ifCond .ne 5, 3) := by decide +kernel
theorem dX1_shame_21 : decode cX1_shame 21 = .ok (.iconst (-1), 1) := by decide +kernel
theorem dX1_shame_22 : decode cX1_shame 22 = .ok (.ireturn, 1) := by decide +kernel
theorem dX1_shame_23 : decode cX1_shame 23 = .ok (.aload_n 0, 1) := by decide +kernel
theorem dX1_shame_24 : decode cX1_shame 24 = .ok (.getfield 33, 3) := by decide +kernel
theorem dX1_shame_27 : decode cX1_shame 27 = .ok (.getfield 156, 3) := by decide +kernel
theorem dX1_shame_30 : decode cX1_shame 30 = .ok (.iload_n 1, 1) := by decide +kernel
theorem dX1_shame_31 : decode cX1_shame 31 = .ok (.iaload, 1) := by decide +kernel
theorem dX1_shame_32 : decode cX1_shame 32 = .ok (.iload_n 2, 1) := by decide +kernel
theorem dX1_shame_33 : decode cX1_shame 33 = .ok (.isub, 1) := by decide +kernel
theorem dX1_shame_34 : decode cX1_shame 34 = .ok (.ifCond .ge 6, 3) := by decide +kernel
theorem dX1_shame_37 : decode cX1_shame 37 = .ok (.bipush (-4), 2) := by decide +kernel
theorem dX1_shame_39 : decode cX1_shame 39 = .ok (.ireturn, 1) := by decide +kernel
theorem dX1_shame_40 : decode cX1_shame 40 = .ok (.aload_n 0, 1) := by decide +kernel
theorem dX1_shame_41 : decode cX1_shame 41 = .ok (.getfield 42, 3) := by decide +kernel
theorem dX1_shame_44 : decode cX1_shame 44 = .ok (.bipush 40, 2) := by decide +kernel
theorem dX1_shame_46 : decode cX1_shame 46 = .ok (.if_icmp .lt 6, 3) := by decide +kernel
theorem dX1_shame_49 : decode cX1_shame 49 = .ok (.bipush (-2), 2) := by decide +kernel
theorem dX1_shame_51 : decode cX1_shame 51 = .ok (.ireturn, 1) := by decide +kernel
theorem dX1_shame_52 : decode cX1_shame 52 = .ok (.aload_n 0, 1) := by decide +kernel
theorem dX1_shame_53 : decode cX1_shame 53 = .ok (.iconst 2, 1) := by decide +kernel
theorem dX1_shame_54 : decode cX1_shame 54 = .ok (.iload_n 1, 1) := by decide +kernel
theorem dX1_shame_55 : decode cX1_shame 55 = .ok (.iload_n 2, 1) := by decide +kernel
theorem dX1_shame_56 : decode cX1_shame 56 = .ok (.invokestatic 148, 3) := by decide +kernel
theorem dX1_shame_59 : decode cX1_shame 59 = .ok (.invokevirtual 152, 3) := by decide +kernel
theorem dX1_shame_62 : decode cX1_shame 62 = .ok (.aload_n 0, 1) := by decide +kernel
theorem dX1_shame_63 : decode cX1_shame 63 = .ok (.getfield 33, 3) := by decide +kernel
theorem dX1_shame_66 : decode cX1_shame 66 = .ok (.getfield 156, 3) := by decide +kernel
theorem dX1_shame_69 : decode cX1_shame 69 = .ok (.iload_n 1, 1) := by decide +kernel
theorem dX1_shame_70 : decode cX1_shame 70 = .ok (.iaload, 1) := by decide +kernel
theorem dX1_shame_71 : decode cX1_shame 71 = .ok (.ireturn, 1) := by decide +kernel
theorem dX1_isPlace_0 : decode cX1_isPlace 0 = .ok (.iload_n 0, 1) := by decide +kernel
theorem dX1_isPlace_1 : decode cX1_isPlace 1 = .ok (.ifCond .lt 13, 3) := by decide +kernel
theorem dX1_isPlace_4 : decode cX1_isPlace 4 = .ok (.iload_n 0, 1) := by decide +kernel
theorem dX1_isPlace_5 : decode cX1_isPlace 5 = .ok (.bipush 9, 2) := by decide +kernel
theorem dX1_isPlace_7 : decode cX1_isPlace 7 = .ok (.if_icmp .gt 7, 3) := by decide +kernel
theorem dX1_isPlace_10 : decode cX1_isPlace 10 = .ok (.iconst 1, 1) := by decide +kernel
theorem dX1_isPlace_11 : decode cX1_isPlace 11 = .ok (.goto 4, 3) := by decide +kernel
theorem dX1_isPlace_14 : decode cX1_isPlace 14 = .ok (.iconst 0, 1) := by decide +kernel
theorem dX1_isPlace_15 : decode cX1_isPlace 15 = .ok (.ireturn, 1) := by decide +kernel
theorem dX1_door_0 : decode cX1_door 0 = .ok (.aload_n 0, 1) := by decide +kernel
theorem dX1_door_1 : decode cX1_door 1 = .ok (.getfield 33, 3) := by decide +kernel
theorem dX1_door_4 : decode cX1_door 4 = .ok (.iload_n 1, 1) := by decide +kernel
theorem dX1_door_5 : decode cX1_door 5 = .ok (.invokevirtual 125, 3) := by decide +kernel
theorem dX1_door_8 : decode cX1_door 8 = .ok (.ifCond .eq 10, 3) := by decide +kernel
theorem dX1_door_11 : decode cX1_door 11 = .ok (.iload_n 2, 1) := by decide +kernel
theorem dX1_door_12 : decode cX1_door 12 = .ok (.invokestatic 159, 3) := by decide +kernel
theorem dX1_door_15 : decode cX1_door 15 = .ok (.ifCond .ne 5, 3) := by decide +kernel
theorem dX1_door_18 : decode cX1_door 18 = .ok (.iconst (-1), 1) := by decide +kernel
theorem dX1_door_19 : decode cX1_door 19 = .ok (.ireturn, 1) := by decide +kernel
theorem dX1_door_20 : decode cX1_door 20 = .ok (.aload_n 0, 1) := by decide +kernel
theorem dX1_door_21 : decode cX1_door 21 = .ok (.getfield 33, 3) := by decide +kernel
theorem dX1_door_24 : decode cX1_door 24 = .ok (.getfield 162, 3) := by decide +kernel
theorem dX1_door_27 : decode cX1_door 27 = .ok (.iload_n 1, 1) := by decide +kernel
theorem dX1_door_28 : decode cX1_door 28 = .ok (.iaload, 1) := by decide +kernel
theorem dX1_door_29 : decode cX1_door 29 = .ok (.istore_n 3, 1) := by decide +kernel
theorem dX1_door_30 : decode cX1_door 30 = .ok (.iload_n 3, 1) := by decide +kernel
theorem dX1_door_31 : decode cX1_door 31 = .ok (.iload_n 2, 1) := by decide +kernel
theorem dX1_door_32 : decode cX1_door 32 = .ok (.if_icmp .ne 6, 3) := by decide +kernel
theorem dX1_door_35 : decode cX1_door 35 = .ok (.bipush (-4), 2) := by decide +kernel
theorem dX1_door_37 : decode cX1_door 37 = .ok (.ireturn, 1) := by decide +kernel
theorem dX1_door_38 : decode cX1_door 38 = .ok (.aload_n 0, 1) := by decide +kernel
theorem dX1_door_39 : decode cX1_door 39 = .ok (.getfield 42, 3) := by decide +kernel
theorem dX1_door_42 : decode cX1_door 42 = .ok (.bipush 40, 2) := by decide +kernel
theorem dX1_door_44 : decode cX1_door 44 = .ok (.if_icmp .lt 6, 3) := by decide +kernel
theorem dX1_door_47 : decode cX1_door 47 = .ok (.bipush (-2), 2) := by decide +kernel
theorem dX1_door_49 : decode cX1_door 49 = .ok (.ireturn, 1) := by decide +kernel
theorem dX1_door_50 : decode cX1_door 50 = .ok (.aload_n 0, 1) := by decide +kernel
theorem dX1_door_51 : decode cX1_door 51 = .ok (.iconst 3, 1) := by decide +kernel
theorem dX1_door_52 : decode cX1_door 52 = .ok (.iload_n 1, 1) := by decide +kernel
theorem dX1_door_53 : decode cX1_door 53 = .ok (.iload_n 2, 1) := by decide +kernel
theorem dX1_door_54 : decode cX1_door 54 = .ok (.invokestatic 148, 3) := by decide +kernel
theorem dX1_door_57 : decode cX1_door 57 = .ok (.invokevirtual 152, 3) := by decide +kernel
theorem dX1_door_60 : decode cX1_door 60 = .ok (.iload_n 3, 1) := by decide +kernel
theorem dX1_door_61 : decode cX1_door 61 = .ok (.ireturn, 1) := by decide +kernel
theorem dX1_performAgain_0 : decode cX1_performAgain 0 = .ok (.aload_n 0, 1) := by decide +kernel
theorem dX1_performAgain_1 : decode cX1_performAgain 1 = .ok (.getfield 33, 3) := by decide +kernel
theorem dX1_performAgain_4 : decode cX1_performAgain 4 = .ok (.aload_n 0, 1) := by decide +kernel
theorem dX1_performAgain_5 : decode cX1_performAgain 5 = .ok (.getfield 29, 3) := by decide +kernel
theorem dX1_performAgain_8 : decode cX1_performAgain 8 = .ok (.invokevirtual 118, 3) := by decide +kernel
theorem dX1_performAgain_11 : decode cX1_performAgain 11 = .ok (.iconst 0, 1) := by decide +kernel
theorem dX1_performAgain_12 : decode cX1_performAgain 12 = .ok (.istore_n 1, 1) := by decide +kernel
theorem dX1_performAgain_13 : decode cX1_performAgain 13 = .ok (.iload_n 1, 1) := by decide +kernel
theorem dX1_performAgain_14 : decode cX1_performAgain 14 = .ok (.aload_n 0, 1) := by decide +kernel
theorem dX1_performAgain_15 : decode cX1_performAgain 15 = .ok (.getfield 42, 3) := by decide +kernel
theorem dX1_performAgain_18 : decode cX1_performAgain 18 = .ok (.if_icmp .ge 22, 3) := by decide +kernel
theorem dX1_performAgain_21 : decode cX1_performAgain 21 = .ok (.aload_n 0, 1) := by decide +kernel
theorem dX1_performAgain_22 : decode cX1_performAgain 22 = .ok (.getfield 33, 3) := by decide +kernel
theorem dX1_performAgain_25 : decode cX1_performAgain 25 = .ok (.aload_n 0, 1) := by decide +kernel
theorem dX1_performAgain_26 : decode cX1_performAgain 26 = .ok (.getfield 39, 3) := by decide +kernel
theorem dX1_performAgain_29 : decode cX1_performAgain 29 = .ok (.iload_n 1, 1) := by decide +kernel
theorem dX1_performAgain_30 : decode cX1_performAgain 30 = .ok (.iaload, 1) := by decide +kernel
theorem dX1_performAgain_31 : decode cX1_performAgain 31 = .ok (.invokevirtual 293, 3) := by decide +kernel
theorem dX1_performAgain_34 : decode cX1_performAgain 34 = .ok (.iinc 1 1, 3) := by decide +kernel
theorem dX1_performAgain_37 : decode cX1_performAgain 37 = .ok (.goto (-24), 3) := by decide +kernel
theorem dX1_performAgain_40 : decode cX1_performAgain 40 = .ok (.return_, 1) := by decide +kernel
theorem dX1_undo_0 : decode cX1_undo 0 = .ok (.iload_n 1, 1) := by decide +kernel
theorem dX1_undo_1 : decode cX1_undo 1 = .ok (.iconst 0, 1) := by decide +kernel
theorem dX1_undo_2 : decode cX1_undo 2 = .ok (.aload_n 0, 1) := by decide +kernel
theorem dX1_undo_3 : decode cX1_undo 3 = .ok (.getfield 42, 3) := by decide +kernel
theorem dX1_undo_6 : decode cX1_undo 6 = .ok (.invokestatic 128, 3) := by decide +kernel
theorem dX1_undo_9 : decode cX1_undo 9 = .ok (.ifCond .ne 5, 3) := by decide +kernel
theorem dX1_undo_12 : decode cX1_undo 12 = .ok (.iconst (-1), 1) := by decide +kernel
theorem dX1_undo_13 : decode cX1_undo 13 = .ok (.ireturn, 1) := by decide +kernel
theorem dX1_undo_14 : decode cX1_undo 14 = .ok (.aload_n 0, 1) := by decide +kernel
theorem dX1_undo_15 : decode cX1_undo 15 = .ok (.getfield 42, 3) := by decide +kernel
theorem dX1_undo_18 : decode cX1_undo 18 = .ok (.iload_n 1, 1) := by decide +kernel
theorem dX1_undo_19 : decode cX1_undo 19 = .ok (.isub, 1) := by decide +kernel
theorem dX1_undo_20 : decode cX1_undo 20 = .ok (.istore_n 2, 1) := by decide +kernel
theorem dX1_undo_21 : decode cX1_undo 21 = .ok (.aload_n 0, 1) := by decide +kernel
theorem dX1_undo_22 : decode cX1_undo 22 = .ok (.iload_n 1, 1) := by decide +kernel
theorem dX1_undo_23 : decode cX1_undo 23 = .ok (.putfield 42, 3) := by decide +kernel
theorem dX1_undo_26 : decode cX1_undo 26 = .ok (.aload_n 0, 1) := by decide +kernel
theorem dX1_undo_27 : decode cX1_undo 27 = .ok (.invokevirtual 165, 3) := by decide +kernel
theorem dX1_undo_30 : decode cX1_undo 30 = .ok (.iload_n 2, 1) := by decide +kernel
theorem dX1_undo_31 : decode cX1_undo 31 = .ok (.ireturn, 1) := by decide +kernel
theorem dX1_isKept_0 : decode cX1_isKept 0 = .ok (.iload_n 0, 1) := by decide +kernel
theorem dX1_isKept_1 : decode cX1_isKept 1 = .ok (.ifCond .lt 12, 3) := by decide +kernel
theorem dX1_isKept_4 : decode cX1_isKept 4 = .ok (.iload_n 0, 1) := by decide +kernel
theorem dX1_isKept_5 : decode cX1_isKept 5 = .ok (.iconst 3, 1) := by decide +kernel
theorem dX1_isKept_6 : decode cX1_isKept 6 = .ok (.if_icmp .ge 7, 3) := by decide +kernel
theorem dX1_isKept_9 : decode cX1_isKept 9 = .ok (.iconst 1, 1) := by decide +kernel
theorem dX1_isKept_10 : decode cX1_isKept 10 = .ok (.goto 4, 3) := by decide +kernel
theorem dX1_isKept_13 : decode cX1_isKept 13 = .ok (.iconst 0, 1) := by decide +kernel
theorem dX1_isKept_14 : decode cX1_isKept 14 = .ok (.ireturn, 1) := by decide +kernel
theorem dX1_keep_0 : decode cX1_keep 0 = .ok (.iload_n 1, 1) := by decide +kernel
theorem dX1_keep_1 : decode cX1_keep 1 = .ok (.invokestatic 168, 3) := by decide +kernel
theorem dX1_keep_4 : decode cX1_keep 4 = .ok (.ifCond .ne 5, 3) := by decide +kernel
theorem dX1_keep_7 : decode cX1_keep 7 = .ok (.iconst (-1), 1) := by decide +kernel
theorem dX1_keep_8 : decode cX1_keep 8 = .ok (.ireturn, 1) := by decide +kernel
theorem dX1_keep_9 : decode cX1_keep 9 = .ok (.aload_n 0, 1) := by decide +kernel
theorem dX1_keep_10 : decode cX1_keep 10 = .ok (.getfield 33, 3) := by decide +kernel
theorem dX1_keep_13 : decode cX1_keep 13 = .ok (.getfield 122, 3) := by decide +kernel
theorem dX1_keep_16 : decode cX1_keep 16 = .ok (.ifCond .ne 6, 3) := by decide +kernel
theorem dX1_keep_19 : decode cX1_keep 19 = .ok (.bipush (-4), 2) := by decide +kernel
theorem dX1_keep_21 : decode cX1_keep 21 = .ok (.ireturn, 1) := by decide +kernel
theorem dX1_keep_22 : decode cX1_keep 22 = .ok (.aload_n 0, 1) := by decide +kernel
theorem dX1_keep_23 : decode cX1_keep 23 = .ok (.getfield 39, 3) := by decide +kernel
theorem dX1_keep_26 : decode cX1_keep 26 = .ok (.iconst 0, 1) := by decide +kernel
theorem dX1_keep_27 : decode cX1_keep 27 = .ok (.aload_n 0, 1) := by decide +kernel
theorem dX1_keep_28 : decode cX1_keep 28 = .ok (.getfield 46, 3) := by decide +kernel
theorem dX1_keep_31 : decode cX1_keep 31 = .ok (.iload_n 1, 1) := by decide +kernel
theorem dX1_keep_32 : decode cX1_keep 32 = .ok (.aaload, 1) := by decide +kernel
theorem dX1_keep_33 : decode cX1_keep 33 = .ok (.iconst 0, 1) := by decide +kernel
theorem dX1_keep_34 : decode cX1_keep 34 = .ok (.aload_n 0, 1) := by decide +kernel
theorem dX1_keep_35 : decode cX1_keep 35 = .ok (.getfield 42, 3) := by decide +kernel
theorem dX1_keep_38 : decode cX1_keep 38 = .ok (.invokestatic 102, 3) := by decide +kernel
theorem dX1_keep_41 : decode cX1_keep 41 = .ok (.aload_n 0, 1) := by decide +kernel
theorem dX1_keep_42 : decode cX1_keep 42 = .ok (.getfield 49, 3) := by decide +kernel
theorem dX1_keep_45 : decode cX1_keep 45 = .ok (.iload_n 1, 1) := by decide +kernel
theorem dX1_keep_46 : decode cX1_keep 46 = .ok (.aload_n 0, 1) := by decide +kernel
theorem dX1_keep_47 : decode cX1_keep 47 = .ok (.getfield 42, 3) := by decide +kernel
theorem dX1_keep_50 : decode cX1_keep 50 = .ok (.iastore, 1) := by decide +kernel
theorem dX1_keep_51 : decode cX1_keep 51 = .ok (.aload_n 0, 1) := by decide +kernel
theorem dX1_keep_52 : decode cX1_keep 52 = .ok (.getfield 42, 3) := by decide +kernel
theorem dX1_keep_55 : decode cX1_keep 55 = .ok (.ireturn, 1) := by decide +kernel
theorem dX1_on_0 : decode cX1_on 0 = .ok (.iload_n 1, 1) := by decide +kernel
theorem dX1_on_1 : decode cX1_on 1 = .ok (.invokestatic 168, 3) := by decide +kernel
theorem dX1_on_4 : decode cX1_on 4 = .ok (.ifCond .ne 5, 3) := by decide +kernel
theorem dX1_on_7 : decode cX1_on 7 = .ok (.iconst (-1), 1) := by decide +kernel
theorem dX1_on_8 : decode cX1_on 8 = .ok (.ireturn, 1) := by decide +kernel
theorem dX1_on_9 : decode cX1_on 9 = .ok (.aload_n 0, 1) := by decide +kernel
theorem dX1_on_10 : decode cX1_on 10 = .ok (.getfield 49, 3) := by decide +kernel
theorem dX1_on_13 : decode cX1_on 13 = .ok (.iload_n 1, 1) := by decide +kernel
theorem dX1_on_14 : decode cX1_on 14 = .ok (.iaload, 1) := by decide +kernel
theorem dX1_on_15 : decode cX1_on 15 = .ok (.ifCond .ge 9, 3) := by decide +kernel
theorem dX1_on_18 : decode cX1_on 18 = .ok (.aload_n 0, 1) := by decide +kernel
theorem dX1_on_19 : decode cX1_on 19 = .ok (.iconst 1, 1) := by decide +kernel
theorem dX1_on_20 : decode cX1_on 20 = .ok (.invokevirtual 87, 3) := by decide +kernel
theorem dX1_on_23 : decode cX1_on 23 = .ok (.ireturn, 1) := by decide +kernel
theorem dX1_on_24 : decode cX1_on 24 = .ok (.aload_n 0, 1) := by decide +kernel
theorem dX1_on_25 : decode cX1_on 25 = .ok (.aload_n 0, 1) := by decide +kernel
theorem dX1_on_26 : decode cX1_on 26 = .ok (.getfield 49, 3) := by decide +kernel
theorem dX1_on_29 : decode cX1_on 29 = .ok (.iload_n 1, 1) := by decide +kernel
theorem dX1_on_30 : decode cX1_on 30 = .ok (.iaload, 1) := by decide +kernel
theorem dX1_on_31 : decode cX1_on 31 = .ok (.putfield 42, 3) := by decide +kernel
theorem dX1_on_34 : decode cX1_on 34 = .ok (.aload_n 0, 1) := by decide +kernel
theorem dX1_on_35 : decode cX1_on 35 = .ok (.getfield 46, 3) := by decide +kernel
theorem dX1_on_38 : decode cX1_on 38 = .ok (.iload_n 1, 1) := by decide +kernel
theorem dX1_on_39 : decode cX1_on 39 = .ok (.aaload, 1) := by decide +kernel
theorem dX1_on_40 : decode cX1_on 40 = .ok (.iconst 0, 1) := by decide +kernel
theorem dX1_on_41 : decode cX1_on 41 = .ok (.aload_n 0, 1) := by decide +kernel
theorem dX1_on_42 : decode cX1_on 42 = .ok (.getfield 39, 3) := by decide +kernel
theorem dX1_on_45 : decode cX1_on 45 = .ok (.iconst 0, 1) := by decide +kernel
theorem dX1_on_46 : decode cX1_on 46 = .ok (.aload_n 0, 1) := by decide +kernel
theorem dX1_on_47 : decode cX1_on 47 = .ok (.getfield 42, 3) := by decide +kernel
theorem dX1_on_50 : decode cX1_on 50 = .ok (.invokestatic 102, 3) := by decide +kernel
theorem dX1_on_53 : decode cX1_on 53 = .ok (.aload_n 0, 1) := by decide +kernel
theorem dX1_on_54 : decode cX1_on 54 = .ok (.invokevirtual 165, 3) := by decide +kernel
theorem dX1_on_57 : decode cX1_on 57 = .ok (.aload_n 0, 1) := by decide +kernel
theorem dX1_on_58 : decode cX1_on 58 = .ok (.getfield 42, 3) := by decide +kernel
theorem dX1_on_61 : decode cX1_on 61 = .ok (.ireturn, 1) := by decide +kernel
theorem dX1_dares_0 : decode cX1_dares 0 = .ok (.aload_n 0, 1) := by decide +kernel
theorem dX1_dares_1 : decode cX1_dares 1 = .ok (.getfield 33, 3) := by decide +kernel
theorem dX1_dares_4 : decode cX1_dares 4 = .ok (.iload_n 1, 1) := by decide +kernel
theorem dX1_dares_5 : decode cX1_dares 5 = .ok (.invokevirtual 125, 3) := by decide +kernel
theorem dX1_dares_8 : decode cX1_dares 8 = .ok (.ifCond .eq 13, 3) := by decide +kernel
theorem dX1_dares_11 : decode cX1_dares 11 = .ok (.iload_n 2, 1) := by decide +kernel
theorem dX1_dares_12 : decode cX1_dares 12 = .ok (.iconst 0, 1) := by decide +kernel
theorem dX1_dares_13 : decode cX1_dares 13 = .ok (.bipush 20, 2) := by decide +kernel
theorem dX1_dares_15 : decode cX1_dares 15 = .ok (.invokestatic 128, 3) := by decide +kernel
theorem dX1_dares_18 : decode cX1_dares 18 = .ok (.ifCond .ne 5, 3) := by decide +kernel
theorem dX1_dares_21 : decode cX1_dares 21 = .ok (.iconst (-1), 1) := by decide +kernel
theorem dX1_dares_22 : decode cX1_dares 22 = .ok (.ireturn, 1) := by decide +kernel
theorem dX1_dares_23 : decode cX1_dares 23 = .ok (.iload_n 3, 1) := by decide +kernel
theorem dX1_dares_24 : decode cX1_dares 24 = .ok (.iconst 0, 1) := by decide +kernel
theorem dX1_dares_25 : decode cX1_dares 25 = .ok (.bipush 99, 2) := by decide +kernel
theorem dX1_dares_27 : decode cX1_dares 27 = .ok (.invokestatic 128, 3) := by decide +kernel
theorem dX1_dares_30 : decode cX1_dares 30 = .ok (.ifCond .eq 14, 3) := by decide +kernel
theorem dX1_dares_33 : decode cX1_dares 33 = .ok (.iload 4, 2) := by decide +kernel
theorem dX1_dares_35 : decode cX1_dares 35 = .ok (.iconst 0, 1) := by decide +kernel
theorem dX1_dares_36 : decode cX1_dares 36 = .ok (.bipush 9, 2) := by decide +kernel
theorem dX1_dares_38 : decode cX1_dares 38 = .ok (.invokestatic 128, 3) := by decide +kernel
theorem dX1_dares_41 : decode cX1_dares 41 = .ok (.ifCond .ne 5, 3) := by decide +kernel
theorem dX1_dares_44 : decode cX1_dares 44 = .ok (.iconst (-1), 1) := by decide +kernel
theorem dX1_dares_45 : decode cX1_dares 45 = .ok (.ireturn, 1) := by decide +kernel
theorem dX1_dares_46 : decode cX1_dares 46 = .ok (.aload_n 0, 1) := by decide +kernel
theorem dX1_dares_47 : decode cX1_dares 47 = .ok (.getfield 33, 3) := by decide +kernel
theorem dX1_dares_50 : decode cX1_dares 50 = .ok (.getfield 135, 3) := by decide +kernel
theorem dX1_dares_53 : decode cX1_dares 53 = .ok (.iload_n 1, 1) := by decide +kernel
theorem dX1_dares_54 : decode cX1_dares 54 = .ok (.iaload, 1) := by decide +kernel
theorem dX1_dares_55 : decode cX1_dares 55 = .ok (.iload_n 2, 1) := by decide +kernel
theorem dX1_dares_56 : decode cX1_dares 56 = .ok (.iload_n 3, 1) := by decide +kernel
theorem dX1_dares_57 : decode cX1_dares 57 = .ok (.iload 4, 2) := by decide +kernel
theorem dX1_dares_59 : decode cX1_dares 59 = .ok (.invokestatic 171, 3) := by decide +kernel
theorem dX1_dares_62 : decode cX1_dares 62 = .ok (.ireturn, 1) := by decide +kernel
theorem dX1_holderAside_0 : decode cX1_holderAside 0 = .ok (.bipush (-9), 2) := by decide +kernel
theorem dX1_holderAside_2 : decode cX1_holderAside 2 = .ok (.istore_n 2, 1) := by decide +kernel
theorem dX1_holderAside_3 : decode cX1_holderAside 3 = .ok (.iconst 0, 1) := by decide +kernel
theorem dX1_holderAside_4 : decode cX1_holderAside 4 = .ok (.istore_n 3, 1) := by decide +kernel
theorem dX1_holderAside_5 : decode cX1_holderAside 5 = .ok (.iload_n 3, 1) := by decide +kernel
theorem dX1_holderAside_6 : decode cX1_holderAside 6 = .ok (.iload_n 1, 1) := by decide +kernel
theorem dX1_holderAside_7 : decode cX1_holderAside 7 = .ok (.if_icmp .ge 17, 3) := by decide +kernel
theorem dX1_holderAside_10 : decode cX1_holderAside 10 = .ok (.aload_n 0, 1) := by decide +kernel
theorem dX1_holderAside_11 : decode cX1_holderAside 11 = .ok (.getfield 36, 3) := by decide +kernel
theorem dX1_holderAside_14 : decode cX1_holderAside 14 = .ok (.invokevirtual 184, 3) := by decide +kernel
theorem dX1_holderAside_17 : decode cX1_holderAside 17 = .ok (.istore_n 2, 1) := by decide +kernel
theorem dX1_holderAside_18 : decode cX1_holderAside 18 = .ok (.iinc 3 1, 3) := by decide +kernel
theorem dX1_holderAside_21 : decode cX1_holderAside 21 = .ok (.goto (-16), 3) := by decide +kernel
theorem dX1_holderAside_24 : decode cX1_holderAside 24 = .ok (.iload_n 2, 1) := by decide +kernel
theorem dX1_holderAside_25 : decode cX1_holderAside 25 = .ok (.ireturn, 1) := by decide +kernel
theorem dX1_where_0 : decode cX1_where 0 = .ok (.iload_n 1, 1) := by decide +kernel
theorem dX1_where_1 : decode cX1_where 1 = .ok (.iconst 0, 1) := by decide +kernel
theorem dX1_where_2 : decode cX1_where 2 = .ok (.bipush 40, 2) := by decide +kernel
theorem dX1_where_4 : decode cX1_where 4 = .ok (.invokestatic 128, 3) := by decide +kernel
theorem dX1_where_7 : decode cX1_where 7 = .ok (.ifCond .ne 5, 3) := by decide +kernel
theorem dX1_where_10 : decode cX1_where 10 = .ok (.iconst (-1), 1) := by decide +kernel
theorem dX1_where_11 : decode cX1_where 11 = .ok (.ireturn, 1) := by decide +kernel
theorem dX1_where_12 : decode cX1_where 12 = .ok (.aload_n 0, 1) := by decide +kernel
theorem dX1_where_13 : decode cX1_where 13 = .ok (.getfield 33, 3) := by decide +kernel
theorem dX1_where_16 : decode cX1_where 16 = .ok (.getfield 122, 3) := by decide +kernel
theorem dX1_where_19 : decode cX1_where 19 = .ok (.ifCond .ne 6, 3) := by decide +kernel
theorem dX1_where_22 : decode cX1_where 22 = .ok (.bipush (-4), 2) := by decide +kernel
theorem dX1_where_24 : decode cX1_where 24 = .ok (.ireturn, 1) := by decide +kernel
theorem dX1_where_25 : decode cX1_where 25 = .ok (.aload_n 0, 1) := by decide +kernel
theorem dX1_where_26 : decode cX1_where 26 = .ok (.getfield 36, 3) := by decide +kernel
theorem dX1_where_29 : decode cX1_where 29 = .ok (.aload_n 0, 1) := by decide +kernel
theorem dX1_where_30 : decode cX1_where 30 = .ok (.getfield 33, 3) := by decide +kernel
theorem dX1_where_33 : decode cX1_where 33 = .ok (.invokevirtual 118, 3) := by decide +kernel
theorem dX1_where_36 : decode cX1_where 36 = .ok (.aload_n 0, 1) := by decide +kernel
theorem dX1_where_37 : decode cX1_where 37 = .ok (.aload_n 0, 1) := by decide +kernel
theorem dX1_where_38 : decode cX1_where 38 = .ok (.iload_n 1, 1) := by decide +kernel
theorem dX1_where_39 : decode cX1_where 39 = .ok (.invokevirtual 175, 3) := by decide +kernel
theorem dX1_where_42 : decode cX1_where 42 = .ok (.invokevirtual 99, 3) := by decide +kernel
theorem dX1_where_45 : decode cX1_where 45 = .ok (.pop, 1) := by decide +kernel
theorem dX1_where_46 : decode cX1_where 46 = .ok (.aload_n 0, 1) := by decide +kernel
theorem dX1_where_47 : decode cX1_where 47 = .ok (.getfield 36, 3) := by decide +kernel
theorem dX1_where_50 : decode cX1_where 50 = .ok (.getfield 178, 3) := by decide +kernel
theorem dX1_where_53 : decode cX1_where 53 = .ok (.ireturn, 1) := by decide +kernel
theorem dX1_crosses_0 : decode cX1_crosses 0 = .ok (.aload_n 0, 1) := by decide +kernel
theorem dX1_crosses_1 : decode cX1_crosses 1 = .ok (.getfield 33, 3) := by decide +kernel
theorem dX1_crosses_4 : decode cX1_crosses 4 = .ok (.iload_n 1, 1) := by decide +kernel
theorem dX1_crosses_5 : decode cX1_crosses 5 = .ok (.invokevirtual 125, 3) := by decide +kernel
theorem dX1_crosses_8 : decode cX1_crosses 8 = .ok (.ifCond .eq 13, 3) := by decide +kernel
theorem dX1_crosses_11 : decode cX1_crosses 11 = .ok (.iload_n 2, 1) := by decide +kernel
theorem dX1_crosses_12 : decode cX1_crosses 12 = .ok (.iconst 0, 1) := by decide +kernel
theorem dX1_crosses_13 : decode cX1_crosses 13 = .ok (.bipush 40, 2) := by decide +kernel
theorem dX1_crosses_15 : decode cX1_crosses 15 = .ok (.invokestatic 128, 3) := by decide +kernel
theorem dX1_crosses_18 : decode cX1_crosses 18 = .ok (.ifCond .ne 5, 3) := by decide +kernel
theorem dX1_crosses_21 : decode cX1_crosses 21 = .ok (.iconst (-1), 1) := by decide +kernel
theorem dX1_crosses_22 : decode cX1_crosses 22 = .ok (.ireturn, 1) := by decide +kernel
theorem dX1_crosses_23 : decode cX1_crosses 23 = .ok (.aload_n 0, 1) := by decide +kernel
theorem dX1_crosses_24 : decode cX1_crosses 24 = .ok (.getfield 36, 3) := by decide +kernel
theorem dX1_crosses_27 : decode cX1_crosses 27 = .ok (.aload_n 0, 1) := by decide +kernel
theorem dX1_crosses_28 : decode cX1_crosses 28 = .ok (.getfield 33, 3) := by decide +kernel
theorem dX1_crosses_31 : decode cX1_crosses 31 = .ok (.invokevirtual 118, 3) := by decide +kernel
theorem dX1_crosses_34 : decode cX1_crosses 34 = .ok (.aload_n 0, 1) := by decide +kernel
theorem dX1_crosses_35 : decode cX1_crosses 35 = .ok (.iload_n 2, 1) := by decide +kernel
theorem dX1_crosses_36 : decode cX1_crosses 36 = .ok (.invokevirtual 175, 3) := by decide +kernel
theorem dX1_crosses_39 : decode cX1_crosses 39 = .ok (.pop, 1) := by decide +kernel
theorem dX1_crosses_40 : decode cX1_crosses 40 = .ok (.aload_n 0, 1) := by decide +kernel
theorem dX1_crosses_41 : decode cX1_crosses 41 = .ok (.getfield 36, 3) := by decide +kernel
theorem dX1_crosses_44 : decode cX1_crosses 44 = .ok (.getfield 181, 3) := by decide +kernel
theorem dX1_crosses_47 : decode cX1_crosses 47 = .ok (.iload_n 1, 1) := by decide +kernel
theorem dX1_crosses_48 : decode cX1_crosses 48 = .ok (.iaload, 1) := by decide +kernel
theorem dX1_crosses_49 : decode cX1_crosses 49 = .ok (.aload_n 0, 1) := by decide +kernel
theorem dX1_crosses_50 : decode cX1_crosses 50 = .ok (.getfield 33, 3) := by decide +kernel
theorem dX1_crosses_53 : decode cX1_crosses 53 = .ok (.getfield 181, 3) := by decide +kernel
theorem dX1_crosses_56 : decode cX1_crosses 56 = .ok (.iload_n 1, 1) := by decide +kernel
theorem dX1_crosses_57 : decode cX1_crosses 57 = .ok (.iaload, 1) := by decide +kernel
theorem dX1_crosses_58 : decode cX1_crosses 58 = .ok (.isub, 1) := by decide +kernel
theorem dX1_crosses_59 : decode cX1_crosses 59 = .ok (.ireturn, 1) := by decide +kernel
theorem dX1_first_0 : decode cX1_first 0 = .ok (.aload_n 0, 1) := by decide +kernel
theorem dX1_first_1 : decode cX1_first 1 = .ok (.getfield 33, 3) := by decide +kernel
theorem dX1_first_4 : decode cX1_first 4 = .ok (.iload_n 1, 1) := by decide +kernel
theorem dX1_first_5 : decode cX1_first 5 = .ok (.invokevirtual 125, 3) := by decide +kernel
theorem dX1_first_8 : decode cX1_first 8 = .ok (.ifCond .ne 5, 3) := by decide +kernel
theorem dX1_first_11 : decode cX1_first 11 = .ok (.iconst (-1), 1) := by decide +kernel
theorem dX1_first_12 : decode cX1_first 12 = .ok (.ireturn, 1) := by decide +kernel
theorem dX1_first_13 : decode cX1_first 13 = .ok (.aload_n 0, 1) := by decide +kernel
theorem dX1_first_14 : decode cX1_first 14 = .ok (.getfield 36, 3) := by decide +kernel
theorem dX1_first_17 : decode cX1_first 17 = .ok (.aload_n 0, 1) := by decide +kernel
theorem dX1_first_18 : decode cX1_first 18 = .ok (.getfield 33, 3) := by decide +kernel
theorem dX1_first_21 : decode cX1_first 21 = .ok (.invokevirtual 118, 3) := by decide +kernel
theorem dX1_first_24 : decode cX1_first 24 = .ok (.iconst 1, 1) := by decide +kernel
theorem dX1_first_25 : decode cX1_first 25 = .ok (.istore_n 2, 1) := by decide +kernel
theorem dX1_first_26 : decode cX1_first 26 = .ok (.iload_n 2, 1) := by decide +kernel
theorem dX1_first_27 : decode cX1_first 27 = .ok (.bipush 40, 2) := by decide +kernel
theorem dX1_first_29 : decode cX1_first 29 = .ok (.if_icmp .gt 22, 3) := by decide +kernel
theorem dX1_first_32 : decode cX1_first 32 = .ok (.aload_n 0, 1) := by decide +kernel
theorem dX1_first_33 : decode cX1_first 33 = .ok (.getfield 36, 3) := by decide +kernel
theorem dX1_first_36 : decode cX1_first 36 = .ok (.invokevirtual 184, 3) := by decide +kernel
theorem dX1_first_39 : decode cX1_first 39 = .ok (.iload_n 1, 1) := by decide +kernel
theorem dX1_first_40 : decode cX1_first 40 = .ok (.if_icmp .ne 5, 3) := by decide +kernel
theorem dX1_first_43 : decode cX1_first 43 = .ok (.iload_n 2, 1) := by decide +kernel
theorem dX1_first_44 : decode cX1_first 44 = .ok (.ireturn, 1) := by decide +kernel
theorem dX1_first_45 : decode cX1_first 45 = .ok (.iinc 2 1, 3) := by decide +kernel
theorem dX1_first_48 : decode cX1_first 48 = .ok (.goto (-22), 3) := by decide +kernel
theorem dX1_first_51 : decode cX1_first 51 = .ok (.bipush (-9), 2) := by decide +kernel
theorem dX1_first_53 : decode cX1_first 53 = .ok (.ireturn, 1) := by decide +kernel
theorem dX1_lift_0 : decode cX1_lift 0 = .ok (.aload_n 0, 1) := by decide +kernel
theorem dX1_lift_1 : decode cX1_lift 1 = .ok (.getfield 33, 3) := by decide +kernel
theorem dX1_lift_4 : decode cX1_lift 4 = .ok (.iload_n 1, 1) := by decide +kernel
theorem dX1_lift_5 : decode cX1_lift 5 = .ok (.invokevirtual 125, 3) := by decide +kernel
theorem dX1_lift_8 : decode cX1_lift 8 = .ok (.ifCond .eq 13, 3) := by decide +kernel
theorem dX1_lift_11 : decode cX1_lift 11 = .ok (.iload_n 2, 1) := by decide +kernel
theorem dX1_lift_12 : decode cX1_lift 12 = .ok (.iconst 1, 1) := by decide +kernel
theorem dX1_lift_13 : decode cX1_lift 13 = .ok (.bipush 20, 2) := by decide +kernel
theorem dX1_lift_15 : decode cX1_lift 15 = .ok (.invokestatic 128, 3) := by decide +kernel
theorem dX1_lift_18 : decode cX1_lift 18 = .ok (.ifCond .ne 5, 3) := by decide +kernel
theorem dX1_lift_21 : decode cX1_lift 21 = .ok (.iconst (-1), 1) := by decide +kernel
theorem dX1_lift_22 : decode cX1_lift 22 = .ok (.ireturn, 1) := by decide +kernel
theorem dX1_lift_23 : decode cX1_lift 23 = .ok (.iconst 0, 1) := by decide +kernel
theorem dX1_lift_24 : decode cX1_lift 24 = .ok (.istore_n 3, 1) := by decide +kernel
theorem dX1_lift_25 : decode cX1_lift 25 = .ok (.aload_n 0, 1) := by decide +kernel
theorem dX1_lift_26 : decode cX1_lift 26 = .ok (.getfield 33, 3) := by decide +kernel
theorem dX1_lift_29 : decode cX1_lift 29 = .ok (.getfield 156, 3) := by decide +kernel
theorem dX1_lift_32 : decode cX1_lift 32 = .ok (.iload_n 1, 1) := by decide +kernel
theorem dX1_lift_33 : decode cX1_lift 33 = .ok (.iaload, 1) := by decide +kernel
theorem dX1_lift_34 : decode cX1_lift 34 = .ok (.iload_n 3, 1) := by decide +kernel
theorem dX1_lift_35 : decode cX1_lift 35 = .ok (.iadd, 1) := by decide +kernel
theorem dX1_lift_36 : decode cX1_lift 36 = .ok (.bipush 20, 2) := by decide +kernel
theorem dX1_lift_38 : decode cX1_lift 38 = .ok (.if_icmp .gt 51, 3) := by decide +kernel
theorem dX1_lift_41 : decode cX1_lift 41 = .ok (.aload_n 0, 1) := by decide +kernel
theorem dX1_lift_42 : decode cX1_lift 42 = .ok (.getfield 36, 3) := by decide +kernel
theorem dX1_lift_45 : decode cX1_lift 45 = .ok (.aload_n 0, 1) := by decide +kernel
theorem dX1_lift_46 : decode cX1_lift 46 = .ok (.getfield 33, 3) := by decide +kernel
theorem dX1_lift_49 : decode cX1_lift 49 = .ok (.invokevirtual 118, 3) := by decide +kernel
theorem dX1_lift_52 : decode cX1_lift 52 = .ok (.aload_n 0, 1) := by decide +kernel
theorem dX1_lift_53 : decode cX1_lift 53 = .ok (.getfield 36, 3) := by decide +kernel
theorem dX1_lift_56 : decode cX1_lift 56 = .ok (.getfield 156, 3) := by decide +kernel
theorem dX1_lift_59 : decode cX1_lift 59 = .ok (.iload_n 1, 1) := by decide +kernel
theorem dX1_lift_60 : decode cX1_lift 60 = .ok (.aload_n 0, 1) := by decide +kernel
theorem dX1_lift_61 : decode cX1_lift 61 = .ok (.getfield 33, 3) := by decide +kernel
theorem dX1_lift_64 : decode cX1_lift 64 = .ok (.getfield 156, 3) := by decide +kernel
theorem dX1_lift_67 : decode cX1_lift 67 = .ok (.iload_n 1, 1) := by decide +kernel
theorem dX1_lift_68 : decode cX1_lift 68 = .ok (.iaload, 1) := by decide +kernel
theorem dX1_lift_69 : decode cX1_lift 69 = .ok (.iload_n 3, 1) := by decide +kernel
theorem dX1_lift_70 : decode cX1_lift 70 = .ok (.iadd, 1) := by decide +kernel
theorem dX1_lift_71 : decode cX1_lift 71 = .ok (.iastore, 1) := by decide +kernel
theorem dX1_lift_72 : decode cX1_lift 72 = .ok (.aload_n 0, 1) := by decide +kernel
theorem dX1_lift_73 : decode cX1_lift 73 = .ok (.iload_n 2, 1) := by decide +kernel
theorem dX1_lift_74 : decode cX1_lift 74 = .ok (.invokevirtual 175, 3) := by decide +kernel
theorem dX1_lift_77 : decode cX1_lift 77 = .ok (.iload_n 1, 1) := by decide +kernel
theorem dX1_lift_78 : decode cX1_lift 78 = .ok (.if_icmp .ne 5, 3) := by decide +kernel
theorem dX1_lift_81 : decode cX1_lift 81 = .ok (.iload_n 3, 1) := by decide +kernel
theorem dX1_lift_82 : decode cX1_lift 82 = .ok (.ireturn, 1) := by decide +kernel
theorem dX1_lift_83 : decode cX1_lift 83 = .ok (.iinc 3 1, 3) := by decide +kernel
theorem dX1_lift_86 : decode cX1_lift 86 = .ok (.goto (-61), 3) := by decide +kernel
theorem dX1_lift_89 : decode cX1_lift 89 = .ok (.bipush (-9), 2) := by decide +kernel
theorem dX1_lift_91 : decode cX1_lift 91 = .ok (.ireturn, 1) := by decide +kernel
theorem fl_X1_156 : FLk RX1 156 0 2 := Or.inr ⟨"DareFord", in_ns (i := 113) (by decide +kernel) rfl⟩
theorem fl_X1_162 : FLk RX1 162 0 1 := Or.inr ⟨"DareFord", in_ns (i := 111) (by decide +kernel) rfl⟩
theorem mt_X1_isPlace : Cond.static yX1_isPlace ∈ gd_tbl ∧ Cond.initialized yX1_isPlace.cls ∈ gd_tbl ∧ Cond.code yX1_isPlace cX1_isPlace 1 (some .boolean) ∈ gd_tbl := ⟨in_gd (i := 402) (by decide +kernel) rfl, in_gd (i := 84) (by decide +kernel) rfl, in_gd (i := 403) (by decide +kernel) rfl⟩
theorem yo_X1_isPlace : yOk yX1_isPlace 1 := ⟨by decide, by decide, by decide +kernel⟩
theorem l_X1_159 : mlS RX1 159 yX1_isPlace cX1_isPlace 1 (some .boolean) := ⟨in_gd (i := 401) (by decide +kernel) rfl, mt_X1_isPlace⟩
theorem mt_X1_performAgain : (Cond.instanceMethod yX1_performAgain ∈ gd_tbl ∧ Cond.selects yX1_performAgain.cls yX1_performAgain yX1_performAgain ∈ gd_tbl) ∧ Cond.initialized yX1_performAgain.cls ∈ gd_tbl ∧ Cond.code yX1_performAgain cX1_performAgain 2 (none) ∈ gd_tbl := ⟨⟨in_gd (i := 410) (by decide +kernel) rfl, in_gd (i := 20) (by decide +kernel) rfl⟩, in_gd (i := 84) (by decide +kernel) rfl, in_gd (i := 411) (by decide +kernel) rfl⟩
theorem yo_X1_performAgain : yOk yX1_performAgain 0 := ⟨by decide, by decide, by decide +kernel⟩
theorem l_X1_165 : mlV RX1 165 yX1_performAgain cX1_performAgain 2 (none) := ⟨in_gd (i := 408) (by decide +kernel) rfl, mt_X1_performAgain⟩
theorem fl_X1_46 : FLk RX1 46 1 9 := Or.inl (in_gd (i := 151) (by decide +kernel) rfl)
theorem mt_X1_isKept : Cond.static yX1_isKept ∈ gd_tbl ∧ Cond.initialized yX1_isKept.cls ∈ gd_tbl ∧ Cond.code yX1_isKept cX1_isKept 1 (some .boolean) ∈ gd_tbl := ⟨in_gd (i := 417) (by decide +kernel) rfl, in_gd (i := 84) (by decide +kernel) rfl, in_gd (i := 418) (by decide +kernel) rfl⟩
theorem yo_X1_isKept : yOk yX1_isKept 1 := ⟨by decide, by decide, by decide +kernel⟩
theorem l_X1_168 : mlS RX1 168 yX1_isKept cX1_isKept 1 (some .boolean) := ⟨in_gd (i := 416) (by decide +kernel) rfl, mt_X1_isKept⟩
theorem l_X1_171 : mlS RX1 171 yX1_boldness cX1_boldness 4 (some .int) := ⟨in_gd (i := 427) (by decide +kernel) rfl, mt_X1_boldness⟩
theorem l_X1_184 : mlW RX1 184 yX0_passNight cX0_passNight 4 (some .int) "DareFord" := ⟨in_ns (i := 436) (by decide +kernel) rfl, mt_X0_passNight⟩
theorem fl_X1_178 : FLk RX1 178 0 5 := Or.inr ⟨"DareFord", in_ns (i := 119) (by decide +kernel) rfl⟩
theorem mt_X1_holderAside : (Cond.instanceMethod yX1_holderAside ∈ gd_tbl ∧ Cond.selects yX1_holderAside.cls yX1_holderAside yX1_holderAside ∈ gd_tbl) ∧ Cond.initialized yX1_holderAside.cls ∈ gd_tbl ∧ Cond.code yX1_holderAside cX1_holderAside 4 (some .int) ∈ gd_tbl := ⟨⟨in_gd (i := 434) (by decide +kernel) rfl, in_gd (i := 21) (by decide +kernel) rfl⟩, in_gd (i := 84) (by decide +kernel) rfl, in_gd (i := 435) (by decide +kernel) rfl⟩
theorem yo_X1_holderAside : yOk yX1_holderAside 1 := ⟨by decide, by decide, by decide +kernel⟩
theorem l_X1_175 : mlV RX1 175 yX1_holderAside cX1_holderAside 4 (some .int) := ⟨in_gd (i := 432) (by decide +kernel) rfl, mt_X1_holderAside⟩
theorem fl_X1_181 : FLk RX1 181 0 3 := Or.inr ⟨"DareFord", in_ns (i := 115) (by decide +kernel) rfl⟩
def fX1_raise (p1 : Int) (p2 : Int) (μ : Mem) : Option (Int × Mem) :=
  (fX0_has 20 p1 μ).bind fun x1 =>
  if x1 = 0 then
    some ((-1), μ)
  else
    (fX1_isWithin p2 1 9 μ).bind fun x2 =>
    if ¬ x2 = 0 then
      grd (0 ≤ p1 ∧ p1 < 6) <|
      if (w32 ((μ 23 (p1).toNat) + p2)) ≤ 20 then
        if (μ 0 8) < 40 then
          (fX1_deedOf 1 p1 p2 μ).bind fun x3 =>
          (fX1_perform x3 μ).bind fun μ4 =>
          grd (0 ≤ p1 ∧ p1 < 6) <|
          some ((μ4 23 (p1).toNat), μ4)
        else
          some ((-2), μ)
      else
        some ((-4), μ)
    else
      some ((-1), μ)
theorem K_X1_raise  (p1 : Int) (p2 : Int)  (μ : Mem) : Con yX1_raise cX1_raise 3 (some .int) 9 [.inr (.inr 0), .inl p1, .inl p2] μ (fX1_raise p1 p2 μ) wI := by
  refine con_of (own := RX1) (by decide) rfl (Nat.le_of_ble_eq_true rfl) ?_
  show Sim cX1_raise 3 RX1 (9) (some .int) wI 0 [(0, .inr (.inr 0)), (1, .inl p1), (2, .inl p2)] [] μ (fX1_raise p1 p2 μ)
  unfold fX1_raise
  refine S_aload_n dX1_raise_0 rfl ?_
  refine S_getR (c1 := 20) dX1_raise_1 rfl fl_X1_33 rfl rfl rfl ?_
  refine S_iload_n dX1_raise_4 rfl ?_
  refine S_callW_I dX1_raise_5 [.inl p1] (K_X0_has (by unfold isBk; decide) p1 μ) l_X1_125 yo_X0_has rfl rfl rfl rfl rfl (fun x1 => ?_)
  refine S_if_eq (tgt := 21) dX1_raise_8 (by decide) (fun h8 => ?_) (fun h8 => ?_)
  · refine S_iconst dX1_raise_21 rfl ?_
    exact S_iret dX1_raise_22 rfl rfl
  · refine S_iload_n dX1_raise_11 rfl ?_
    refine S_iconst dX1_raise_12 rfl ?_
    refine S_bipush dX1_raise_13 rfl (by decide) ?_
    refine S_callS_I dX1_raise_15 [.inl p2, .inl 1, .inl 9] (K_X1_isWithin p2 1 9 μ) l_X1_128 yo_X1_isWithin rfl rfl rfl (fun x2 => ?_)
    refine S_if_ne (tgt := 23) dX1_raise_18 (by decide) (fun h7 => ?_) (fun h7 => ?_)
    · refine S_aload_n dX1_raise_23 rfl ?_
      refine S_getR (c1 := 20) dX1_raise_24 rfl fl_X1_33 rfl rfl rfl ?_
      refine S_getR (c1 := 23) dX1_raise_27 rfl fl_X1_156 rfl rfl rfl ?_
      refine S_iload_n dX1_raise_30 rfl ?_
      refine S_iald (N := 6) dX1_raise_31 rfl (by decide) rfl ?_
      refine S_iload_n dX1_raise_32 rfl ?_
      refine S_iadd dX1_raise_33 ?_
      refine S_bipush dX1_raise_34 rfl (by decide) ?_
      refine S_ic_le (tgt := 42) dX1_raise_36 (by decide) (fun h6 => ?_) (fun h6 => ?_)
      · refine S_aload_n dX1_raise_42 rfl ?_
        refine S_getI dX1_raise_43 rfl fl_X1_42 rfl rfl ?_
        refine S_bipush dX1_raise_46 rfl (by decide) ?_
        refine S_ic_lt (tgt := 54) dX1_raise_48 (by decide) (fun h5 => ?_) (fun h5 => ?_)
        · refine S_aload_n dX1_raise_54 rfl ?_
          refine S_iconst dX1_raise_55 rfl ?_
          refine S_iload_n dX1_raise_56 rfl ?_
          refine S_iload_n dX1_raise_57 rfl ?_
          refine S_callS_I dX1_raise_58 [.inl 1, .inl p1, .inl p2] (K_X1_deedOf 1 p1 p2 μ) l_X1_148 yo_X1_deedOf rfl rfl rfl (fun x3 => ?_)
          refine S_callV_V dX1_raise_61 [.inl x3] (K_X1_perform x3 μ) l_X1_152 yo_X1_perform rfl rfl rfl rfl rfl (fun μ4 => ?_)
          refine S_aload_n dX1_raise_64 rfl ?_
          refine S_getR (c1 := 20) dX1_raise_65 rfl fl_X1_33 rfl rfl rfl ?_
          refine S_getR (c1 := 23) dX1_raise_68 rfl fl_X1_156 rfl rfl rfl ?_
          refine S_iload_n dX1_raise_71 rfl ?_
          refine S_iald (N := 6) dX1_raise_72 rfl (by decide) rfl ?_
          exact S_iret dX1_raise_73 rfl rfl
        · refine S_bipush dX1_raise_51 rfl (by decide) ?_
          exact S_iret dX1_raise_53 rfl rfl
      · refine S_bipush dX1_raise_39 rfl (by decide) ?_
        exact S_iret dX1_raise_41 rfl rfl
    · refine S_iconst dX1_raise_21 rfl ?_
      exact S_iret dX1_raise_22 rfl rfl
def fX1_shame (p1 : Int) (p2 : Int) (μ : Mem) : Option (Int × Mem) :=
  (fX0_has 20 p1 μ).bind fun x1 =>
  if x1 = 0 then
    some ((-1), μ)
  else
    (fX1_isWithin p2 1 9 μ).bind fun x2 =>
    if ¬ x2 = 0 then
      grd (0 ≤ p1 ∧ p1 < 6) <|
      if 0 ≤ (w32 ((μ 23 (p1).toNat) - p2)) then
        if (μ 0 8) < 40 then
          (fX1_deedOf 2 p1 p2 μ).bind fun x3 =>
          (fX1_perform x3 μ).bind fun μ4 =>
          grd (0 ≤ p1 ∧ p1 < 6) <|
          some ((μ4 23 (p1).toNat), μ4)
        else
          some ((-2), μ)
      else
        some ((-4), μ)
    else
      some ((-1), μ)
theorem K_X1_shame  (p1 : Int) (p2 : Int)  (μ : Mem) : Con yX1_shame cX1_shame 3 (some .int) 9 [.inr (.inr 0), .inl p1, .inl p2] μ (fX1_shame p1 p2 μ) wI := by
  refine con_of (own := RX1) (by decide) rfl (Nat.le_of_ble_eq_true rfl) ?_
  show Sim cX1_shame 3 RX1 (9) (some .int) wI 0 [(0, .inr (.inr 0)), (1, .inl p1), (2, .inl p2)] [] μ (fX1_shame p1 p2 μ)
  unfold fX1_shame
  refine S_aload_n dX1_shame_0 rfl ?_
  refine S_getR (c1 := 20) dX1_shame_1 rfl fl_X1_33 rfl rfl rfl ?_
  refine S_iload_n dX1_shame_4 rfl ?_
  refine S_callW_I dX1_shame_5 [.inl p1] (K_X0_has (by unfold isBk; decide) p1 μ) l_X1_125 yo_X0_has rfl rfl rfl rfl rfl (fun x1 => ?_)
  refine S_if_eq (tgt := 21) dX1_shame_8 (by decide) (fun h8 => ?_) (fun h8 => ?_)
  · refine S_iconst dX1_shame_21 rfl ?_
    exact S_iret dX1_shame_22 rfl rfl
  · refine S_iload_n dX1_shame_11 rfl ?_
    refine S_iconst dX1_shame_12 rfl ?_
    refine S_bipush dX1_shame_13 rfl (by decide) ?_
    refine S_callS_I dX1_shame_15 [.inl p2, .inl 1, .inl 9] (K_X1_isWithin p2 1 9 μ) l_X1_128 yo_X1_isWithin rfl rfl rfl (fun x2 => ?_)
    refine S_if_ne (tgt := 23) dX1_shame_18 (by decide) (fun h7 => ?_) (fun h7 => ?_)
    · refine S_aload_n dX1_shame_23 rfl ?_
      refine S_getR (c1 := 20) dX1_shame_24 rfl fl_X1_33 rfl rfl rfl ?_
      refine S_getR (c1 := 23) dX1_shame_27 rfl fl_X1_156 rfl rfl rfl ?_
      refine S_iload_n dX1_shame_30 rfl ?_
      refine S_iald (N := 6) dX1_shame_31 rfl (by decide) rfl ?_
      refine S_iload_n dX1_shame_32 rfl ?_
      refine S_isub dX1_shame_33 ?_
      refine S_if_ge (tgt := 40) dX1_shame_34 (by decide) (fun h6 => ?_) (fun h6 => ?_)
      · refine S_aload_n dX1_shame_40 rfl ?_
        refine S_getI dX1_shame_41 rfl fl_X1_42 rfl rfl ?_
        refine S_bipush dX1_shame_44 rfl (by decide) ?_
        refine S_ic_lt (tgt := 52) dX1_shame_46 (by decide) (fun h5 => ?_) (fun h5 => ?_)
        · refine S_aload_n dX1_shame_52 rfl ?_
          refine S_iconst dX1_shame_53 rfl ?_
          refine S_iload_n dX1_shame_54 rfl ?_
          refine S_iload_n dX1_shame_55 rfl ?_
          refine S_callS_I dX1_shame_56 [.inl 2, .inl p1, .inl p2] (K_X1_deedOf 2 p1 p2 μ) l_X1_148 yo_X1_deedOf rfl rfl rfl (fun x3 => ?_)
          refine S_callV_V dX1_shame_59 [.inl x3] (K_X1_perform x3 μ) l_X1_152 yo_X1_perform rfl rfl rfl rfl rfl (fun μ4 => ?_)
          refine S_aload_n dX1_shame_62 rfl ?_
          refine S_getR (c1 := 20) dX1_shame_63 rfl fl_X1_33 rfl rfl rfl ?_
          refine S_getR (c1 := 23) dX1_shame_66 rfl fl_X1_156 rfl rfl rfl ?_
          refine S_iload_n dX1_shame_69 rfl ?_
          refine S_iald (N := 6) dX1_shame_70 rfl (by decide) rfl ?_
          exact S_iret dX1_shame_71 rfl rfl
        · refine S_bipush dX1_shame_49 rfl (by decide) ?_
          exact S_iret dX1_shame_51 rfl rfl
      · refine S_bipush dX1_shame_37 rfl (by decide) ?_
        exact S_iret dX1_shame_39 rfl rfl
    · refine S_iconst dX1_shame_21 rfl ?_
      exact S_iret dX1_shame_22 rfl rfl
def fX1_isPlace (p1 : Int) (μ : Mem) : Option Int :=
  mlet (
    some 0
    : Option Int) fun (K1 : Option Int) =>
  if p1 < 0 then
    K1
  else
    if 9 < p1 then
      K1
    else
      some 1
theorem K_X1_isPlace  (p1 : Int)  (μ : Mem) : Con yX1_isPlace cX1_isPlace 1 (some .boolean) 2 [.inl p1] μ (fX1_isPlace p1 μ) (rI μ) := by
  refine con_of (own := RX1) (by decide) rfl (Nat.le_of_ble_eq_true rfl) ?_
  show Sim cX1_isPlace 1 RX1 (2) (some .boolean) (rI μ) 0 [(0, .inl p1)] [] μ (fX1_isPlace p1 μ)
  unfold fX1_isPlace
  refine S_iload_n dX1_isPlace_0 rfl ?_
  refine S_jn (fun (K1 : Option Int) => Sim cX1_isPlace 1 RX1 (2) (some .boolean) (rI μ) 14 [] [] μ K1) ?_ (fun K1 hK1 => ?_)
  · skip
    refine S_iconst dX1_isPlace_14 rfl ?_
    exact S_zret dX1_isPlace_15 rfl (by decide) rfl
  refine S_if_lt (tgt := 14) dX1_isPlace_1 (by decide) (fun h3 => ?_) (fun h3 => ?_)
  · exact S_sub [] rfl (hK1)
  · refine S_iload_n dX1_isPlace_4 rfl ?_
    refine S_bipush dX1_isPlace_5 rfl (by decide) ?_
    refine S_ic_gt (tgt := 14) dX1_isPlace_7 (by decide) (fun h2 => ?_) (fun h2 => ?_)
    · exact S_sub [] rfl (hK1)
    · refine S_iconst dX1_isPlace_10 rfl ?_
      refine S_goto (tgt := 15) dX1_isPlace_11 (by decide) ?_
      exact S_zret dX1_isPlace_15 rfl (by decide) rfl
def fX1_door (p1 : Int) (p2 : Int) (μ : Mem) : Option (Int × Mem) :=
  (fX0_has 20 p1 μ).bind fun x1 =>
  if x1 = 0 then
    some ((-1), μ)
  else
    (fX1_isPlace p2 μ).bind fun x2 =>
    if ¬ x2 = 0 then
      grd (0 ≤ p1 ∧ p1 < 6) <|
      mlet ((μ 22 (p1).toNat)) fun x3 =>
      if ¬ x3 = p2 then
        if (μ 0 8) < 40 then
          (fX1_deedOf 3 p1 p2 μ).bind fun x4 =>
          (fX1_perform x4 μ).bind fun μ5 =>
          some (x3, μ5)
        else
          some ((-2), μ)
      else
        some ((-4), μ)
    else
      some ((-1), μ)
theorem K_X1_door  (p1 : Int) (p2 : Int)  (μ : Mem) : Con yX1_door cX1_door 4 (some .int) 9 [.inr (.inr 0), .inl p1, .inl p2] μ (fX1_door p1 p2 μ) wI := by
  refine con_of (own := RX1) (by decide) rfl (Nat.le_of_ble_eq_true rfl) ?_
  show Sim cX1_door 4 RX1 (9) (some .int) wI 0 [(0, .inr (.inr 0)), (1, .inl p1), (2, .inl p2)] [] μ (fX1_door p1 p2 μ)
  unfold fX1_door
  refine S_aload_n dX1_door_0 rfl ?_
  refine S_getR (c1 := 20) dX1_door_1 rfl fl_X1_33 rfl rfl rfl ?_
  refine S_iload_n dX1_door_4 rfl ?_
  refine S_callW_I dX1_door_5 [.inl p1] (K_X0_has (by unfold isBk; decide) p1 μ) l_X1_125 yo_X0_has rfl rfl rfl rfl rfl (fun x1 => ?_)
  refine S_if_eq (tgt := 18) dX1_door_8 (by decide) (fun h9 => ?_) (fun h9 => ?_)
  · refine S_iconst dX1_door_18 rfl ?_
    exact S_iret dX1_door_19 rfl rfl
  · refine S_iload_n dX1_door_11 rfl ?_
    refine S_callS_I dX1_door_12 [.inl p2] (K_X1_isPlace p2 μ) l_X1_159 yo_X1_isPlace rfl rfl rfl (fun x2 => ?_)
    refine S_if_ne (tgt := 20) dX1_door_15 (by decide) (fun h8 => ?_) (fun h8 => ?_)
    · refine S_aload_n dX1_door_20 rfl ?_
      refine S_getR (c1 := 20) dX1_door_21 rfl fl_X1_33 rfl rfl rfl ?_
      refine S_getR (c1 := 22) dX1_door_24 rfl fl_X1_162 rfl rfl rfl ?_
      refine S_iload_n dX1_door_27 rfl ?_
      refine S_iald (N := 6) dX1_door_28 rfl (by decide) rfl ?_
      refine S_let (fun x3 => ?_)
      refine S_istore_n (lv' := [(3, .inl x3), (0, .inr (.inr 0)), (1, .inl p1), (2, .inl p2)]) dX1_door_29 rfl rfl ?_
      refine S_iload_n dX1_door_30 rfl ?_
      refine S_iload_n dX1_door_31 rfl ?_
      refine S_ic_ne (tgt := 38) dX1_door_32 (by decide) (fun h7 => ?_) (fun h7 => ?_)
      · refine S_aload_n dX1_door_38 rfl ?_
        refine S_getI dX1_door_39 rfl fl_X1_42 rfl rfl ?_
        refine S_bipush dX1_door_42 rfl (by decide) ?_
        refine S_ic_lt (tgt := 50) dX1_door_44 (by decide) (fun h6 => ?_) (fun h6 => ?_)
        · refine S_aload_n dX1_door_50 rfl ?_
          refine S_iconst dX1_door_51 rfl ?_
          refine S_iload_n dX1_door_52 rfl ?_
          refine S_iload_n dX1_door_53 rfl ?_
          refine S_callS_I dX1_door_54 [.inl 3, .inl p1, .inl p2] (K_X1_deedOf 3 p1 p2 μ) l_X1_148 yo_X1_deedOf rfl rfl rfl (fun x4 => ?_)
          refine S_callV_V dX1_door_57 [.inl x4] (K_X1_perform x4 μ) l_X1_152 yo_X1_perform rfl rfl rfl rfl rfl (fun μ5 => ?_)
          refine S_iload_n dX1_door_60 rfl ?_
          exact S_iret dX1_door_61 rfl rfl
        · refine S_bipush dX1_door_47 rfl (by decide) ?_
          exact S_iret dX1_door_49 rfl rfl
      · refine S_bipush dX1_door_35 rfl (by decide) ?_
        exact S_iret dX1_door_37 rfl rfl
    · refine S_iconst dX1_door_18 rfl ?_
      exact S_iret dX1_door_19 rfl rfl
def fX1_performAgain_L13 : Nat → Int → Mem → Option Mem
  | 0, _, _ => none
  | n4 + 1, x2, μ3 =>
    if (μ3 0 8) ≤ x2 then
      some μ3
    else
      grd (0 ≤ x2 ∧ x2 < 40) <|
      (fX0_undergo 20 (μ3 30 (x2).toNat) μ3).bind fun μ5 =>
      mlet (w32 (x2 + 1)) fun x6 =>
      fX1_performAgain_L13 n4 x6 μ5
def fX1_performAgain (μ : Mem) : Option Mem :=
  (fX0_become 20 15 μ).bind fun μ1 =>
  fX1_performAgain_L13 fuel 0 μ1
theorem K_X1_performAgain    (μ : Mem) : Con yX1_performAgain cX1_performAgain 2 (none) 8 [.inr (.inr 0)] μ (fX1_performAgain  μ) wV := by
  refine con_of (own := RX1) (by decide) rfl (Nat.le_of_ble_eq_true rfl) ?_
  show Sim cX1_performAgain 2 RX1 (8) (none) wV 0 [(0, .inr (.inr 0))] [] μ (fX1_performAgain  μ)
  unfold fX1_performAgain
  refine S_aload_n dX1_performAgain_0 rfl ?_
  refine S_getR (c1 := 20) dX1_performAgain_1 rfl fl_X1_33 rfl rfl rfl ?_
  refine S_aload_n dX1_performAgain_4 rfl ?_
  refine S_getR (c1 := 15) dX1_performAgain_5 rfl fl_X1_29 rfl rfl rfl ?_
  refine S_callW_V dX1_performAgain_8 [.inr (.inr 15)] (K_X0_become (by unfold isBk; decide) (by unfold isBk; decide) μ) l_X1_118 yo_X0_become rfl rfl rfl rfl rfl (fun μ1 => ?_)
  refine S_iconst dX1_performAgain_11 rfl ?_
  refine S_istore_n (lv' := [(1, .inl 0), (0, .inr (.inr 0))]) dX1_performAgain_12 rfl rfl ?_
  have hL13 : ∀ (n4 : Nat) (x2 : Int) (μ3 : Mem), Sim cX1_performAgain 2 RX1 (8) (none) wV 13 [(0, .inr (.inr 0)), (1, .inl x2)] [] μ3 (fX1_performAgain_L13 n4 x2 μ3) := by
    intro n4
    induction n4 with
    | zero =>
      intro x2 μ3
      exact S_none rfl
    | succ n4 ih =>
      intro x2 μ3
      rw [fX1_performAgain_L13]
      refine S_iload_n dX1_performAgain_13 rfl ?_
      refine S_aload_n dX1_performAgain_14 rfl ?_
      refine S_getI dX1_performAgain_15 rfl fl_X1_42 rfl rfl ?_
      refine S_ic_ge (tgt := 40) dX1_performAgain_18 (by decide) (fun h7 => ?_) (fun h7 => ?_)
      · exact S_vret dX1_performAgain_40 rfl rfl
      · refine S_aload_n dX1_performAgain_21 rfl ?_
        refine S_getR (c1 := 20) dX1_performAgain_22 rfl fl_X1_33 rfl rfl rfl ?_
        refine S_aload_n dX1_performAgain_25 rfl ?_
        refine S_getR (c1 := 30) dX1_performAgain_26 rfl fl_X1_39 rfl rfl rfl ?_
        refine S_iload_n dX1_performAgain_29 rfl ?_
        refine S_iald (N := 40) dX1_performAgain_30 rfl (by decide) rfl ?_
        refine S_callW_V dX1_performAgain_31 [.inl (μ3 30 (x2).toNat)] (K_X0_undergo (by unfold isBk; decide) (μ3 30 (x2).toNat) μ3) l_X1_293 yo_X0_undergo rfl rfl rfl rfl rfl (fun μ5 => ?_)
        refine S_iinc (lv' := fun x6 => [(1, .inl x6), (0, .inr (.inr 0))]) dX1_performAgain_34 rfl rfl rfl (fun _ => rfl) (fun x6 => ?_)
        refine S_goto (tgt := 13) dX1_performAgain_37 (by decide) ?_
        exact S_sub [1, 0] rfl (ih x6 μ5)
  exact S_sub [1, 0] rfl (hL13 fuel 0 μ1)
def fX1_undo (p1 : Int) (μ : Mem) : Option (Int × Mem) :=
  (fX1_isWithin p1 0 (μ 0 8) μ).bind fun x1 =>
  if ¬ x1 = 0 then
    mlet ((w32 ((μ 0 8) - p1))) fun x2 =>
    mlet (wr μ 0 8 p1) fun μ3 =>
    (fX1_performAgain μ3).bind fun μ4 =>
    some (x2, μ4)
  else
    some ((-1), μ)
theorem K_X1_undo  (p1 : Int)  (μ : Mem) : Con yX1_undo cX1_undo 3 (some .int) 9 [.inr (.inr 0), .inl p1] μ (fX1_undo p1 μ) wI := by
  refine con_of (own := RX1) (by decide) rfl (Nat.le_of_ble_eq_true rfl) ?_
  show Sim cX1_undo 3 RX1 (9) (some .int) wI 0 [(0, .inr (.inr 0)), (1, .inl p1)] [] μ (fX1_undo p1 μ)
  unfold fX1_undo
  refine S_iload_n dX1_undo_0 rfl ?_
  refine S_iconst dX1_undo_1 rfl ?_
  refine S_aload_n dX1_undo_2 rfl ?_
  refine S_getI dX1_undo_3 rfl fl_X1_42 rfl rfl ?_
  refine S_callS_I dX1_undo_6 [.inl p1, .inl 0, .inl (μ 0 8)] (K_X1_isWithin p1 0 (μ 0 8) μ) l_X1_128 yo_X1_isWithin rfl rfl rfl (fun x1 => ?_)
  refine S_if_ne (tgt := 14) dX1_undo_9 (by decide) (fun h5 => ?_) (fun h5 => ?_)
  · refine S_aload_n dX1_undo_14 rfl ?_
    refine S_getI dX1_undo_15 rfl fl_X1_42 rfl rfl ?_
    refine S_iload_n dX1_undo_18 rfl ?_
    refine S_isub dX1_undo_19 ?_
    refine S_let (fun x2 => ?_)
    refine S_istore_n (lv' := [(2, .inl x2), (0, .inr (.inr 0)), (1, .inl p1)]) dX1_undo_20 rfl rfl ?_
    refine S_aload_n dX1_undo_21 rfl ?_
    refine S_iload_n dX1_undo_22 rfl ?_
    refine S_putI dX1_undo_23 rfl fl_X1_42 rfl rfl rfl rfl (fun μ3 => ?_)
    refine S_aload_n dX1_undo_26 rfl ?_
    refine S_callV_V dX1_undo_27 [] (K_X1_performAgain μ3) l_X1_165 yo_X1_performAgain rfl rfl rfl rfl rfl (fun μ4 => ?_)
    refine S_iload_n dX1_undo_30 rfl ?_
    exact S_iret dX1_undo_31 rfl rfl
  · refine S_iconst dX1_undo_12 rfl ?_
    exact S_iret dX1_undo_13 rfl rfl
def fX1_isKept (p1 : Int) (μ : Mem) : Option Int :=
  mlet (
    some 0
    : Option Int) fun (K1 : Option Int) =>
  if p1 < 0 then
    K1
  else
    if 3 ≤ p1 then
      K1
    else
      some 1
theorem K_X1_isKept  (p1 : Int)  (μ : Mem) : Con yX1_isKept cX1_isKept 1 (some .boolean) 2 [.inl p1] μ (fX1_isKept p1 μ) (rI μ) := by
  refine con_of (own := RX1) (by decide) rfl (Nat.le_of_ble_eq_true rfl) ?_
  show Sim cX1_isKept 1 RX1 (2) (some .boolean) (rI μ) 0 [(0, .inl p1)] [] μ (fX1_isKept p1 μ)
  unfold fX1_isKept
  refine S_iload_n dX1_isKept_0 rfl ?_
  refine S_jn (fun (K1 : Option Int) => Sim cX1_isKept 1 RX1 (2) (some .boolean) (rI μ) 13 [] [] μ K1) ?_ (fun K1 hK1 => ?_)
  · skip
    refine S_iconst dX1_isKept_13 rfl ?_
    exact S_zret dX1_isKept_14 rfl (by decide) rfl
  refine S_if_lt (tgt := 13) dX1_isKept_1 (by decide) (fun h3 => ?_) (fun h3 => ?_)
  · exact S_sub [] rfl (hK1)
  · refine S_iload_n dX1_isKept_4 rfl ?_
    refine S_iconst dX1_isKept_5 rfl ?_
    refine S_ic_ge (tgt := 13) dX1_isKept_6 (by decide) (fun h2 => ?_) (fun h2 => ?_)
    · exact S_sub [] rfl (hK1)
    · refine S_iconst dX1_isKept_9 rfl ?_
      refine S_goto (tgt := 14) dX1_isKept_10 (by decide) ?_
      exact S_zret dX1_isKept_14 rfl (by decide) rfl
def fX1_keep (p1 : Int) (μ : Mem) : Option (Int × Mem) :=
  (fX1_isKept p1 μ).bind fun x1 =>
  if ¬ x1 = 0 then
    if ¬ (μ 20 4) = 0 then
      grd (0 ≤ p1 ∧ p1 < 3) <|
      mlet (32 + (p1).toNat) fun c2 =>
      grd (0 ≤ (0 : Int) ∧ 0 ≤ (0 : Int) ∧ 0 ≤ (μ 0 8) ∧ (0 : Int) + (μ 0 8) ≤ 40 ∧ (0 : Int) + (μ 0 8) ≤ 40) <|
      mlet (cpy μ 30 ((0 : Int)).toNat c2 ((0 : Int)).toNat ((μ 0 8)).toNat) fun μ3 =>
      grd (0 ≤ p1 ∧ p1 < 3) <|
      mlet (wr μ3 35 (p1).toNat (μ3 0 8)) fun μ4 =>
      some ((μ4 0 8), μ4)
    else
      some ((-4), μ)
  else
    some ((-1), μ)
theorem K_X1_keep  (p1 : Int)  (μ : Mem) : Con yX1_keep cX1_keep 2 (some .int) 3 [.inr (.inr 0), .inl p1] μ (fX1_keep p1 μ) wI := by
  refine con_of (own := RX1) (by decide) rfl (Nat.le_of_ble_eq_true rfl) ?_
  show Sim cX1_keep 2 RX1 (3) (some .int) wI 0 [(0, .inr (.inr 0)), (1, .inl p1)] [] μ (fX1_keep p1 μ)
  unfold fX1_keep
  refine S_iload_n dX1_keep_0 rfl ?_
  refine S_callS_I dX1_keep_1 [.inl p1] (K_X1_isKept p1 μ) l_X1_168 yo_X1_isKept rfl rfl rfl (fun x1 => ?_)
  refine S_if_ne (tgt := 9) dX1_keep_4 (by decide) (fun h6 => ?_) (fun h6 => ?_)
  · refine S_aload_n dX1_keep_9 rfl ?_
    refine S_getR (c1 := 20) dX1_keep_10 rfl fl_X1_33 rfl rfl rfl ?_
    refine S_getI dX1_keep_13 rfl fl_X1_122 rfl rfl ?_
    refine S_if_ne (tgt := 22) dX1_keep_16 (by decide) (fun h5 => ?_) (fun h5 => ?_)
    · refine S_aload_n dX1_keep_22 rfl ?_
      refine S_getR (c1 := 30) dX1_keep_23 rfl fl_X1_39 rfl rfl rfl ?_
      refine S_iconst dX1_keep_26 rfl ?_
      refine S_aload_n dX1_keep_27 rfl ?_
      refine S_getR (c1 := 31) dX1_keep_28 rfl fl_X1_46 rfl rfl rfl ?_
      refine S_iload_n dX1_keep_31 rfl ?_
      refine S_aald (N := 3) (c1 := 32) (c2 := 35) dX1_keep_32 rfl (by decide) (by decide) rfl rfl rfl (fun c2 hc2 => ?_)
      refine S_iconst dX1_keep_33 rfl ?_
      refine S_aload_n dX1_keep_34 rfl ?_
      refine S_getI dX1_keep_35 rfl fl_X1_42 rfl rfl ?_
      refine S_acopy (N0 := 40) (N1 := 40) dX1_keep_38 jl_X1_102 jm_an jm_as jm_S rfl (by decide) (kd_kept hc2) (fam_lt hc2 (by decide)) rfl rfl rfl rfl jm_w (fun μ3 => ?_)
      refine S_aload_n dX1_keep_41 rfl ?_
      refine S_getR (c1 := 35) dX1_keep_42 rfl fl_X1_49 rfl rfl rfl ?_
      refine S_iload_n dX1_keep_45 rfl ?_
      refine S_aload_n dX1_keep_46 rfl ?_
      refine S_getI dX1_keep_47 rfl fl_X1_42 rfl rfl ?_
      refine S_iast (N := 3) dX1_keep_50 rfl (by decide) rfl (fun μ4 => ?_)
      refine S_aload_n dX1_keep_51 rfl ?_
      refine S_getI dX1_keep_52 rfl fl_X1_42 rfl rfl ?_
      exact S_iret dX1_keep_55 rfl rfl
    · refine S_bipush dX1_keep_19 rfl (by decide) ?_
      exact S_iret dX1_keep_21 rfl rfl
  · refine S_iconst dX1_keep_7 rfl ?_
    exact S_iret dX1_keep_8 rfl rfl
def fX1_on (p1 : Int) (μ : Mem) : Option (Int × Mem) :=
  (fX1_isKept p1 μ).bind fun x1 =>
  if ¬ x1 = 0 then
    grd (0 ≤ p1 ∧ p1 < 3) <|
    if 0 ≤ (μ 35 (p1).toNat) then
      grd (0 ≤ p1 ∧ p1 < 3) <|
      mlet (wr μ 0 8 (μ 35 (p1).toNat)) fun μ2 =>
      grd (0 ≤ p1 ∧ p1 < 3) <|
      mlet (32 + (p1).toNat) fun c3 =>
      grd (0 ≤ (0 : Int) ∧ 0 ≤ (0 : Int) ∧ 0 ≤ (μ2 0 8) ∧ (0 : Int) + (μ2 0 8) ≤ 40 ∧ (0 : Int) + (μ2 0 8) ≤ 40) <|
      mlet (cpy μ2 c3 ((0 : Int)).toNat 30 ((0 : Int)).toNat ((μ2 0 8)).toNat) fun μ4 =>
      (fX1_performAgain μ4).bind fun μ5 =>
      some ((μ5 0 8), μ5)
    else
      bnd2 (fX1_found 1 μ) fun x6 μ7 =>
      some (x6, μ7)
  else
    some ((-1), μ)
theorem K_X1_on  (p1 : Int)  (μ : Mem) : Con yX1_on cX1_on 2 (some .int) 9 [.inr (.inr 0), .inl p1] μ (fX1_on p1 μ) wI := by
  refine con_of (own := RX1) (by decide) rfl (Nat.le_of_ble_eq_true rfl) ?_
  show Sim cX1_on 2 RX1 (9) (some .int) wI 0 [(0, .inr (.inr 0)), (1, .inl p1)] [] μ (fX1_on p1 μ)
  unfold fX1_on
  refine S_iload_n dX1_on_0 rfl ?_
  refine S_callS_I dX1_on_1 [.inl p1] (K_X1_isKept p1 μ) l_X1_168 yo_X1_isKept rfl rfl rfl (fun x1 => ?_)
  refine S_if_ne (tgt := 9) dX1_on_4 (by decide) (fun h9 => ?_) (fun h9 => ?_)
  · refine S_aload_n dX1_on_9 rfl ?_
    refine S_getR (c1 := 35) dX1_on_10 rfl fl_X1_49 rfl rfl rfl ?_
    refine S_iload_n dX1_on_13 rfl ?_
    refine S_iald (N := 3) dX1_on_14 rfl (by decide) rfl ?_
    refine S_if_ge (tgt := 24) dX1_on_15 (by decide) (fun h8 => ?_) (fun h8 => ?_)
    · refine S_aload_n dX1_on_24 rfl ?_
      refine S_aload_n dX1_on_25 rfl ?_
      refine S_getR (c1 := 35) dX1_on_26 rfl fl_X1_49 rfl rfl rfl ?_
      refine S_iload_n dX1_on_29 rfl ?_
      refine S_iald (N := 3) dX1_on_30 rfl (by decide) rfl ?_
      refine S_putI dX1_on_31 rfl fl_X1_42 rfl rfl rfl rfl (fun μ2 => ?_)
      refine S_aload_n dX1_on_34 rfl ?_
      refine S_getR (c1 := 31) dX1_on_35 rfl fl_X1_46 rfl rfl rfl ?_
      refine S_iload_n dX1_on_38 rfl ?_
      refine S_aald (N := 3) (c1 := 32) (c2 := 35) dX1_on_39 rfl (by decide) (by decide) rfl rfl rfl (fun c3 hc3 => ?_)
      refine S_iconst dX1_on_40 rfl ?_
      refine S_aload_n dX1_on_41 rfl ?_
      refine S_getR (c1 := 30) dX1_on_42 rfl fl_X1_39 rfl rfl rfl ?_
      refine S_iconst dX1_on_45 rfl ?_
      refine S_aload_n dX1_on_46 rfl ?_
      refine S_getI dX1_on_47 rfl fl_X1_42 rfl rfl ?_
      refine S_acopy (N0 := 40) (N1 := 40) dX1_on_50 jl_X1_102 jm_an jm_as jm_S (kd_kept hc3) (fam_lt hc3 (by decide)) rfl (by decide) rfl rfl rfl rfl jm_w (fun μ4 => ?_)
      refine S_aload_n dX1_on_53 rfl ?_
      refine S_callV_V dX1_on_54 [] (K_X1_performAgain μ4) l_X1_165 yo_X1_performAgain rfl rfl rfl rfl rfl (fun μ5 => ?_)
      refine S_aload_n dX1_on_57 rfl ?_
      refine S_getI dX1_on_58 rfl fl_X1_42 rfl rfl ?_
      exact S_iret dX1_on_61 rfl rfl
    · refine S_aload_n dX1_on_18 rfl ?_
      refine S_iconst dX1_on_19 rfl ?_
      refine S_callV_M2 dX1_on_20 [.inl 1] (K_X1_found 1 μ) l_X1_87 yo_X1_found rfl rfl rfl rfl rfl (fun x6 μ7 => ?_)
      exact S_iret dX1_on_23 rfl rfl
  · refine S_iconst dX1_on_7 rfl ?_
    exact S_iret dX1_on_8 rfl rfl
def fX1_dares (p1 : Int) (p2 : Int) (p3 : Int) (p4 : Int) (μ : Mem) : Option Int :=
  (fX0_has 20 p1 μ).bind fun x1 =>
  if x1 = 0 then
    some (-1)
  else
    (fX1_isWithin p2 0 20 μ).bind fun x2 =>
    if ¬ x2 = 0 then
      (fX1_isWithin p3 0 99 μ).bind fun x3 =>
      if x3 = 0 then
        some (-1)
      else
        (fX1_isWithin p4 0 9 μ).bind fun x4 =>
        if ¬ x4 = 0 then
          grd (0 ≤ p1 ∧ p1 < 6) <|
          (fX1_boldness (μ 21 (p1).toNat) p2 p3 p4 μ).bind fun x5 =>
          some x5
        else
          some (-1)
    else
      some (-1)
theorem K_X1_dares  (p1 : Int) (p2 : Int) (p3 : Int) (p4 : Int)  (μ : Mem) : Con yX1_dares cX1_dares 5 (some .int) 4 [.inr (.inr 0), .inl p1, .inl p2, .inl p3, .inl p4] μ (fX1_dares p1 p2 p3 p4 μ) (rI μ) := by
  refine con_of (own := RX1) (by decide) rfl (Nat.le_of_ble_eq_true rfl) ?_
  show Sim cX1_dares 5 RX1 (4) (some .int) (rI μ) 0 [(0, .inr (.inr 0)), (1, .inl p1), (2, .inl p2), (3, .inl p3), (4, .inl p4)] [] μ (fX1_dares p1 p2 p3 p4 μ)
  unfold fX1_dares
  refine S_aload_n dX1_dares_0 rfl ?_
  refine S_getR (c1 := 20) dX1_dares_1 rfl fl_X1_33 rfl rfl rfl ?_
  refine S_iload_n dX1_dares_4 rfl ?_
  refine S_callW_I dX1_dares_5 [.inl p1] (K_X0_has (by unfold isBk; decide) p1 μ) l_X1_125 yo_X0_has rfl rfl rfl rfl rfl (fun x1 => ?_)
  refine S_if_eq (tgt := 21) dX1_dares_8 (by decide) (fun h9 => ?_) (fun h9 => ?_)
  · refine S_iconst dX1_dares_21 rfl ?_
    exact S_iret dX1_dares_22 rfl rfl
  · refine S_iload_n dX1_dares_11 rfl ?_
    refine S_iconst dX1_dares_12 rfl ?_
    refine S_bipush dX1_dares_13 rfl (by decide) ?_
    refine S_callS_I dX1_dares_15 [.inl p2, .inl 0, .inl 20] (K_X1_isWithin p2 0 20 μ) l_X1_128 yo_X1_isWithin rfl rfl rfl (fun x2 => ?_)
    refine S_if_ne (tgt := 23) dX1_dares_18 (by decide) (fun h8 => ?_) (fun h8 => ?_)
    · refine S_iload_n dX1_dares_23 rfl ?_
      refine S_iconst dX1_dares_24 rfl ?_
      refine S_bipush dX1_dares_25 rfl (by decide) ?_
      refine S_callS_I dX1_dares_27 [.inl p3, .inl 0, .inl 99] (K_X1_isWithin p3 0 99 μ) l_X1_128 yo_X1_isWithin rfl rfl rfl (fun x3 => ?_)
      refine S_if_eq (tgt := 44) dX1_dares_30 (by decide) (fun h7 => ?_) (fun h7 => ?_)
      · refine S_iconst dX1_dares_44 rfl ?_
        exact S_iret dX1_dares_45 rfl rfl
      · refine S_iload dX1_dares_33 rfl ?_
        refine S_iconst dX1_dares_35 rfl ?_
        refine S_bipush dX1_dares_36 rfl (by decide) ?_
        refine S_callS_I dX1_dares_38 [.inl p4, .inl 0, .inl 9] (K_X1_isWithin p4 0 9 μ) l_X1_128 yo_X1_isWithin rfl rfl rfl (fun x4 => ?_)
        refine S_if_ne (tgt := 46) dX1_dares_41 (by decide) (fun h6 => ?_) (fun h6 => ?_)
        · refine S_aload_n dX1_dares_46 rfl ?_
          refine S_getR (c1 := 20) dX1_dares_47 rfl fl_X1_33 rfl rfl rfl ?_
          refine S_getR (c1 := 21) dX1_dares_50 rfl fl_X1_135 rfl rfl rfl ?_
          refine S_iload_n dX1_dares_53 rfl ?_
          refine S_iald (N := 6) dX1_dares_54 rfl (by decide) rfl ?_
          refine S_iload_n dX1_dares_55 rfl ?_
          refine S_iload_n dX1_dares_56 rfl ?_
          refine S_iload dX1_dares_57 rfl ?_
          refine S_callS_I dX1_dares_59 [.inl (μ 21 (p1).toNat), .inl p2, .inl p3, .inl p4] (K_X1_boldness (μ 21 (p1).toNat) p2 p3 p4 μ) l_X1_171 yo_X1_boldness rfl rfl rfl (fun x5 => ?_)
          exact S_iret dX1_dares_62 rfl rfl
        · refine S_iconst dX1_dares_44 rfl ?_
          exact S_iret dX1_dares_45 rfl rfl
    · refine S_iconst dX1_dares_21 rfl ?_
      exact S_iret dX1_dares_22 rfl rfl
def fX1_holderAside_L5 (p1 : Int) : Nat → Int → Int → Mem → Option (Int × Mem)
  | 0, _, _, _ => none
  | n4 + 1, x1, x2, μ3 =>
    if p1 ≤ x2 then
      some (x1, μ3)
    else
      bnd2 (fX0_passNight 25 μ3) fun x5 μ6 =>
      mlet (w32 (x2 + 1)) fun x7 =>
      fX1_holderAside_L5 p1 n4 x5 x7 μ6
def fX1_holderAside (p1 : Int) (μ : Mem) : Option (Int × Mem) :=
  fX1_holderAside_L5 p1 fuel (-9) 0 μ
theorem K_X1_holderAside  (p1 : Int)  (μ : Mem) : Con yX1_holderAside cX1_holderAside 4 (some .int) 7 [.inr (.inr 0), .inl p1] μ (fX1_holderAside p1 μ) wI := by
  refine con_of (own := RX1) (by decide) rfl (Nat.le_of_ble_eq_true rfl) ?_
  show Sim cX1_holderAside 4 RX1 (7) (some .int) wI 0 [(0, .inr (.inr 0)), (1, .inl p1)] [] μ (fX1_holderAside p1 μ)
  unfold fX1_holderAside
  refine S_bipush dX1_holderAside_0 rfl (by decide) ?_
  refine S_istore_n (lv' := [(2, .inl (-9)), (0, .inr (.inr 0)), (1, .inl p1)]) dX1_holderAside_2 rfl rfl ?_
  refine S_iconst dX1_holderAside_3 rfl ?_
  refine S_istore_n (lv' := [(3, .inl 0), (2, .inl (-9)), (0, .inr (.inr 0)), (1, .inl p1)]) dX1_holderAside_4 rfl rfl ?_
  have hL5 : ∀ (n4 : Nat) (x1 : Int) (x2 : Int) (μ3 : Mem), Sim cX1_holderAside 4 RX1 (7) (some .int) wI 5 [(0, .inr (.inr 0)), (1, .inl p1), (2, .inl x1), (3, .inl x2)] [] μ3 (fX1_holderAside_L5 p1 n4 x1 x2 μ3) := by
    intro n4
    induction n4 with
    | zero =>
      intro x1 x2 μ3
      exact S_none rfl
    | succ n4 ih =>
      intro x1 x2 μ3
      rw [fX1_holderAside_L5]
      refine S_iload_n dX1_holderAside_5 rfl ?_
      refine S_iload_n dX1_holderAside_6 rfl ?_
      refine S_ic_ge (tgt := 24) dX1_holderAside_7 (by decide) (fun h8 => ?_) (fun h8 => ?_)
      · refine S_iload_n dX1_holderAside_24 rfl ?_
        exact S_iret dX1_holderAside_25 rfl rfl
      · refine S_aload_n dX1_holderAside_10 rfl ?_
        refine S_getR (c1 := 25) dX1_holderAside_11 rfl fl_X1_36 rfl rfl rfl ?_
        refine S_callW_M2 dX1_holderAside_14 [] (K_X0_passNight (by unfold isBk; decide) μ3) l_X1_184 yo_X0_passNight rfl rfl rfl rfl rfl (fun x5 μ6 => ?_)
        refine S_istore_n (lv' := [(2, .inl x5), (0, .inr (.inr 0)), (1, .inl p1), (3, .inl x2)]) dX1_holderAside_17 rfl rfl ?_
        refine S_iinc (lv' := fun x7 => [(3, .inl x7), (2, .inl x5), (0, .inr (.inr 0)), (1, .inl p1)]) dX1_holderAside_18 rfl rfl rfl (fun _ => rfl) (fun x7 => ?_)
        refine S_goto (tgt := 5) dX1_holderAside_21 (by decide) ?_
        exact S_sub [2, 3, 1, 0] rfl (ih x5 x7 μ6)
  exact S_sub [2, 3, 1, 0] rfl (hL5 fuel (-9) 0 μ)
def fX1_where (p1 : Int) (μ : Mem) : Option (Int × Mem) :=
  (fX1_isWithin p1 0 40 μ).bind fun x1 =>
  if ¬ x1 = 0 then
    if ¬ (μ 20 4) = 0 then
      (fX0_become 25 20 μ).bind fun μ2 =>
      bnd2 (fX1_holderAside p1 μ2) fun x3 μ4 =>
      bnd2 (fX1_tell x3 μ4) fun x5 μ6 =>
      some ((μ6 25 5), μ6)
    else
      some ((-4), μ)
  else
    some ((-1), μ)
theorem K_X1_where  (p1 : Int)  (μ : Mem) : Con yX1_where cX1_where 2 (some .int) 8 [.inr (.inr 0), .inl p1] μ (fX1_where p1 μ) wI := by
  refine con_of (own := RX1) (by decide) rfl (Nat.le_of_ble_eq_true rfl) ?_
  show Sim cX1_where 2 RX1 (8) (some .int) wI 0 [(0, .inr (.inr 0)), (1, .inl p1)] [] μ (fX1_where p1 μ)
  unfold fX1_where
  refine S_iload_n dX1_where_0 rfl ?_
  refine S_iconst dX1_where_1 rfl ?_
  refine S_bipush dX1_where_2 rfl (by decide) ?_
  refine S_callS_I dX1_where_4 [.inl p1, .inl 0, .inl 40] (K_X1_isWithin p1 0 40 μ) l_X1_128 yo_X1_isWithin rfl rfl rfl (fun x1 => ?_)
  refine S_if_ne (tgt := 12) dX1_where_7 (by decide) (fun h8 => ?_) (fun h8 => ?_)
  · refine S_aload_n dX1_where_12 rfl ?_
    refine S_getR (c1 := 20) dX1_where_13 rfl fl_X1_33 rfl rfl rfl ?_
    refine S_getI dX1_where_16 rfl fl_X1_122 rfl rfl ?_
    refine S_if_ne (tgt := 25) dX1_where_19 (by decide) (fun h7 => ?_) (fun h7 => ?_)
    · refine S_aload_n dX1_where_25 rfl ?_
      refine S_getR (c1 := 25) dX1_where_26 rfl fl_X1_36 rfl rfl rfl ?_
      refine S_aload_n dX1_where_29 rfl ?_
      refine S_getR (c1 := 20) dX1_where_30 rfl fl_X1_33 rfl rfl rfl ?_
      refine S_callW_V dX1_where_33 [.inr (.inr 20)] (K_X0_become (by unfold isBk; decide) (by unfold isBk; decide) μ) l_X1_118 yo_X0_become rfl rfl rfl rfl rfl (fun μ2 => ?_)
      refine S_aload_n dX1_where_36 rfl ?_
      refine S_aload_n dX1_where_37 rfl ?_
      refine S_iload_n dX1_where_38 rfl ?_
      refine S_callV_M2 dX1_where_39 [.inl p1] (K_X1_holderAside p1 μ2) l_X1_175 yo_X1_holderAside rfl rfl rfl rfl rfl (fun x3 μ4 => ?_)
      refine S_callV_M2 dX1_where_42 [.inl x3] (K_X1_tell x3 μ4) l_X1_99 yo_X1_tell rfl rfl rfl rfl rfl (fun x5 μ6 => ?_)
      refine S_pop dX1_where_45 rfl ?_
      refine S_aload_n dX1_where_46 rfl ?_
      refine S_getR (c1 := 25) dX1_where_47 rfl fl_X1_36 rfl rfl rfl ?_
      refine S_getI dX1_where_50 rfl fl_X1_178 rfl rfl ?_
      exact S_iret dX1_where_53 rfl rfl
    · refine S_bipush dX1_where_22 rfl (by decide) ?_
      exact S_iret dX1_where_24 rfl rfl
  · refine S_iconst dX1_where_10 rfl ?_
    exact S_iret dX1_where_11 rfl rfl
def fX1_crosses (p1 : Int) (p2 : Int) (μ : Mem) : Option (Int × Mem) :=
  (fX0_has 20 p1 μ).bind fun x1 =>
  if x1 = 0 then
    some ((-1), μ)
  else
    (fX1_isWithin p2 0 40 μ).bind fun x2 =>
    if ¬ x2 = 0 then
      (fX0_become 25 20 μ).bind fun μ3 =>
      bnd2 (fX1_holderAside p2 μ3) fun x4 μ5 =>
      grd (0 ≤ p1 ∧ p1 < 6) <|
      grd (0 ≤ p1 ∧ p1 < 6) <|
      some ((w32 ((μ5 29 (p1).toNat) - (μ5 24 (p1).toNat))), μ5)
    else
      some ((-1), μ)
theorem K_X1_crosses  (p1 : Int) (p2 : Int)  (μ : Mem) : Con yX1_crosses cX1_crosses 3 (some .int) 8 [.inr (.inr 0), .inl p1, .inl p2] μ (fX1_crosses p1 p2 μ) wI := by
  refine con_of (own := RX1) (by decide) rfl (Nat.le_of_ble_eq_true rfl) ?_
  show Sim cX1_crosses 3 RX1 (8) (some .int) wI 0 [(0, .inr (.inr 0)), (1, .inl p1), (2, .inl p2)] [] μ (fX1_crosses p1 p2 μ)
  unfold fX1_crosses
  refine S_aload_n dX1_crosses_0 rfl ?_
  refine S_getR (c1 := 20) dX1_crosses_1 rfl fl_X1_33 rfl rfl rfl ?_
  refine S_iload_n dX1_crosses_4 rfl ?_
  refine S_callW_I dX1_crosses_5 [.inl p1] (K_X0_has (by unfold isBk; decide) p1 μ) l_X1_125 yo_X0_has rfl rfl rfl rfl rfl (fun x1 => ?_)
  refine S_if_eq (tgt := 21) dX1_crosses_8 (by decide) (fun h7 => ?_) (fun h7 => ?_)
  · refine S_iconst dX1_crosses_21 rfl ?_
    exact S_iret dX1_crosses_22 rfl rfl
  · refine S_iload_n dX1_crosses_11 rfl ?_
    refine S_iconst dX1_crosses_12 rfl ?_
    refine S_bipush dX1_crosses_13 rfl (by decide) ?_
    refine S_callS_I dX1_crosses_15 [.inl p2, .inl 0, .inl 40] (K_X1_isWithin p2 0 40 μ) l_X1_128 yo_X1_isWithin rfl rfl rfl (fun x2 => ?_)
    refine S_if_ne (tgt := 23) dX1_crosses_18 (by decide) (fun h6 => ?_) (fun h6 => ?_)
    · refine S_aload_n dX1_crosses_23 rfl ?_
      refine S_getR (c1 := 25) dX1_crosses_24 rfl fl_X1_36 rfl rfl rfl ?_
      refine S_aload_n dX1_crosses_27 rfl ?_
      refine S_getR (c1 := 20) dX1_crosses_28 rfl fl_X1_33 rfl rfl rfl ?_
      refine S_callW_V dX1_crosses_31 [.inr (.inr 20)] (K_X0_become (by unfold isBk; decide) (by unfold isBk; decide) μ) l_X1_118 yo_X0_become rfl rfl rfl rfl rfl (fun μ3 => ?_)
      refine S_aload_n dX1_crosses_34 rfl ?_
      refine S_iload_n dX1_crosses_35 rfl ?_
      refine S_callV_M2 dX1_crosses_36 [.inl p2] (K_X1_holderAside p2 μ3) l_X1_175 yo_X1_holderAside rfl rfl rfl rfl rfl (fun x4 μ5 => ?_)
      refine S_pop dX1_crosses_39 rfl ?_
      refine S_aload_n dX1_crosses_40 rfl ?_
      refine S_getR (c1 := 25) dX1_crosses_41 rfl fl_X1_36 rfl rfl rfl ?_
      refine S_getR (c1 := 29) dX1_crosses_44 rfl fl_X1_181 rfl rfl rfl ?_
      refine S_iload_n dX1_crosses_47 rfl ?_
      refine S_iald (N := 6) dX1_crosses_48 rfl (by decide) rfl ?_
      refine S_aload_n dX1_crosses_49 rfl ?_
      refine S_getR (c1 := 20) dX1_crosses_50 rfl fl_X1_33 rfl rfl rfl ?_
      refine S_getR (c1 := 24) dX1_crosses_53 rfl fl_X1_181 rfl rfl rfl ?_
      refine S_iload_n dX1_crosses_56 rfl ?_
      refine S_iald (N := 6) dX1_crosses_57 rfl (by decide) rfl ?_
      refine S_isub dX1_crosses_58 ?_
      exact S_iret dX1_crosses_59 rfl rfl
    · refine S_iconst dX1_crosses_21 rfl ?_
      exact S_iret dX1_crosses_22 rfl rfl
def fX1_first_L26 (p1 : Int) : Nat → Int → Mem → Option (Int × Mem)
  | 0, _, _ => none
  | n5 + 1, x3, μ4 =>
    if 40 < x3 then
      some ((-9), μ4)
    else
      bnd2 (fX0_passNight 25 μ4) fun x6 μ7 =>
      if ¬ x6 = p1 then
        mlet (w32 (x3 + 1)) fun x8 =>
        fX1_first_L26 p1 n5 x8 μ7
      else
        some (x3, μ7)
def fX1_first (p1 : Int) (μ : Mem) : Option (Int × Mem) :=
  (fX0_has 20 p1 μ).bind fun x1 =>
  if ¬ x1 = 0 then
    (fX0_become 25 20 μ).bind fun μ2 =>
    fX1_first_L26 p1 fuel 1 μ2
  else
    some ((-1), μ)
theorem K_X1_first  (p1 : Int)  (μ : Mem) : Con yX1_first cX1_first 3 (some .int) 7 [.inr (.inr 0), .inl p1] μ (fX1_first p1 μ) wI := by
  refine con_of (own := RX1) (by decide) rfl (Nat.le_of_ble_eq_true rfl) ?_
  show Sim cX1_first 3 RX1 (7) (some .int) wI 0 [(0, .inr (.inr 0)), (1, .inl p1)] [] μ (fX1_first p1 μ)
  unfold fX1_first
  refine S_aload_n dX1_first_0 rfl ?_
  refine S_getR (c1 := 20) dX1_first_1 rfl fl_X1_33 rfl rfl rfl ?_
  refine S_iload_n dX1_first_4 rfl ?_
  refine S_callW_I dX1_first_5 [.inl p1] (K_X0_has (by unfold isBk; decide) p1 μ) l_X1_125 yo_X0_has rfl rfl rfl rfl rfl (fun x1 => ?_)
  refine S_if_ne (tgt := 13) dX1_first_8 (by decide) (fun h11 => ?_) (fun h11 => ?_)
  · refine S_aload_n dX1_first_13 rfl ?_
    refine S_getR (c1 := 25) dX1_first_14 rfl fl_X1_36 rfl rfl rfl ?_
    refine S_aload_n dX1_first_17 rfl ?_
    refine S_getR (c1 := 20) dX1_first_18 rfl fl_X1_33 rfl rfl rfl ?_
    refine S_callW_V dX1_first_21 [.inr (.inr 20)] (K_X0_become (by unfold isBk; decide) (by unfold isBk; decide) μ) l_X1_118 yo_X0_become rfl rfl rfl rfl rfl (fun μ2 => ?_)
    refine S_iconst dX1_first_24 rfl ?_
    refine S_istore_n (lv' := [(2, .inl 1), (0, .inr (.inr 0)), (1, .inl p1)]) dX1_first_25 rfl rfl ?_
    have hL26 : ∀ (n5 : Nat) (x3 : Int) (μ4 : Mem), Sim cX1_first 3 RX1 (7) (some .int) wI 26 [(0, .inr (.inr 0)), (1, .inl p1), (2, .inl x3)] [] μ4 (fX1_first_L26 p1 n5 x3 μ4) := by
      intro n5
      induction n5 with
      | zero =>
        intro x3 μ4
        exact S_none rfl
      | succ n5 ih =>
        intro x3 μ4
        rw [fX1_first_L26]
        refine S_iload_n dX1_first_26 rfl ?_
        refine S_bipush dX1_first_27 rfl (by decide) ?_
        refine S_ic_gt (tgt := 51) dX1_first_29 (by decide) (fun h10 => ?_) (fun h10 => ?_)
        · refine S_bipush dX1_first_51 rfl (by decide) ?_
          exact S_iret dX1_first_53 rfl rfl
        · refine S_aload_n dX1_first_32 rfl ?_
          refine S_getR (c1 := 25) dX1_first_33 rfl fl_X1_36 rfl rfl rfl ?_
          refine S_callW_M2 dX1_first_36 [] (K_X0_passNight (by unfold isBk; decide) μ4) l_X1_184 yo_X0_passNight rfl rfl rfl rfl rfl (fun x6 μ7 => ?_)
          refine S_iload_n dX1_first_39 rfl ?_
          refine S_ic_ne (tgt := 45) dX1_first_40 (by decide) (fun h9 => ?_) (fun h9 => ?_)
          · refine S_iinc (lv' := fun x8 => [(2, .inl x8), (0, .inr (.inr 0)), (1, .inl p1)]) dX1_first_45 rfl rfl rfl (fun _ => rfl) (fun x8 => ?_)
            refine S_goto (tgt := 26) dX1_first_48 (by decide) ?_
            exact S_sub [1, 2, 0] rfl (ih x8 μ7)
          · refine S_iload_n dX1_first_43 rfl ?_
            exact S_iret dX1_first_44 rfl rfl
    exact S_sub [1, 2, 0] rfl (hL26 fuel 1 μ2)
  · refine S_iconst dX1_first_11 rfl ?_
    exact S_iret dX1_first_12 rfl rfl
def fX1_lift_L25 (p1 : Int) (p2 : Int) : Nat → Int → Mem → Option (Int × Mem)
  | 0, _, _ => none
  | n5 + 1, x3, μ4 =>
    grd (0 ≤ p1 ∧ p1 < 6) <|
    if 20 < (w32 ((μ4 23 (p1).toNat) + x3)) then
      some ((-9), μ4)
    else
      (fX0_become 25 20 μ4).bind fun μ6 =>
      grd (0 ≤ p1 ∧ p1 < 6) <|
      grd (0 ≤ p1 ∧ p1 < 6) <|
      mlet (wr μ6 28 (p1).toNat (w32 ((μ6 23 (p1).toNat) + x3))) fun μ7 =>
      bnd2 (fX1_holderAside p2 μ7) fun x8 μ9 =>
      if ¬ x8 = p1 then
        mlet (w32 (x3 + 1)) fun x10 =>
        fX1_lift_L25 p1 p2 n5 x10 μ9
      else
        some (x3, μ9)
def fX1_lift (p1 : Int) (p2 : Int) (μ : Mem) : Option (Int × Mem) :=
  (fX0_has 20 p1 μ).bind fun x1 =>
  if x1 = 0 then
    some ((-1), μ)
  else
    (fX1_isWithin p2 1 20 μ).bind fun x2 =>
    if ¬ x2 = 0 then
      fX1_lift_L25 p1 p2 fuel 0 μ
    else
      some ((-1), μ)
theorem K_X1_lift  (p1 : Int) (p2 : Int)  (μ : Mem) : Con yX1_lift cX1_lift 4 (some .int) 8 [.inr (.inr 0), .inl p1, .inl p2] μ (fX1_lift p1 p2 μ) wI := by
  refine con_of (own := RX1) (by decide) rfl (Nat.le_of_ble_eq_true rfl) ?_
  show Sim cX1_lift 4 RX1 (8) (some .int) wI 0 [(0, .inr (.inr 0)), (1, .inl p1), (2, .inl p2)] [] μ (fX1_lift p1 p2 μ)
  unfold fX1_lift
  refine S_aload_n dX1_lift_0 rfl ?_
  refine S_getR (c1 := 20) dX1_lift_1 rfl fl_X1_33 rfl rfl rfl ?_
  refine S_iload_n dX1_lift_4 rfl ?_
  refine S_callW_I dX1_lift_5 [.inl p1] (K_X0_has (by unfold isBk; decide) p1 μ) l_X1_125 yo_X0_has rfl rfl rfl rfl rfl (fun x1 => ?_)
  refine S_if_eq (tgt := 21) dX1_lift_8 (by decide) (fun h14 => ?_) (fun h14 => ?_)
  · refine S_iconst dX1_lift_21 rfl ?_
    exact S_iret dX1_lift_22 rfl rfl
  · refine S_iload_n dX1_lift_11 rfl ?_
    refine S_iconst dX1_lift_12 rfl ?_
    refine S_bipush dX1_lift_13 rfl (by decide) ?_
    refine S_callS_I dX1_lift_15 [.inl p2, .inl 1, .inl 20] (K_X1_isWithin p2 1 20 μ) l_X1_128 yo_X1_isWithin rfl rfl rfl (fun x2 => ?_)
    refine S_if_ne (tgt := 23) dX1_lift_18 (by decide) (fun h13 => ?_) (fun h13 => ?_)
    · refine S_iconst dX1_lift_23 rfl ?_
      refine S_istore_n (lv' := [(3, .inl 0), (0, .inr (.inr 0)), (1, .inl p1), (2, .inl p2)]) dX1_lift_24 rfl rfl ?_
      have hL25 : ∀ (n5 : Nat) (x3 : Int) (μ4 : Mem), Sim cX1_lift 4 RX1 (8) (some .int) wI 25 [(0, .inr (.inr 0)), (1, .inl p1), (2, .inl p2), (3, .inl x3)] [] μ4 (fX1_lift_L25 p1 p2 n5 x3 μ4) := by
        intro n5
        induction n5 with
        | zero =>
          intro x3 μ4
          exact S_none rfl
        | succ n5 ih =>
          intro x3 μ4
          rw [fX1_lift_L25]
          refine S_aload_n dX1_lift_25 rfl ?_
          refine S_getR (c1 := 20) dX1_lift_26 rfl fl_X1_33 rfl rfl rfl ?_
          refine S_getR (c1 := 23) dX1_lift_29 rfl fl_X1_156 rfl rfl rfl ?_
          refine S_iload_n dX1_lift_32 rfl ?_
          refine S_iald (N := 6) dX1_lift_33 rfl (by decide) rfl ?_
          refine S_iload_n dX1_lift_34 rfl ?_
          refine S_iadd dX1_lift_35 ?_
          refine S_bipush dX1_lift_36 rfl (by decide) ?_
          refine S_ic_gt (tgt := 89) dX1_lift_38 (by decide) (fun h12 => ?_) (fun h12 => ?_)
          · refine S_bipush dX1_lift_89 rfl (by decide) ?_
            exact S_iret dX1_lift_91 rfl rfl
          · refine S_aload_n dX1_lift_41 rfl ?_
            refine S_getR (c1 := 25) dX1_lift_42 rfl fl_X1_36 rfl rfl rfl ?_
            refine S_aload_n dX1_lift_45 rfl ?_
            refine S_getR (c1 := 20) dX1_lift_46 rfl fl_X1_33 rfl rfl rfl ?_
            refine S_callW_V dX1_lift_49 [.inr (.inr 20)] (K_X0_become (by unfold isBk; decide) (by unfold isBk; decide) μ4) l_X1_118 yo_X0_become rfl rfl rfl rfl rfl (fun μ6 => ?_)
            refine S_aload_n dX1_lift_52 rfl ?_
            refine S_getR (c1 := 25) dX1_lift_53 rfl fl_X1_36 rfl rfl rfl ?_
            refine S_getR (c1 := 28) dX1_lift_56 rfl fl_X1_156 rfl rfl rfl ?_
            refine S_iload_n dX1_lift_59 rfl ?_
            refine S_aload_n dX1_lift_60 rfl ?_
            refine S_getR (c1 := 20) dX1_lift_61 rfl fl_X1_33 rfl rfl rfl ?_
            refine S_getR (c1 := 23) dX1_lift_64 rfl fl_X1_156 rfl rfl rfl ?_
            refine S_iload_n dX1_lift_67 rfl ?_
            refine S_iald (N := 6) dX1_lift_68 rfl (by decide) rfl ?_
            refine S_iload_n dX1_lift_69 rfl ?_
            refine S_iadd dX1_lift_70 ?_
            refine S_iast (N := 6) dX1_lift_71 rfl (by decide) rfl (fun μ7 => ?_)
            refine S_aload_n dX1_lift_72 rfl ?_
            refine S_iload_n dX1_lift_73 rfl ?_
            refine S_callV_M2 dX1_lift_74 [.inl p2] (K_X1_holderAside p2 μ7) l_X1_175 yo_X1_holderAside rfl rfl rfl rfl rfl (fun x8 μ9 => ?_)
            refine S_iload_n dX1_lift_77 rfl ?_
            refine S_ic_ne (tgt := 83) dX1_lift_78 (by decide) (fun h11 => ?_) (fun h11 => ?_)
            · refine S_iinc (lv' := fun x10 => [(3, .inl x10), (0, .inr (.inr 0)), (1, .inl p1), (2, .inl p2)]) dX1_lift_83 rfl rfl rfl (fun _ => rfl) (fun x10 => ?_)
              refine S_goto (tgt := 25) dX1_lift_86 (by decide) ?_
              exact S_sub [1, 2, 3, 0] rfl (ih x10 μ9)
            · refine S_iload_n dX1_lift_81 rfl ?_
              exact S_iret dX1_lift_82 rfl rfl
      exact S_sub [1, 2, 3, 0] rfl (hL25 fuel 0 μ)
    · refine S_iconst dX1_lift_21 rfl ?_
      exact S_iret dX1_lift_22 rfl rfl
