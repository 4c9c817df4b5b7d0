theorem dX1_on_0 : decode cX1_on 0 = .ok (.iload_n 1, 1) := by decide +kernel
theorem dX1_on_1 : decode cX1_on 1 = .ok (.invokestatic 168, 3) := by decide +kernel
theorem dX1_on_4 : decode cX1_on 4 = .ok (.ifCond .ne 5, 3) := by decide +kernel
theorem dX1_on_7 : decode cX1_on 7 = .ok (.iconst (-1), 1) := by decide +kernel
theorem dX1_on_8 : decode cX1_on 8 = .ok (.ireturn, 1) := by decide +kernel
theorem dX1_on_9 : decode cX1_on 9 = .ok (.aload_n 0, 1) := by decide +kernel
theorem dX1_on_10 : decode cX1_on 10 = .ok (.getfield 49, 3) := by decide +kernel
theorem dX1_on_13 : decode cX1_on 13 = .ok (.iload_n 1, 1) := by decide +kernel
theorem dX1_on_14 : decode cX1_on 14 = .ok (.iaload, 1) := by decide +kernel
theorem dX1_on_15 : decode cX1_on 15 = .ok (.ifCond .ge 9, 3) := by decide +kernel
theorem dX1_on_18 : decode cX1_on 18 = .ok (.aload_n 0, 1) := by decide +kernel
theorem dX1_on_19 : decode cX1_on 19 = .ok (.iconst 1, 1) := by decide +kernel
theorem dX1_on_20 : decode cX1_on 20 = .ok (.invokevirtual 87, 3) := by decide +kernel
theorem dX1_on_23 : decode cX1_on 23 = .ok (.ireturn, 1) := by decide +kernel
theorem dX1_on_24 : decode cX1_on 24 = .ok (.aload_n 0, 1) := by decide +kernel
theorem dX1_on_25 : decode cX1_on 25 = .ok (.aload_n 0, 1) := by decide +kernel
theorem dX1_on_26 : decode cX1_on 26 = .ok (.getfield 49, 3) := by decide +kernel
theorem dX1_on_29 : decode cX1_on 29 = .ok (.iload_n 1, 1) := by decide +kernel
theorem dX1_on_30 : decode cX1_on 30 = .ok (.iaload, 1) := by decide +kernel
theorem dX1_on_31 : decode cX1_on 31 = .ok (.putfield 42, 3) := by decide +kernel
theorem dX1_on_34 : decode cX1_on 34 = .ok (.aload_n 0, 1) := by decide +kernel
theorem dX1_on_35 : decode cX1_on 35 = .ok (.getfield 46, 3) := by decide +kernel
theorem dX1_on_38 : decode cX1_on 38 = .ok (.iload_n 1, 1) := by decide +kernel
theorem dX1_on_39 : decode cX1_on 39 = .ok (.aaload, 1) := by decide +kernel
theorem dX1_on_40 : decode cX1_on 40 = .ok (.iconst 0, 1) := by decide +kernel
theorem dX1_on_41 : decode cX1_on 41 = .ok (.aload_n 0, 1) := by decide +kernel
theorem dX1_on_42 : decode cX1_on 42 = .ok (.getfield 39, 3) := by decide +kernel
theorem dX1_on_45 : decode cX1_on 45 = .ok (.iconst 0, 1) := by decide +kernel
theorem dX1_on_46 : decode cX1_on 46 = .ok (.aload_n 0, 1) := by decide +kernel
theorem dX1_on_47 : decode cX1_on 47 = .ok (.getfield 42, 3) := by decide +kernel
theorem dX1_on_50 : decode cX1_on 50 = .ok (.invokestatic 102, 3) := by decide +kernel
theorem dX1_on_53 : decode cX1_on 53 = .ok (.aload_n 0, 1) := by decide +kernel
theorem dX1_on_54 : decode cX1_on 54 = .ok (.invokevirtual 165, 3) := by decide +kernel
theorem dX1_on_57 : decode cX1_on 57 = .ok (.aload_n 0, 1) := by decide +kernel
theorem dX1_on_58 : decode cX1_on 58 = .ok (.getfield 42, 3) := by decide +kernel
theorem dX1_on_61 : decode cX1_on 61 = .ok (.ireturn, 1) := by decide +kernel
theorem dX1_dares_0 : decode cX1_dares 0 = .ok (.aload_n 0, 1) := by decide +kernel
theorem dX1_dares_1 : decode cX1_dares 1 = .ok (.getfield 33, 3) := by decide +kernel
theorem dX1_dares_4 : decode cX1_dares 4 = .ok (.iload_n 1, 1) := by decide +kernel
theorem dX1_dares_5 : decode cX1_dares 5 = .ok (.invokevirtual 125, 3) := by decide +kernel
theorem dX1_dares_8 : decode cX1_dares 8 = .ok (.ifCond .eq 13, 3) := by decide +kernel
theorem dX1_dares_11 : decode cX1_dares 11 = .ok (.iload_n 2, 1) := by decide +kernel
theorem dX1_dares_12 : decode cX1_dares 12 = .ok (.iconst 0, 1) := by decide +kernel
theorem dX1_dares_13 : decode cX1_dares 13 = .ok (.bipush 20, 2) := by decide +kernel
theorem dX1_dares_15 : decode cX1_dares 15 = .ok (.invokestatic 128, 3) := by decide +kernel
theorem dX1_dares_18 : decode cX1_dares 18 = .ok (.ifCond .ne 5, 3) := by decide +kernel
theorem dX1_dares_21 : decode cX1_dares 21 = .ok (.iconst (-1), 1) := by decide +kernel
theorem dX1_dares_22 : decode cX1_dares 22 = .ok (.ireturn, 1) := by decide +kernel
theorem dX1_dares_23 : decode cX1_dares 23 = .ok (.iload_n 3, 1) := by decide +kernel
theorem dX1_dares_24 : decode cX1_dares 24 = .ok (.iconst 0, 1) := by decide +kernel
theorem dX1_dares_25 : decode cX1_dares 25 = .ok (.bipush 99, 2) := by decide +kernel
theorem dX1_dares_27 : decode cX1_dares 27 = .ok (.invokestatic 128, 3) := by decide +kernel
theorem dX1_dares_30 : decode cX1_dares 30 = .ok (.ifCond .eq 14, 3) := by decide +kernel
theorem dX1_dares_33 : decode cX1_dares 33 = .ok (.iload 4, 2) := by decide +kernel
theorem dX1_dares_35 : decode cX1_dares 35 = .ok (.iconst 0, 1) := by decide +kernel
theorem dX1_dares_36 : decode cX1_dares 36 = .ok (.bipush 9, 2) := by decide +kernel
theorem dX1_dares_38 : decode cX1_dares 38 = .ok (.invokestatic 128, 3) := by decide +kernel
theorem dX1_dares_41 : decode cX1_dares 41 = .ok (.ifCond .ne 5, 3) := by decide +kernel
theorem dX1_dares_44 : decode cX1_dares 44 = .ok (.iconst (-1), 1) := by decide +kernel
theorem dX1_dares_45 : decode cX1_dares 45 = .ok (.ireturn, 1) := by decide +kernel
theorem dX1_dares_46 : decode cX1_dares 46 = .ok (.aload_n 0, 1) := by decide +kernel
theorem dX1_dares_47 : decode cX1_dares 47 = .ok (.getfield 33, 3) := by decide +kernel
theorem dX1_dares_50 : decode cX1_dares 50 = .ok (.getfield 135, 3) := by decide +kernel
theorem dX1_dares_53 : decode cX1_dares 53 = .ok (.iload_n 1, 1) := by decide +kernel
theorem dX1_dares_54 : decode cX1_dares 54 = .ok (.iaload, 1) := by decide +kernel
theorem dX1_dares_55 : decode cX1_dares 55 = .ok (.iload_n 2, 1) := by decide +kernel
theorem dX1_dares_56 : decode cX1_dares 56 = .ok (.iload_n 3, 1) := by decide +kernel
theorem dX1_dares_57 : decode cX1_dares 57 = .ok (.iload 4, 2) := by decide +kernel
theorem dX1_dares_59 : decode cX1_dares 59 = .ok (.invokestatic 171, 3) := by decide +kernel
theorem dX1_dares_62 : decode cX1_dares 62 = .ok (.ireturn, 1) := by decide +kernel
theorem dX1_holderAside_0 : decode cX1_holderAside 0 = .ok (.bipush (-9), 2) := by decide +kernel
theorem dX1_holderAside_2 : decode cX1_holderAside 2 = .ok (.istore_n 2, 1) := by decide +kernel
theorem dX1_holderAside_3 : decode cX1_holderAside 3 = .ok (.iconst 0, 1) := by decide +kernel
theorem dX1_holderAside_4 : decode cX1_holderAside 4 = .ok (.istore_n 3, 1) := by decide +kernel
theorem dX1_holderAside_5 : decode cX1_holderAside 5 = .ok (.iload_n 3, 1) := by decide +kernel
theorem dX1_holderAside_6 : decode cX1_holderAside 6 = .ok (.iload_n 1, 1) := by decide +kernel
theorem dX1_holderAside_7 : decode cX1_holderAside 7 = .ok (.if_icmp .ge 17, 3) := by decide +kernel
theorem dX1_holderAside_10 : decode cX1_holderAside 10 = .ok (.aload_n 0, 1) := by decide +kernel
theorem dX1_holderAside_11 : decode cX1_holderAside 11 = .ok (.getfield 36, 3) := by decide +kernel
theorem dX1_holderAside_14 : decode cX1_holderAside 14 = .ok (.invokevirtual 184, 3) := by decide +kernel
theorem dX1_holderAside_17 : decode cX1_holderAside 17 = .ok (.istore_n 2, 1) := by decide +kernel
theorem dX1_holderAside_18 : decode cX1_holderAside 18 = .ok (.iinc 3 1, 3) := by decide +kernel
theorem dX1_holderAside_21 : decode cX1_holderAside 21 = .ok (.goto (-16), 3) := by decide +kernel
theorem dX1_holderAside_24 : decode cX1_holderAside 24 = .ok (.iload_n 2, 1) := by decide +kernel
theorem dX1_holderAside_25 : decode cX1_holderAside 25 = .ok (.ireturn, 1) := by decide +kernel
theorem dX1_where_0 : decode cX1_where 0 = .ok (.iload_n 1, 1) := by decide +kernel
theorem dX1_where_1 : decode cX1_where 1 = .ok (.iconst 0, 1) := by decide +kernel
theorem dX1_where_2 : decode cX1_where 2 = .ok (.bipush 40, 2) := by decide +kernel
theorem dX1_where_4 : decode cX1_where 4 = .ok (.invokestatic 128, 3) := by decide +kernel
theorem dX1_where_7 : decode cX1_where 7 = .ok (.ifCond .ne 5, 3) := by decide +kernel
theorem dX1_where_10 : decode cX1_where 10 = .ok (.iconst (-1), 1) := by decide +kernel
theorem dX1_where_11 : decode cX1_where 11 = .ok (.ireturn, 1) := by decide +kernel
theorem dX1_where_12 : decode cX1_where 12 = .ok (.aload_n 0, 1) := by decide +kernel
theorem dX1_where_13 : decode cX1_where 13 = .ok (.getfield 33, 3) := by decide +kernel
theorem dX1_where_16 : decode cX1_where 16 = .ok (.getfield 122, 3) := by decide +kernel
theorem dX1_where_19 : decode cX1_where 19 = .ok (.ifCond .ne 6, 3) := by decide +kernel
theorem dX1_where_22 : decode cX1_where 22 = .ok (.bipush (-4), 2) := by decide +kernel
theorem dX1_where_24 : decode cX1_where 24 = .ok (.ireturn, 1) := by decide +kernel
theorem dX1_where_25 : decode cX1_where 25 = .ok (.aload_n 0, 1) := by decide +kernel
theorem dX1_where_26 : decode cX1_where 26 = .ok (.getfield 36, 3) := by decide +kernel
theorem dX1_where_29 : decode cX1_where 29 = .ok (.aload_n 0, 1) := by decide +kernel
theorem dX1_where_30 : decode cX1_where 30 = .ok (.getfield 33, 3) := by decide +kernel
theorem dX1_where_33 : decode cX1_where 33 = .ok (.invokevirtual 118, 3) := by decide +kernel
theorem dX1_where_36 : decode cX1_where 36 = .ok (.aload_n 0, 1) := by decide +kernel
theorem dX1_where_37 : decode cX1_where 37 = .ok (.aload_n 0, 1) := by decide +kernel
theorem dX1_where_38 : decode cX1_where 38 = .ok (.iload_n 1, 1) := by decide +kernel
theorem dX1_where_39 : decode cX1_where 39 = .ok (.invokevirtual 175, 3) := by decide +kernel
theorem dX1_where_42 : decode cX1_where 42 = .ok (.invokevirtual 99, 3) := by decide +kernel
theorem dX1_where_45 : decode cX1_where 45 = .ok (.pop, 1) := by decide +kernel
theorem dX1_where_46 : decode cX1_where 46 = .ok (.aload_n 0, 1) := by decide +kernel
theorem dX1_where_47 : decode cX1_where 47 = .ok (.getfield 36, 3) := by decide +kernel
theorem dX1_where_50 : decode cX1_where 50 = .ok (.getfield 178, 3) := by decide +kernel
theorem dX1_where_53 : decode cX1_where 53 = .ok (.ireturn, 1) := by decide +kernel
theorem dX1_crosses_0 : decode cX1_crosses 0 = .ok (.aload_n 0, 1) := by decide +kernel
theorem dX1_crosses_1 : decode cX1_crosses 1 = .ok (.getfield 33, 3) := by decide +kernel
theorem dX1_crosses_4 : decode cX1_crosses 4 = .ok (.iload_n 1, 1) := by decide +kernel
theorem dX1_crosses_5 : decode cX1_crosses 5 = .ok (.invokevirtual 125, 3) := by decide +kernel
theorem dX1_crosses_8 : decode cX1_crosses 8 = .ok (.ifCond .eq 13, 3) := by decide +kernel
theorem dX1_crosses_11 : decode cX1_crosses 11 = .ok (.iload_n 2, 1) := by decide +kernel
theorem dX1_crosses_12 : decode cX1_crosses 12 = .ok (.iconst 0, 1) := by decide +kernel
theorem dX1_crosses_13 : decode cX1_crosses 13 = .ok (.bipush 40, 2) := by decide +kernel
theorem dX1_crosses_15 : decode cX1_crosses 15 = .ok (.invokestatic 128, 3) := by decide +kernel
theorem dX1_crosses_18 : decode cX1_crosses 18 = .ok (.ifCond .ne 5, 3) := by decide +kernel
theorem dX1_crosses_21 : decode cX1_crosses 21 = .ok (.iconst (-1), 1) := by decide +kernel
theorem dX1_crosses_22 : decode cX1_crosses 22 = .ok (.ireturn, 1) := by decide +kernel
theorem dX1_crosses_23 : decode cX1_crosses 23 = .ok (.aload_n 0, 1) := by decide +kernel
theorem dX1_crosses_24 : decode cX1_crosses 24 = .ok (.getfield 36, 3) := by decide +kernel
theorem dX1_crosses_27 : decode cX1_crosses 27 = .ok (.aload_n 0, 1) := by decide +kernel
theorem dX1_crosses_28 : decode cX1_crosses 28 = .ok (.getfield 33, 3) := by decide +kernel
theorem dX1_crosses_31 : decode cX1_crosses 31 = .ok (.invokevirtual 118, 3) := by decide +kernel
theorem dX1_crosses_34 : decode cX1_crosses 34 = .ok (.aload_n 0, 1) := by decide +kernel
theorem dX1_crosses_35 : decode cX1_crosses 35 = .ok (.iload_n 2, 1) := by decide +kernel
theorem dX1_crosses_36 : decode cX1_crosses 36 = .ok (.invokevirtual 175, 3) := by decide +kernel
theorem dX1_crosses_39 : decode cX1_crosses 39 = .ok (.pop, 1) := by decide +kernel
theorem dX1_crosses_40 : decode cX1_crosses 40 = .ok (.aload_n 0, 1) := by decide +kernel
theorem dX1_crosses_41 : decode cX1_crosses 41 = .ok (.getfield 36, 3) := by decide +kernel
theorem dX1_crosses_44 : decode cX1_crosses 44 = .ok (.getfield 181, 3) := by decide +kernel
theorem dX1_crosses_47 : decode cX1_crosses 47 = .ok (.iload_n 1, 1) := by decide +kernel
theorem dX1_crosses_48 : decode cX1_crosses 48 = .ok (.iaload, 1) := by decide +kernel
theorem dX1_crosses_49 : decode cX1_crosses 49 = .ok (.aload_n 0, 1) := by decide +kernel
theorem dX1_crosses_50 : decode cX1_crosses 50 = .ok (.getfield 33, 3) := by decide +kernel
theorem dX1_crosses_53 : decode cX1_crosses 53 = .ok (.getfield 181, 3) := by decide +kernel
theorem dX1_crosses_56 : decode cX1_crosses 56 = .ok (.iload_n 1, 1) := by decide +kernel
theorem dX1_crosses_57 : decode cX1_crosses 57 = .ok (.iaload, 1) := by decide +kernel
theorem dX1_crosses_58 : decode cX1_crosses 58 = .ok (.isub, 1) := by decide +kernel
theorem dX1_crosses_59 : decode cX1_crosses 59 = .ok (.ireturn, 1) := by decide +kernel
theorem dX1_first_0 : decode cX1_first 0 = .ok (.aload_n 0, 1) := by decide +kernel
theorem dX1_first_1 : decode cX1_first 1 = .ok (.getfield 33, 3) := by decide +kernel
theorem dX1_first_4 : decode cX1_first 4 = .ok (.iload_n 1, 1) := by decide +kernel
theorem dX1_first_5 : decode cX1_first 5 = .ok (.invokevirtual 125, 3) := by decide +kernel
theorem dX1_first_8 : decode cX1_first 8 = .ok (.ifCond .ne 5, 3) := by decide +kernel
theorem dX1_first_11 : decode cX1_first 11 = .ok (.iconst (-1), 1) := by decide +kernel
theorem dX1_first_12 : decode cX1_first 12 = .ok (.ireturn, 1) := by decide +kernel
theorem dX1_first_13 : decode cX1_first 13 = .ok (.aload_n 0, 1) := by decide +kernel
theorem dX1_first_14 : decode cX1_first 14 = .ok (.getfield 36, 3) := by decide +kernel
theorem dX1_first_17 : decode cX1_first 17 = .ok (.aload_n 0, 1) := by decide +kernel
theorem dX1_first_18 : decode cX1_first 18 = .ok (.getfield 33, 3) := by decide +kernel
theorem dX1_first_21 : decode cX1_first 21 = .ok (.invokevirtual 118, 3) := by decide +kernel
theorem dX1_first_24 : decode cX1_first 24 = .ok (.iconst 1, 1) := by decide +kernel
theorem dX1_first_25 : decode cX1_first 25 = .ok (.istore_n 2, 1) := by decide +kernel
theorem dX1_first_26 : decode cX1_first 26 = .ok (.iload_n 2, 1) := by decide +kernel
theorem dX1_first_27 : decode cX1_first 27 = .ok (.bipush 40, 2) := by decide +kernel
theorem dX1_first_29 : decode cX1_first 29 = .ok (.if_icmp .gt 22, 3) := by decide +kernel
theorem dX1_first_32 : decode cX1_first 32 = .ok (.aload_n 0, 1) := by decide +kernel
theorem dX1_first_33 : decode cX1_first 33 = .ok (.getfield 36, 3) := by decide +kernel
theorem dX1_first_36 : decode cX1_first 36 = .ok (.invokevirtual 184, 3) := by decide +kernel
theorem dX1_first_39 : decode cX1_first 39 = .ok (.iload_n 1, 1) := by decide +kernel
theorem dX1_first_40 : decode cX1_first 40 = .ok (.if_icmp .ne 5, 3) := by decide +kernel
theorem dX1_first_43 : decode cX1_first 43 = .ok (.iload_n 2, 1) := by decide +kernel
theorem dX1_first_44 : decode cX1_first 44 = .ok (.ireturn, 1) := by decide +kernel
theorem dX1_first_45 : decode cX1_first 45 = .ok (.iinc 2 1, 3) := by decide +kernel
theorem dX1_first_48 : decode cX1_first 48 = .ok (.goto (-22), 3) := by decide +kernel
theorem dX1_first_51 : decode cX1_first 51 = .ok (.bipush (-9), 2) := by decide +kernel
theorem dX1_first_53 : decode cX1_first 53 = .ok (.ireturn, 1) := by decide +kernel
theorem dX1_lift_0 : decode cX1_lift 0 = .ok (.aload_n 0, 1) := by decide +kernel
theorem dX1_lift_1 : decode cX1_lift 1 = .ok (.getfield 33, 3) := by decide +kernel
theorem dX1_lift_4 : decode cX1_lift 4 = .ok (.iload_n 1, 1) := by decide +kernel
theorem dX1_lift_5 : decode cX1_lift 5 = .ok (.invokevirtual 125, 3) := by decide +kernel
theorem dX1_lift_8 : decode cX1_lift 8 = .ok (.ifCond .eq 13, 3) := by decide +kernel
theorem dX1_lift_11 : decode cX1_lift 11 = .ok (.iload_n 2, 1) := by decide +kernel
theorem dX1_lift_12 : decode cX1_lift 12 = .ok (.iconst 1, 1) := by decide +kernel
theorem dX1_lift_13 : decode cX1_lift 13 = .ok (.bipush 20, 2) := by decide +kernel
theorem dX1_lift_15 : decode cX1_lift 15 = .ok (.invokestatic 128, 3) := by decide +kernel
theorem dX1_lift_18 : decode cX1_lift 18 = .ok (.ifCond .ne 5, 3) := by decide +kernel
theorem dX1_lift_21 : decode cX1_lift 21 = .ok (.iconst (-1), 1) := by decide +kernel
theorem dX1_lift_22 : decode cX1_lift 22 = .ok (.ireturn, 1) := by decide +kernel
theorem dX1_lift_23 : decode cX1_lift 23 = .ok (.iconst 0, 1) := by decide +kernel
theorem dX1_lift_24 : decode cX1_lift 24 = .ok (.istore_n 3, 1) := by decide +kernel
theorem dX1_lift_25 : decode cX1_lift 25 = .ok (.aload_n 0, 1) := by decide +kernel
theorem dX1_lift_26 : decode cX1_lift 26 = .ok (.getfield 33, 3) := by decide +kernel
theorem dX1_lift_29 : decode cX1_lift 29 = .ok (.getfield 156, 3) := by decide +kernel
theorem dX1_lift_32 : decode cX1_lift 32 = .ok (.iload_n 1, 1) := by decide +kernel
theorem dX1_lift_33 : decode cX1_lift 33 = .ok (.iaload, 1) := by decide +kernel
theorem dX1_lift_34 : decode cX1_lift 34 = .ok (.iload_n 3, 1) := by decide +kernel
theorem dX1_lift_35 : decode cX1_lift 35 = .ok (.iadd, 1) := by decide +kernel
theorem dX1_lift_36 : decode cX1_lift 36 = .ok (.bipush 20, 2) := by decide +kernel
theorem dX1_lift_38 : decode cX1_lift 38 = .ok (.if_icmp .gt 51, 3) := by decide +kernel
theorem dX1_lift_41 : decode cX1_lift 41 = .ok (.aload_n 0, 1) := by decide +kernel
theorem dX1_lift_42 : decode cX1_lift 42 = .ok (.getfield 36, 3) := by decide +kernel
theorem dX1_lift_45 : decode cX1_lift 45 = .ok (.aload_n 0, 1) := by decide +kernel
theorem dX1_lift_46 : decode cX1_lift 46 = .ok (.getfield 33, 3) := by decide +kernel
theorem dX1_lift_49 : decode cX1_lift 49 = .ok (.invokevirtual 118, 3) := by decide +kernel
theorem dX1_lift_52 : decode cX1_lift 52 = .ok (.aload_n 0, 1) := by decide +kernel
theorem dX1_lift_53 : decode cX1_lift 53 = .ok (.getfield 36, 3) := by decide +kernel
theorem dX1_lift_56 : decode cX1_lift 56 = .ok (.getfield 156, 3) := by decide +kernel
theorem dX1_lift_59 : decode cX1_lift 59 = .ok (.iload_n 1, 1) := by decide +kernel
theorem dX1_lift_60 : decode cX1_lift 60 = .ok (.aload_n 0, 1) := by decide +kernel
theorem dX1_lift_61 : decode cX1_lift 61 = .ok (.getfield 33, 3) := by decide +kernel
theorem dX1_lift_64 : decode cX1_lift 64 = .ok (.getfield 156, 3) := by decide +kernel
theorem dX1_lift_67 : decode cX1_lift 67 = .ok (.iload_n 1, 1) := by decide +kernel
theorem dX1_lift_68 : decode cX1_lift 68 = .ok (.iaload, 1) := by decide +kernel
theorem dX1_lift_69 : decode cX1_lift 69 = .ok (.iload_n 3, 1) := by decide +kernel
theorem dX1_lift_70 : decode cX1_lift 70 = .ok (.iadd, 1) := by decide +kernel
theorem dX1_lift_71 : decode cX1_lift 71 = .ok (.iastore, 1) := by decide +kernel
theorem dX1_lift_72 : decode cX1_lift 72 = .ok (.aload_n 0, 1) := by decide +kernel
theorem dX1_lift_73 : decode cX1_lift 73 = .ok (.iload_n 2, 1) := by decide +kernel
theorem dX1_lift_74 : decode cX1_lift 74 = .ok (.invokevirtual 175, 3) := by decide +kernel
theorem dX1_lift_77 : decode cX1_lift 77 = .ok (.iload_n 1, 1) := by decide +kernel
theorem dX1_lift_78 : decode cX1_lift 78 = .ok (.if_icmp .ne 5, 3) := by decide +kernel
theorem dX1_lift_81 : decode cX1_lift 81 = .ok (.iload_n 3, 1) := by decide +kernel
theorem dX1_lift_82 : decode cX1_lift 82 = .ok (.ireturn, 1) := by decide +kernel
theorem dX1_lift_83 : decode cX1_lift 83 = .ok (.iinc 3 1, 3) := by decide +kernel
theorem dX1_lift_86 : decode cX1_lift 86 = .ok (.goto (-61), 3) := by decide +kernel
theorem dX1_lift_89 : decode cX1_lift 89 = .ok (.bipush (-9), 2) := by decide +kernel
theorem dX1_lift_91 : decode cX1_lift 91 = .ok (.ireturn, 1) := by decide +kernel
theorem dX1_leastShame_0 : decode cX1_leastShame 0 = .ok (.aload_n 0, 1) := by decide +kernel
theorem dX1_leastShame_1 : decode cX1_leastShame 1 = .ok (.getfield 33, 3) := by decide +kernel
theorem dX1_leastShame_4 : decode cX1_leastShame 4 = .ok (.iload_n 1, 1) := by decide +kernel
theorem dX1_leastShame_5 : decode cX1_leastShame 5 = .ok (.iload_n 2, 1) := by decide +kernel
theorem dX1_leastShame_6 : decode cX1_leastShame 6 = .ok (.invokevirtual 305, 3) := by decide +kernel
theorem dX1_leastShame_9 : decode cX1_leastShame 9 = .ok (.istore 4, 2) := by decide +kernel
theorem dX1_leastShame_11 : decode cX1_leastShame 11 = .ok (.iconst 0, 1) := by decide +kernel
theorem dX1_leastShame_12 : decode cX1_leastShame 12 = .ok (.istore 5, 2) := by decide +kernel
theorem dX1_leastShame_14 : decode cX1_leastShame 14 = .ok (.iload 5, 2) := by decide +kernel
theorem dX1_leastShame_16 : decode cX1_leastShame 16 = .ok (.aload_n 0, 1) := by decide +kernel
theorem dX1_leastShame_17 : decode cX1_leastShame 17 = .ok (.getfield 33, 3) := by decide +kernel
theorem dX1_leastShame_20 : decode cX1_leastShame 20 = .ok (.getfield 156, 3) := by decide +kernel
theorem dX1_leastShame_23 : decode cX1_leastShame 23 = .ok (.iload_n 1, 1) := by decide +kernel
theorem dX1_leastShame_24 : decode cX1_leastShame 24 = .ok (.iaload, 1) := by decide +kernel
theorem dX1_leastShame_25 : decode cX1_leastShame 25 = .ok (.if_icmp .gt 51, 3) := by decide +kernel
theorem dX1_leastShame_28 : decode cX1_leastShame 28 = .ok (.aload_n 0, 1) := by decide +kernel
theorem dX1_leastShame_29 : decode cX1_leastShame 29 = .ok (.getfield 33, 3) := by decide +kernel
theorem dX1_leastShame_32 : decode cX1_leastShame 32 = .ok (.iload_n 1, 1) := by decide +kernel
theorem dX1_leastShame_33 : decode cX1_leastShame 33 = .ok (.aload_n 0, 1) := by decide +kernel
theorem dX1_leastShame_34 : decode cX1_leastShame 34 = .ok (.getfield 33, 3) := by decide +kernel
theorem dX1_leastShame_37 : decode cX1_leastShame 37 = .ok (.getfield 156, 3) := by decide +kernel
theorem dX1_leastShame_40 : decode cX1_leastShame 40 = .ok (.iload_n 1, 1) := by decide +kernel
theorem dX1_leastShame_41 : decode cX1_leastShame 41 = .ok (.iaload, 1) := by decide +kernel
theorem dX1_leastShame_42 : decode cX1_leastShame 42 = .ok (.iload 5, 2) := by decide +kernel
theorem dX1_leastShame_44 : decode cX1_leastShame 44 = .ok (.isub, 1) := by decide +kernel
theorem dX1_leastShame_45 : decode cX1_leastShame 45 = .ok (.invokevirtual 299, 3) := by decide +kernel
theorem dX1_leastShame_48 : decode cX1_leastShame 48 = .ok (.istore 6, 2) := by decide +kernel
theorem dX1_leastShame_50 : decode cX1_leastShame 50 = .ok (.iload 6, 2) := by decide +kernel
theorem dX1_leastShame_52 : decode cX1_leastShame 52 = .ok (.iload_n 3, 1) := by decide +kernel
theorem dX1_leastShame_53 : decode cX1_leastShame 53 = .ok (.if_icmp .lt 14, 3) := by decide +kernel
theorem dX1_leastShame_56 : decode cX1_leastShame 56 = .ok (.iload 6, 2) := by decide +kernel
theorem dX1_leastShame_58 : decode cX1_leastShame 58 = .ok (.iload_n 3, 1) := by decide +kernel
theorem dX1_leastShame_59 : decode cX1_leastShame 59 = .ok (.if_icmp .ne 11, 3) := by decide +kernel
theorem dX1_leastShame_62 : decode cX1_leastShame 62 = .ok (.iload 4, 2) := by decide +kernel
theorem dX1_leastShame_64 : decode cX1_leastShame 64 = .ok (.ifCond .eq 6, 3) := by decide +kernel
theorem dX1_leastShame_67 : decode cX1_leastShame 67 = .ok (.iload 5, 2) := by decide +kernel
theorem dX1_leastShame_69 : decode cX1_leastShame 69 = .ok (.ireturn, 1) := by decide +kernel
theorem dX1_leastShame_70 : decode cX1_leastShame 70 = .ok (.iinc 5 1, 3) := by decide +kernel
theorem dX1_leastShame_73 : decode cX1_leastShame 73 = .ok (.goto (-59), 3) := by decide +kernel
theorem dX1_leastShame_76 : decode cX1_leastShame 76 = .ok (.bipush (-9), 2) := by decide +kernel
theorem dX1_leastShame_78 : decode cX1_leastShame 78 = .ok (.ireturn, 1) := by decide +kernel
theorem dX1_priceByShares_0 : decode cX1_priceByShares 0 = .ok (.aload_n 0, 1) := by decide +kernel
theorem dX1_priceByShares_1 : decode cX1_priceByShares 1 = .ok (.getfield 33, 3) := by decide +kernel
theorem dX1_priceByShares_4 : decode cX1_priceByShares 4 = .ok (.iload_n 1, 1) := by decide +kernel
theorem dX1_priceByShares_5 : decode cX1_priceByShares 5 = .ok (.aload_n 0, 1) := by decide +kernel
theorem dX1_priceByShares_6 : decode cX1_priceByShares 6 = .ok (.getfield 33, 3) := by decide +kernel
theorem dX1_priceByShares_9 : decode cX1_priceByShares 9 = .ok (.getfield 156, 3) := by decide +kernel
theorem dX1_priceByShares_12 : decode cX1_priceByShares 12 = .ok (.iload_n 1, 1) := by decide +kernel
theorem dX1_priceByShares_13 : decode cX1_priceByShares 13 = .ok (.iaload, 1) := by decide +kernel
theorem dX1_priceByShares_14 : decode cX1_priceByShares 14 = .ok (.iload_n 2, 1) := by decide +kernel
theorem dX1_priceByShares_15 : decode cX1_priceByShares 15 = .ok (.iadd, 1) := by decide +kernel
theorem dX1_priceByShares_16 : decode cX1_priceByShares 16 = .ok (.invokevirtual 299, 3) := by decide +kernel
theorem dX1_priceByShares_19 : decode cX1_priceByShares 19 = .ok (.istore_n 3, 1) := by decide +kernel
theorem dX1_priceByShares_20 : decode cX1_priceByShares 20 = .ok (.iload_n 3, 1) := by decide +kernel
theorem dX1_priceByShares_21 : decode cX1_priceByShares 21 = .ok (.ifCond .ne 6, 3) := by decide +kernel
theorem dX1_priceByShares_24 : decode cX1_priceByShares 24 = .ok (.bipush (-9), 2) := by decide +kernel
theorem dX1_priceByShares_26 : decode cX1_priceByShares 26 = .ok (.ireturn, 1) := by decide +kernel
theorem dX1_priceByShares_27 : decode cX1_priceByShares 27 = .ok (.iload_n 2, 1) := by decide +kernel
theorem dX1_priceByShares_28 : decode cX1_priceByShares 28 = .ok (.istore 4, 2) := by decide +kernel
theorem dX1_priceByShares_30 : decode cX1_priceByShares 30 = .ok (.iconst 0, 1) := by decide +kernel
theorem dX1_priceByShares_31 : decode cX1_priceByShares 31 = .ok (.istore 5, 2) := by decide +kernel
theorem dX1_priceByShares_33 : decode cX1_priceByShares 33 = .ok (.iload 5, 2) := by decide +kernel
theorem dX1_priceByShares_35 : decode cX1_priceByShares 35 = .ok (.aload_n 0, 1) := by decide +kernel
theorem dX1_priceByShares_36 : decode cX1_priceByShares 36 = .ok (.getfield 33, 3) := by decide +kernel
theorem dX1_priceByShares_39 : decode cX1_priceByShares 39 = .ok (.getfield 122, 3) := by decide +kernel
theorem dX1_priceByShares_42 : decode cX1_priceByShares 42 = .ok (.if_icmp .ge 71, 3) := by decide +kernel
theorem dX1_priceByShares_45 : decode cX1_priceByShares 45 = .ok (.aload_n 0, 1) := by decide +kernel
theorem dX1_priceByShares_46 : decode cX1_priceByShares 46 = .ok (.getfield 68, 3) := by decide +kernel
theorem dX1_priceByShares_49 : decode cX1_priceByShares 49 = .ok (.iload 5, 2) := by decide +kernel
theorem dX1_priceByShares_51 : decode cX1_priceByShares 51 = .ok (.iload 5, 2) := by decide +kernel
theorem dX1_priceByShares_53 : decode cX1_priceByShares 53 = .ok (.iload_n 1, 1) := by decide +kernel
theorem dX1_priceByShares_54 : decode cX1_priceByShares 54 = .ok (.if_icmp .ne 7, 3) := by decide +kernel
theorem dX1_priceByShares_57 : decode cX1_priceByShares 57 = .ok (.iload_n 2, 1) := by decide +kernel
theorem dX1_priceByShares_58 : decode cX1_priceByShares 58 = .ok (.goto 11, 3) := by decide +kernel
theorem dX1_priceByShares_61 : decode cX1_priceByShares 61 = .ok (.aload_n 0, 1) := by decide +kernel
theorem dX1_priceByShares_62 : decode cX1_priceByShares 62 = .ok (.iload 5, 2) := by decide +kernel
theorem dX1_priceByShares_64 : decode cX1_priceByShares 64 = .ok (.iload_n 1, 1) := by decide +kernel
theorem dX1_priceByShares_65 : decode cX1_priceByShares 65 = .ok (.iload_n 3, 1) := by decide +kernel
theorem dX1_priceByShares_66 : decode cX1_priceByShares 66 = .ok (.invokevirtual 302, 3) := by decide +kernel
theorem dX1_priceByShares_69 : decode cX1_priceByShares 69 = .ok (.iastore, 1) := by decide +kernel
theorem dX1_priceByShares_70 : decode cX1_priceByShares 70 = .ok (.aload_n 0, 1) := by decide +kernel
theorem dX1_priceByShares_71 : decode cX1_priceByShares 71 = .ok (.getfield 68, 3) := by decide +kernel
theorem dX1_priceByShares_74 : decode cX1_priceByShares 74 = .ok (.iload 5, 2) := by decide +kernel
theorem dX1_priceByShares_76 : decode cX1_priceByShares 76 = .ok (.iaload, 1) := by decide +kernel
theorem dX1_priceByShares_77 : decode cX1_priceByShares 77 = .ok (.bipush (-9), 2) := by decide +kernel
theorem dX1_priceByShares_79 : decode cX1_priceByShares 79 = .ok (.if_icmp .ne 6, 3) := by decide +kernel
theorem dX1_priceByShares_82 : decode cX1_priceByShares 82 = .ok (.bipush (-9), 2) := by decide +kernel
theorem dX1_priceByShares_84 : decode cX1_priceByShares 84 = .ok (.ireturn, 1) := by decide +kernel
theorem dX1_priceByShares_85 : decode cX1_priceByShares 85 = .ok (.iload 4, 2) := by decide +kernel
theorem dX1_priceByShares_87 : decode cX1_priceByShares 87 = .ok (.iload 5, 2) := by decide +kernel
theorem dX1_priceByShares_89 : decode cX1_priceByShares 89 = .ok (.iload_n 1, 1) := by decide +kernel
theorem dX1_priceByShares_90 : decode cX1_priceByShares 90 = .ok (.if_icmp .ne 7, 3) := by decide +kernel
theorem dX1_priceByShares_93 : decode cX1_priceByShares 93 = .ok (.iconst 0, 1) := by decide +kernel
theorem dX1_priceByShares_94 : decode cX1_priceByShares 94 = .ok (.goto 10, 3) := by decide +kernel
theorem dX1_priceByShares_97 : decode cX1_priceByShares 97 = .ok (.aload_n 0, 1) := by decide +kernel
theorem dX1_priceByShares_98 : decode cX1_priceByShares 98 = .ok (.getfield 68, 3) := by decide +kernel
theorem dX1_priceByShares_101 : decode cX1_priceByShares 101 = .ok (.iload 5, 2) := by decide +kernel
theorem dX1_priceByShares_103 : decode cX1_priceByShares 103 = .ok (.iaload, 1) := by decide +kernel
theorem dX1_priceByShares_104 : decode cX1_priceByShares 104 = .ok (.iadd, 1) := by decide +kernel
theorem dX1_priceByShares_105 : decode cX1_priceByShares 105 = .ok (.istore 4, 2) := by decide +kernel
theorem dX1_priceByShares_107 : decode cX1_priceByShares 107 = .ok (.iinc 5 1, 3) := by decide +kernel
theorem dX1_priceByShares_110 : decode cX1_priceByShares 110 = .ok (.goto (-77), 3) := by decide +kernel
theorem dX1_priceByShares_113 : decode cX1_priceByShares 113 = .ok (.iload 4, 2) := by decide +kernel
theorem dX1_priceByShares_115 : decode cX1_priceByShares 115 = .ok (.ireturn, 1) := by decide +kernel
theorem dX1_cheap_0 : decode cX1_cheap 0 = .ok (.aload_n 0, 1) := by decide +kernel
theorem dX1_cheap_1 : decode cX1_cheap 1 = .ok (.getfield 33, 3) := by decide +kernel
theorem dX1_cheap_4 : decode cX1_cheap 4 = .ok (.iload_n 1, 1) := by decide +kernel
theorem dX1_cheap_5 : decode cX1_cheap 5 = .ok (.invokevirtual 125, 3) := by decide +kernel
theorem dX1_cheap_8 : decode cX1_cheap 8 = .ok (.ifCond .eq 10, 3) := by decide +kernel
theorem dX1_cheap_11 : decode cX1_cheap 11 = .ok (.iload_n 2, 1) := by decide +kernel
theorem dX1_cheap_12 : decode cX1_cheap 12 = .ok (.invokestatic 83, 3) := by decide +kernel
theorem dX1_cheap_15 : decode cX1_cheap 15 = .ok (.ifCond .ne 5, 3) := by decide +kernel
theorem dX1_cheap_18 : decode cX1_cheap 18 = .ok (.iconst (-1), 1) := by decide +kernel
theorem dX1_cheap_19 : decode cX1_cheap 19 = .ok (.ireturn, 1) := by decide +kernel
theorem dX1_cheap_20 : decode cX1_cheap 20 = .ok (.bipush (-9), 2) := by decide +kernel
theorem dX1_cheap_22 : decode cX1_cheap 22 = .ok (.istore_n 3, 1) := by decide +kernel
theorem dX1_cheap_23 : decode cX1_cheap 23 = .ok (.iconst 0, 1) := by decide +kernel
theorem dX1_cheap_24 : decode cX1_cheap 24 = .ok (.istore 4, 2) := by decide +kernel
theorem dX1_cheap_26 : decode cX1_cheap 26 = .ok (.iconst 0, 1) := by decide +kernel
theorem dX1_cheap_27 : decode cX1_cheap 27 = .ok (.istore 5, 2) := by decide +kernel
theorem dX1_cheap_29 : decode cX1_cheap 29 = .ok (.aload_n 0, 1) := by decide +kernel
theorem dX1_cheap_30 : decode cX1_cheap 30 = .ok (.getfield 33, 3) := by decide +kernel
theorem dX1_cheap_33 : decode cX1_cheap 33 = .ok (.getfield 156, 3) := by decide +kernel
theorem dX1_cheap_36 : decode cX1_cheap 36 = .ok (.iload_n 1, 1) := by decide +kernel
theorem dX1_cheap_37 : decode cX1_cheap 37 = .ok (.iaload, 1) := by decide +kernel
theorem dX1_cheap_38 : decode cX1_cheap 38 = .ok (.iload 5, 2) := by decide +kernel
theorem dX1_cheap_40 : decode cX1_cheap 40 = .ok (.iadd, 1) := by decide +kernel
theorem dX1_cheap_41 : decode cX1_cheap 41 = .ok (.bipush 20, 2) := by decide +kernel
theorem dX1_cheap_43 : decode cX1_cheap 43 = .ok (.if_icmp .gt 44, 3) := by decide +kernel
theorem dX1_cheap_46 : decode cX1_cheap 46 = .ok (.aload_n 0, 1) := by decide +kernel
theorem dX1_cheap_47 : decode cX1_cheap 47 = .ok (.iload_n 1, 1) := by decide +kernel
theorem dX1_cheap_48 : decode cX1_cheap 48 = .ok (.iload 5, 2) := by decide +kernel
theorem dX1_cheap_50 : decode cX1_cheap 50 = .ok (.invokevirtual 188, 3) := by decide +kernel
theorem dX1_cheap_53 : decode cX1_cheap 53 = .ok (.istore 6, 2) := by decide +kernel
theorem dX1_cheap_55 : decode cX1_cheap 55 = .ok (.iload 6, 2) := by decide +kernel
theorem dX1_cheap_57 : decode cX1_cheap 57 = .ok (.bipush (-9), 2) := by decide +kernel
theorem dX1_cheap_59 : decode cX1_cheap 59 = .ok (.if_icmp .eq 22, 3) := by decide +kernel
theorem dX1_cheap_62 : decode cX1_cheap 62 = .ok (.iload_n 3, 1) := by decide +kernel
theorem dX1_cheap_63 : decode cX1_cheap 63 = .ok (.bipush (-9), 2) := by decide +kernel
theorem dX1_cheap_65 : decode cX1_cheap 65 = .ok (.if_icmp .eq 9, 3) := by decide +kernel
theorem dX1_cheap_68 : decode cX1_cheap 68 = .ok (.iload 6, 2) := by decide +kernel
theorem dX1_cheap_70 : decode cX1_cheap 70 = .ok (.iload_n 3, 1) := by decide +kernel
theorem dX1_cheap_71 : decode cX1_cheap 71 = .ok (.if_icmp .ge 10, 3) := by decide +kernel
theorem dX1_cheap_74 : decode cX1_cheap 74 = .ok (.iload 6, 2) := by decide +kernel
theorem dX1_cheap_76 : decode cX1_cheap 76 = .ok (.istore_n 3, 1) := by decide +kernel
theorem dX1_cheap_77 : decode cX1_cheap 77 = .ok (.iload 5, 2) := by decide +kernel
theorem dX1_cheap_79 : decode cX1_cheap 79 = .ok (.istore 4, 2) := by decide +kernel
theorem dX1_cheap_81 : decode cX1_cheap 81 = .ok (.iinc 5 1, 3) := by decide +kernel
theorem dX1_cheap_84 : decode cX1_cheap 84 = .ok (.goto (-55), 3) := by decide +kernel
theorem dX1_cheap_87 : decode cX1_cheap 87 = .ok (.iload_n 3, 1) := by decide +kernel
theorem dX1_cheap_88 : decode cX1_cheap 88 = .ok (.bipush (-9), 2) := by decide +kernel
theorem dX1_cheap_90 : decode cX1_cheap 90 = .ok (.if_icmp .ne 6, 3) := by decide +kernel
theorem dX1_cheap_93 : decode cX1_cheap 93 = .ok (.bipush (-9), 2) := by decide +kernel
theorem dX1_cheap_95 : decode cX1_cheap 95 = .ok (.ireturn, 1) := by decide +kernel
theorem dX1_cheap_96 : decode cX1_cheap 96 = .ok (.aload_n 0, 1) := by decide +kernel
theorem dX1_cheap_97 : decode cX1_cheap 97 = .ok (.iload_n 1, 1) := by decide +kernel
theorem dX1_cheap_98 : decode cX1_cheap 98 = .ok (.iload 4, 2) := by decide +kernel
theorem dX1_cheap_100 : decode cX1_cheap 100 = .ok (.invokevirtual 188, 3) := by decide +kernel
theorem dX1_cheap_103 : decode cX1_cheap 103 = .ok (.pop, 1) := by decide +kernel
theorem dX1_cheap_104 : decode cX1_cheap 104 = .ok (.aload_n 0, 1) := by decide +kernel
theorem dX1_cheap_105 : decode cX1_cheap 105 = .ok (.iload_n 2, 1) := by decide +kernel
theorem dX1_cheap_106 : decode cX1_cheap 106 = .ok (.aload_n 0, 1) := by decide +kernel
theorem dX1_cheap_107 : decode cX1_cheap 107 = .ok (.getfield 33, 3) := by decide +kernel
theorem dX1_cheap_110 : decode cX1_cheap 110 = .ok (.getfield 122, 3) := by decide +kernel
theorem dX1_cheap_113 : decode cX1_cheap 113 = .ok (.invokevirtual 91, 3) := by decide +kernel
theorem dX1_cheap_116 : decode cX1_cheap 116 = .ok (.aload_n 0, 1) := by decide +kernel
theorem dX1_cheap_117 : decode cX1_cheap 117 = .ok (.getfield 68, 3) := by decide +kernel
theorem dX1_cheap_120 : decode cX1_cheap 120 = .ok (.iconst 0, 1) := by decide +kernel
theorem dX1_cheap_121 : decode cX1_cheap 121 = .ok (.aload_n 0, 1) := by decide +kernel
theorem dX1_cheap_122 : decode cX1_cheap 122 = .ok (.getfield 11, 3) := by decide +kernel
theorem dX1_cheap_125 : decode cX1_cheap 125 = .ok (.iload_n 2, 1) := by decide +kernel
theorem dX1_cheap_126 : decode cX1_cheap 126 = .ok (.aaload, 1) := by decide +kernel
theorem dX1_cheap_127 : decode cX1_cheap 127 = .ok (.iconst 0, 1) := by decide +kernel
theorem dX1_cheap_128 : decode cX1_cheap 128 = .ok (.aload_n 0, 1) := by decide +kernel
theorem dX1_cheap_129 : decode cX1_cheap 129 = .ok (.getfield 33, 3) := by decide +kernel
theorem dX1_cheap_132 : decode cX1_cheap 132 = .ok (.getfield 122, 3) := by decide +kernel
theorem dX1_cheap_135 : decode cX1_cheap 135 = .ok (.invokestatic 102, 3) := by decide +kernel
theorem dX1_cheap_138 : decode cX1_cheap 138 = .ok (.iload_n 3, 1) := by decide +kernel
theorem dX1_cheap_139 : decode cX1_cheap 139 = .ok (.ireturn, 1) := by decide +kernel
theorem dX1_goesAsideBy_0 : decode cX1_goesAsideBy 0 = .ok (.iconst 0, 1) := by decide +kernel
theorem dX1_goesAsideBy_1 : decode cX1_goesAsideBy 1 = .ok (.istore_n 2, 1) := by decide +kernel
theorem dX1_goesAsideBy_2 : decode cX1_goesAsideBy 2 = .ok (.iload_n 2, 1) := by decide +kernel
theorem dX1_goesAsideBy_3 : decode cX1_goesAsideBy 3 = .ok (.aload_n 0, 1) := by decide +kernel
theorem dX1_goesAsideBy_4 : decode cX1_goesAsideBy 4 = .ok (.getfield 14, 3) := by decide +kernel
theorem dX1_goesAsideBy_7 : decode cX1_goesAsideBy 7 = .ok (.iload_n 1, 1) := by decide +kernel
theorem dX1_goesAsideBy_8 : decode cX1_goesAsideBy 8 = .ok (.iaload, 1) := by decide +kernel
theorem dX1_goesAsideBy_9 : decode cX1_goesAsideBy 9 = .ok (.if_icmp .ge 29, 3) := by decide +kernel
theorem dX1_goesAsideBy_12 : decode cX1_goesAsideBy 12 = .ok (.aload_n 0, 1) := by decide +kernel
theorem dX1_goesAsideBy_13 : decode cX1_goesAsideBy 13 = .ok (.getfield 36, 3) := by decide +kernel
theorem dX1_goesAsideBy_16 : decode cX1_goesAsideBy 16 = .ok (.invokevirtual 184, 3) := by decide +kernel
theorem dX1_goesAsideBy_19 : decode cX1_goesAsideBy 19 = .ok (.aload_n 0, 1) := by decide +kernel
theorem dX1_goesAsideBy_20 : decode cX1_goesAsideBy 20 = .ok (.getfield 11, 3) := by decide +kernel
theorem dX1_goesAsideBy_23 : decode cX1_goesAsideBy 23 = .ok (.iload_n 1, 1) := by decide +kernel
theorem dX1_goesAsideBy_24 : decode cX1_goesAsideBy 24 = .ok (.aaload, 1) := by decide +kernel
theorem dX1_goesAsideBy_25 : decode cX1_goesAsideBy 25 = .ok (.iload_n 2, 1) := by decide +kernel
theorem dX1_goesAsideBy_26 : decode cX1_goesAsideBy 26 = .ok (.iaload, 1) := by decide +kernel
theorem dX1_goesAsideBy_27 : decode cX1_goesAsideBy 27 = .ok (.if_icmp .eq 5, 3) := by decide +kernel
theorem dX1_goesAsideBy_30 : decode cX1_goesAsideBy 30 = .ok (.iconst 0, 1) := by decide +kernel
theorem dX1_goesAsideBy_31 : decode cX1_goesAsideBy 31 = .ok (.ireturn, 1) := by decide +kernel
theorem dX1_goesAsideBy_32 : decode cX1_goesAsideBy 32 = .ok (.iinc 2 1, 3) := by decide +kernel
theorem dX1_goesAsideBy_35 : decode cX1_goesAsideBy 35 = .ok (.goto (-33), 3) := by decide +kernel
theorem dX1_goesAsideBy_38 : decode cX1_goesAsideBy 38 = .ok (.iconst 1, 1) := by decide +kernel
theorem dX1_goesAsideBy_39 : decode cX1_goesAsideBy 39 = .ok (.ireturn, 1) := by decide +kernel
theorem fl_X1_135 : FLk RX1 135 0 0 := Or.inr ⟨"DareFord", in_ns (i := 60) (by decide +kernel) rfl⟩
theorem l_X1_171 : mlS RX1 171 yX1_boldness cX1_boldness 4 (some .int) := ⟨in_gd (i := 326) (by decide +kernel) rfl, mt_X1_boldness⟩
theorem l_X1_184 : mlW RX1 184 yX0_passNight cX0_passNight 4 (some .int) "DareFord" := ⟨in_ns (i := 335) (by decide +kernel) rfl, mt_X0_passNight⟩
theorem fl_X1_178 : FLk RX1 178 0 5 := Or.inr ⟨"DareFord", in_ns (i := 70) (by decide +kernel) rfl⟩
theorem mt_X1_holderAside : (Cond.instanceMethod yX1_holderAside ∈ gd_tbl ∧ Cond.selects yX1_holderAside.cls yX1_holderAside yX1_holderAside ∈ gd_tbl) ∧ Cond.initialized yX1_holderAside.cls ∈ gd_tbl ∧ Cond.code yX1_holderAside cX1_holderAside 4 (some .int) ∈ gd_tbl := ⟨⟨in_gd (i := 333) (by decide +kernel) rfl, in_gd (i := 18) (by decide +kernel) rfl⟩, in_gd (i := 36) (by decide +kernel) rfl, in_gd (i := 334) (by decide +kernel) rfl⟩
theorem yo_X1_holderAside : yOk yX1_holderAside 1 := ⟨by decide, by decide, by decide +kernel⟩
theorem l_X1_175 : mlV RX1 175 yX1_holderAside cX1_holderAside 4 (some .int) := ⟨in_gd (i := 331) (by decide +kernel) rfl, mt_X1_holderAside⟩
theorem fl_X1_181 : FLk RX1 181 0 3 := Or.inr ⟨"DareFord", in_ns (i := 66) (by decide +kernel) rfl⟩
theorem l_X1_305 : mlW RX1 305 yX0_isBehind cX0_isBehind 3 (some .boolean) "DareFord" := ⟨in_ns (i := 361) (by decide +kernel) rfl, mt_X0_isBehind⟩
theorem l_X1_299 : mlW RX1 299 yX0_boldnessAt cX0_boldnessAt 3 (some .int) "DareFord" := ⟨in_ns (i := 356) (by decide +kernel) rfl, mt_X0_boldnessAt⟩
theorem fl_X1_68 : FLk RX1 68 1 16 := Or.inl (in_gd (i := 109) (by decide +kernel) rfl)
theorem mt_X1_leastShame : (Cond.instanceMethod yX1_leastShame ∈ gd_tbl ∧ Cond.selects yX1_leastShame.cls yX1_leastShame yX1_leastShame ∈ gd_tbl) ∧ Cond.initialized yX1_leastShame.cls ∈ gd_tbl ∧ Cond.code yX1_leastShame cX1_leastShame 7 (some .int) ∈ gd_tbl := ⟨⟨in_gd (i := 359) (by decide +kernel) rfl, in_gd (i := 20) (by decide +kernel) rfl⟩, in_gd (i := 36) (by decide +kernel) rfl, in_gd (i := 360) (by decide +kernel) rfl⟩
theorem yo_X1_leastShame : yOk yX1_leastShame 3 := ⟨by decide, by decide, by decide +kernel⟩
theorem l_X1_302 : mlV RX1 302 yX1_leastShame cX1_leastShame 7 (some .int) := ⟨in_gd (i := 357) (by decide +kernel) rfl, mt_X1_leastShame⟩
theorem mt_X1_priceByShares : (Cond.instanceMethod yX1_priceByShares ∈ gd_tbl ∧ Cond.selects yX1_priceByShares.cls yX1_priceByShares yX1_priceByShares ∈ gd_tbl) ∧ Cond.initialized yX1_priceByShares.cls ∈ gd_tbl ∧ Cond.code yX1_priceByShares cX1_priceByShares 6 (some .int) ∈ gd_tbl := ⟨⟨in_gd (i := 354) (by decide +kernel) rfl, in_gd (i := 19) (by decide +kernel) rfl⟩, in_gd (i := 36) (by decide +kernel) rfl, in_gd (i := 355) (by decide +kernel) rfl⟩
theorem yo_X1_priceByShares : yOk yX1_priceByShares 2 := ⟨by decide, by decide, by decide +kernel⟩
theorem l_X1_188 : mlV RX1 188 yX1_priceByShares cX1_priceByShares 6 (some .int) := ⟨in_gd (i := 352) (by decide +kernel) rfl, mt_X1_priceByShares⟩
def fX1_on (p1 : Int) (μ : Mem) : Option (Int × Mem) :=
  (fX1_isKept p1 μ).bind fun x1 =>
  if ¬ x1 = 0 then
    grd (0 ≤ p1 ∧ p1 < 3) <|
    if 0 ≤ (μ 35 (p1).toNat) then
      grd (0 ≤ p1 ∧ p1 < 3) <|
      mlet (wr μ 0 8 (μ 35 (p1).toNat)) fun μ2 =>
      grd (0 ≤ p1 ∧ p1 < 3) <|
      mlet (32 + (p1).toNat) fun c3 =>
      grd (0 ≤ (0 : Int) ∧ 0 ≤ (0 : Int) ∧ 0 ≤ (μ2 0 8) ∧ (0 : Int) + (μ2 0 8) ≤ 40 ∧ (0 : Int) + (μ2 0 8) ≤ 40) <|
      mlet (cpy μ2 c3 ((0 : Int)).toNat 30 ((0 : Int)).toNat ((μ2 0 8)).toNat) fun μ4 =>
      (fX1_performAgain μ4).bind fun μ5 =>
      some ((μ5 0 8), μ5)
    else
      bnd2 (fX1_found 1 μ) fun x6 μ7 =>
      some (x6, μ7)
  else
    some ((-1), μ)
theorem K_X1_on {σ : Scr}  (p1 : Int)  (μ : Mem) : Con σ yX1_on cX1_on 2 (some .int) 9 [.inr (.inr 0), .inl p1] μ (fX1_on p1 μ) wI := by
  refine con_of (own := RX1) (by decide) rfl (Nat.le_of_ble_eq_true rfl) ?_
  show Sim σ cX1_on 2 RX1 (9) (some .int) wI 0 [(0, .inr (.inr 0)), (1, .inl p1)] [] μ (fX1_on p1 μ)
  unfold fX1_on
  refine S_iload_n dX1_on_0 rfl ?_
  refine S_callS_I dX1_on_1 [.inl p1] (K_X1_isKept p1 μ) l_X1_168 yo_X1_isKept rfl rfl rfl (fun x1 => ?_)
  refine S_if_ne (tgt := 9) dX1_on_4 (by decide) (fun h9 => ?_) (fun h9 => ?_)
  · refine S_aload_n dX1_on_9 rfl ?_
    refine S_getR (c1 := 35) dX1_on_10 rfl fl_X1_49 rfl rfl rfl ?_
    refine S_iload_n dX1_on_13 rfl ?_
    refine S_iald (N := 3) dX1_on_14 rfl (by decide) rfl ?_
    refine S_if_ge (tgt := 24) dX1_on_15 (by decide) (fun h8 => ?_) (fun h8 => ?_)
    · refine S_aload_n dX1_on_24 rfl ?_
      refine S_aload_n dX1_on_25 rfl ?_
      refine S_getR (c1 := 35) dX1_on_26 rfl fl_X1_49 rfl rfl rfl ?_
      refine S_iload_n dX1_on_29 rfl ?_
      refine S_iald (N := 3) dX1_on_30 rfl (by decide) rfl ?_
      refine S_putI dX1_on_31 rfl fl_X1_42 rfl rfl rfl rfl (fun μ2 => ?_)
      refine S_aload_n dX1_on_34 rfl ?_
      refine S_getR (c1 := 31) dX1_on_35 rfl fl_X1_46 rfl rfl rfl ?_
      refine S_iload_n dX1_on_38 rfl ?_
      refine S_aald (N := 3) (c1 := 32) (c2 := 35) dX1_on_39 rfl (by decide) (by decide) rfl rfl rfl (fun c3 hc3 => ?_)
      refine S_iconst dX1_on_40 rfl ?_
      refine S_aload_n dX1_on_41 rfl ?_
      refine S_getR (c1 := 30) dX1_on_42 rfl fl_X1_39 rfl rfl rfl ?_
      refine S_iconst dX1_on_45 rfl ?_
      refine S_aload_n dX1_on_46 rfl ?_
      refine S_getI dX1_on_47 rfl fl_X1_42 rfl rfl ?_
      refine S_acopy (N0 := 40) (N1 := 40) dX1_on_50 jl_X1_102 jm_an jm_as jm_S (kd_kept hc3) (fam_lt hc3 (by decide)) rfl (by decide) rfl rfl rfl rfl jm_w (fun μ4 => ?_)
      refine S_aload_n dX1_on_53 rfl ?_
      refine S_callV_V dX1_on_54 [] (K_X1_performAgain μ4) l_X1_165 yo_X1_performAgain rfl rfl rfl rfl rfl (fun μ5 => ?_)
      refine S_aload_n dX1_on_57 rfl ?_
      refine S_getI dX1_on_58 rfl fl_X1_42 rfl rfl ?_
      exact S_iret dX1_on_61 rfl rfl
    · refine S_aload_n dX1_on_18 rfl ?_
      refine S_iconst dX1_on_19 rfl ?_
      refine S_callV_M2 dX1_on_20 [.inl 1] (K_X1_found 1 μ) l_X1_87 yo_X1_found rfl rfl rfl rfl rfl (fun x6 μ7 => ?_)
      exact S_iret dX1_on_23 rfl rfl
  · refine S_iconst dX1_on_7 rfl ?_
    exact S_iret dX1_on_8 rfl rfl
def fX1_dares (p1 : Int) (p2 : Int) (p3 : Int) (p4 : Int) (μ : Mem) : Option Int :=
  (fX0_has 20 p1 μ).bind fun x1 =>
  if x1 = 0 then
    some (-1)
  else
    (fX1_isWithin p2 0 20 μ).bind fun x2 =>
    if ¬ x2 = 0 then
      (fX1_isWithin p3 0 99 μ).bind fun x3 =>
      if x3 = 0 then
        some (-1)
      else
        (fX1_isWithin p4 0 9 μ).bind fun x4 =>
        if ¬ x4 = 0 then
          grd (0 ≤ p1 ∧ p1 < 6) <|
          (fX1_boldness (μ 21 (p1).toNat) p2 p3 p4 μ).bind fun x5 =>
          some x5
        else
          some (-1)
    else
      some (-1)
theorem K_X1_dares {σ : Scr}  (p1 : Int) (p2 : Int) (p3 : Int) (p4 : Int)  (μ : Mem) : Con σ yX1_dares cX1_dares 5 (some .int) 4 [.inr (.inr 0), .inl p1, .inl p2, .inl p3, .inl p4] μ (fX1_dares p1 p2 p3 p4 μ) (rI μ) := by
  refine con_of (own := RX1) (by decide) rfl (Nat.le_of_ble_eq_true rfl) ?_
  show Sim σ cX1_dares 5 RX1 (4) (some .int) (rI μ) 0 [(0, .inr (.inr 0)), (1, .inl p1), (2, .inl p2), (3, .inl p3), (4, .inl p4)] [] μ (fX1_dares p1 p2 p3 p4 μ)
  unfold fX1_dares
  refine S_aload_n dX1_dares_0 rfl ?_
  refine S_getR (c1 := 20) dX1_dares_1 rfl fl_X1_33 rfl rfl rfl ?_
  refine S_iload_n dX1_dares_4 rfl ?_
  refine S_callW_I dX1_dares_5 [.inl p1] (K_X0_has (by unfold isBk; decide) p1 μ) l_X1_125 yo_X0_has rfl rfl rfl rfl rfl (fun x1 => ?_)
  refine S_if_eq (tgt := 21) dX1_dares_8 (by decide) (fun h9 => ?_) (fun h9 => ?_)
  · refine S_iconst dX1_dares_21 rfl ?_
    exact S_iret dX1_dares_22 rfl rfl
  · refine S_iload_n dX1_dares_11 rfl ?_
    refine S_iconst dX1_dares_12 rfl ?_
    refine S_bipush dX1_dares_13 rfl (by decide) ?_
    refine S_callS_I dX1_dares_15 [.inl p2, .inl 0, .inl 20] (K_X1_isWithin p2 0 20 μ) l_X1_128 yo_X1_isWithin rfl rfl rfl (fun x2 => ?_)
    refine S_if_ne (tgt := 23) dX1_dares_18 (by decide) (fun h8 => ?_) (fun h8 => ?_)
    · refine S_iload_n dX1_dares_23 rfl ?_
      refine S_iconst dX1_dares_24 rfl ?_
      refine S_bipush dX1_dares_25 rfl (by decide) ?_
      refine S_callS_I dX1_dares_27 [.inl p3, .inl 0, .inl 99] (K_X1_isWithin p3 0 99 μ) l_X1_128 yo_X1_isWithin rfl rfl rfl (fun x3 => ?_)
      refine S_if_eq (tgt := 44) dX1_dares_30 (by decide) (fun h7 => ?_) (fun h7 => ?_)
      · refine S_iconst dX1_dares_44 rfl ?_
        exact S_iret dX1_dares_45 rfl rfl
      · refine S_iload dX1_dares_33 rfl ?_
        refine S_iconst dX1_dares_35 rfl ?_
        refine S_bipush dX1_dares_36 rfl (by decide) ?_
        refine S_callS_I dX1_dares_38 [.inl p4, .inl 0, .inl 9] (K_X1_isWithin p4 0 9 μ) l_X1_128 yo_X1_isWithin rfl rfl rfl (fun x4 => ?_)
        refine S_if_ne (tgt := 46) dX1_dares_41 (by decide) (fun h6 => ?_) (fun h6 => ?_)
        · refine S_aload_n dX1_dares_46 rfl ?_
          refine S_getR (c1 := 20) dX1_dares_47 rfl fl_X1_33 rfl rfl rfl ?_
          refine S_getR (c1 := 21) dX1_dares_50 rfl fl_X1_135 rfl rfl rfl ?_
          refine S_iload_n dX1_dares_53 rfl ?_
          refine S_iald (N := 6) dX1_dares_54 rfl (by decide) rfl ?_
          refine S_iload_n dX1_dares_55 rfl ?_
          refine S_iload_n dX1_dares_56 rfl ?_
          refine S_iload dX1_dares_57 rfl ?_
          refine S_callS_I dX1_dares_59 [.inl (μ 21 (p1).toNat), .inl p2, .inl p3, .inl p4] (K_X1_boldness (μ 21 (p1).toNat) p2 p3 p4 μ) l_X1_171 yo_X1_boldness rfl rfl rfl (fun x5 => ?_)
          exact S_iret dX1_dares_62 rfl rfl
        · refine S_iconst dX1_dares_44 rfl ?_
          exact S_iret dX1_dares_45 rfl rfl
    · refine S_iconst dX1_dares_21 rfl ?_
      exact S_iret dX1_dares_22 rfl rfl
def fX1_holderAside_L5 (p1 : Int) : Nat → Int → Int → Mem → Option (Int × Mem)
  | 0, _, _, _ => none
  | n4 + 1, x1, x2, μ3 =>
    if p1 ≤ x2 then
      some (x1, μ3)
    else
      bnd2 (fX0_passNight 25 μ3) fun x5 μ6 =>
      mlet (w32 (x2 + 1)) fun x7 =>
      fX1_holderAside_L5 p1 n4 x5 x7 μ6
def fX1_holderAside (p1 : Int) (μ : Mem) : Option (Int × Mem) :=
  fX1_holderAside_L5 p1 fuel (-9) 0 μ
theorem K_X1_holderAside {σ : Scr}  (p1 : Int)  (μ : Mem) : Con σ yX1_holderAside cX1_holderAside 4 (some .int) 7 [.inr (.inr 0), .inl p1] μ (fX1_holderAside p1 μ) wI := by
  refine con_of (own := RX1) (by decide) rfl (Nat.le_of_ble_eq_true rfl) ?_
  show Sim σ cX1_holderAside 4 RX1 (7) (some .int) wI 0 [(0, .inr (.inr 0)), (1, .inl p1)] [] μ (fX1_holderAside p1 μ)
  unfold fX1_holderAside
  refine S_bipush dX1_holderAside_0 rfl (by decide) ?_
  refine S_istore_n (lv' := [(2, .inl (-9)), (0, .inr (.inr 0)), (1, .inl p1)]) dX1_holderAside_2 rfl rfl ?_
  refine S_iconst dX1_holderAside_3 rfl ?_
  refine S_istore_n (lv' := [(3, .inl 0), (2, .inl (-9)), (0, .inr (.inr 0)), (1, .inl p1)]) dX1_holderAside_4 rfl rfl ?_
  have hL5 : ∀ (n4 : Nat) (x1 : Int) (x2 : Int) (μ3 : Mem), Sim σ cX1_holderAside 4 RX1 (7) (some .int) wI 5 [(0, .inr (.inr 0)), (1, .inl p1), (2, .inl x1), (3, .inl x2)] [] μ3 (fX1_holderAside_L5 p1 n4 x1 x2 μ3) := by
    intro n4
    induction n4 with
    | zero =>
      intro x1 x2 μ3
      exact S_none rfl
    | succ n4 ih =>
      intro x1 x2 μ3
      rw [fX1_holderAside_L5]
      refine S_iload_n dX1_holderAside_5 rfl ?_
      refine S_iload_n dX1_holderAside_6 rfl ?_
      refine S_ic_ge (tgt := 24) dX1_holderAside_7 (by decide) (fun h8 => ?_) (fun h8 => ?_)
      · refine S_iload_n dX1_holderAside_24 rfl ?_
        exact S_iret dX1_holderAside_25 rfl rfl
      · refine S_aload_n dX1_holderAside_10 rfl ?_
        refine S_getR (c1 := 25) dX1_holderAside_11 rfl fl_X1_36 rfl rfl rfl ?_
        refine S_callW_M2 dX1_holderAside_14 [] (K_X0_passNight (by unfold isBk; decide) μ3) l_X1_184 yo_X0_passNight rfl rfl rfl rfl rfl (fun x5 μ6 => ?_)
        refine S_istore_n (lv' := [(2, .inl x5), (0, .inr (.inr 0)), (1, .inl p1), (3, .inl x2)]) dX1_holderAside_17 rfl rfl ?_
        refine S_iinc (lv' := fun x7 => [(3, .inl x7), (2, .inl x5), (0, .inr (.inr 0)), (1, .inl p1)]) dX1_holderAside_18 rfl rfl rfl (fun _ => rfl) (fun x7 => ?_)
        refine S_goto (tgt := 5) dX1_holderAside_21 (by decide) ?_
        exact S_sub [2, 3, 1, 0] rfl (ih x5 x7 μ6)
  exact S_sub [2, 3, 1, 0] rfl (hL5 fuel (-9) 0 μ)
def fX1_where (p1 : Int) (μ : Mem) : Option (Int × Mem) :=
  (fX1_isWithin p1 0 40 μ).bind fun x1 =>
  if ¬ x1 = 0 then
    if ¬ (μ 20 4) = 0 then
      (fX0_become 25 20 μ).bind fun μ2 =>
      bnd2 (fX1_holderAside p1 μ2) fun x3 μ4 =>
      bnd2 (fX1_tell x3 μ4) fun x5 μ6 =>
      some ((μ6 25 5), μ6)
    else
      some ((-4), μ)
  else
    some ((-1), μ)
theorem K_X1_where {σ : Scr}  (p1 : Int)  (μ : Mem) : Con σ yX1_where cX1_where 2 (some .int) 8 [.inr (.inr 0), .inl p1] μ (fX1_where p1 μ) wI := by
  refine con_of (own := RX1) (by decide) rfl (Nat.le_of_ble_eq_true rfl) ?_
  show Sim σ cX1_where 2 RX1 (8) (some .int) wI 0 [(0, .inr (.inr 0)), (1, .inl p1)] [] μ (fX1_where p1 μ)
  unfold fX1_where
  refine S_iload_n dX1_where_0 rfl ?_
  refine S_iconst dX1_where_1 rfl ?_
  refine S_bipush dX1_where_2 rfl (by decide) ?_
  refine S_callS_I dX1_where_4 [.inl p1, .inl 0, .inl 40] (K_X1_isWithin p1 0 40 μ) l_X1_128 yo_X1_isWithin rfl rfl rfl (fun x1 => ?_)
  refine S_if_ne (tgt := 12) dX1_where_7 (by decide) (fun h8 => ?_) (fun h8 => ?_)
  · refine S_aload_n dX1_where_12 rfl ?_
    refine S_getR (c1 := 20) dX1_where_13 rfl fl_X1_33 rfl rfl rfl ?_
    refine S_getI dX1_where_16 rfl fl_X1_122 rfl rfl ?_
    refine S_if_ne (tgt := 25) dX1_where_19 (by decide) (fun h7 => ?_) (fun h7 => ?_)
    · refine S_aload_n dX1_where_25 rfl ?_
      refine S_getR (c1 := 25) dX1_where_26 rfl fl_X1_36 rfl rfl rfl ?_
      refine S_aload_n dX1_where_29 rfl ?_
      refine S_getR (c1 := 20) dX1_where_30 rfl fl_X1_33 rfl rfl rfl ?_
      refine S_callW_V dX1_where_33 [.inr (.inr 20)] (K_X0_become (by unfold isBk; decide) (by unfold isBk; decide) μ) l_X1_118 yo_X0_become rfl rfl rfl rfl rfl (fun μ2 => ?_)
      refine S_aload_n dX1_where_36 rfl ?_
      refine S_aload_n dX1_where_37 rfl ?_
      refine S_iload_n dX1_where_38 rfl ?_
      refine S_callV_M2 dX1_where_39 [.inl p1] (K_X1_holderAside p1 μ2) l_X1_175 yo_X1_holderAside rfl rfl rfl rfl rfl (fun x3 μ4 => ?_)
      refine S_callV_M2 dX1_where_42 [.inl x3] (K_X1_tell x3 μ4) l_X1_99 yo_X1_tell rfl rfl rfl rfl rfl (fun x5 μ6 => ?_)
      refine S_pop dX1_where_45 rfl ?_
      refine S_aload_n dX1_where_46 rfl ?_
      refine S_getR (c1 := 25) dX1_where_47 rfl fl_X1_36 rfl rfl rfl ?_
      refine S_getI dX1_where_50 rfl fl_X1_178 rfl rfl ?_
      exact S_iret dX1_where_53 rfl rfl
    · refine S_bipush dX1_where_22 rfl (by decide) ?_
      exact S_iret dX1_where_24 rfl rfl
  · refine S_iconst dX1_where_10 rfl ?_
    exact S_iret dX1_where_11 rfl rfl
def fX1_crosses (p1 : Int) (p2 : Int) (μ : Mem) : Option (Int × Mem) :=
  (fX0_has 20 p1 μ).bind fun x1 =>
  if x1 = 0 then
    some ((-1), μ)
  else
    (fX1_isWithin p2 0 40 μ).bind fun x2 =>
    if ¬ x2 = 0 then
      (fX0_become 25 20 μ).bind fun μ3 =>
      bnd2 (fX1_holderAside p2 μ3) fun x4 μ5 =>
      grd (0 ≤ p1 ∧ p1 < 6) <|
      grd (0 ≤ p1 ∧ p1 < 6) <|
      some ((w32 ((μ5 29 (p1).toNat) - (μ5 24 (p1).toNat))), μ5)
    else
      some ((-1), μ)
theorem K_X1_crosses {σ : Scr}  (p1 : Int) (p2 : Int)  (μ : Mem) : Con σ yX1_crosses cX1_crosses 3 (some .int) 8 [.inr (.inr 0), .inl p1, .inl p2] μ (fX1_crosses p1 p2 μ) wI := by
  refine con_of (own := RX1) (by decide) rfl (Nat.le_of_ble_eq_true rfl) ?_
  show Sim σ cX1_crosses 3 RX1 (8) (some .int) wI 0 [(0, .inr (.inr 0)), (1, .inl p1), (2, .inl p2)] [] μ (fX1_crosses p1 p2 μ)
  unfold fX1_crosses
  refine S_aload_n dX1_crosses_0 rfl ?_
  refine S_getR (c1 := 20) dX1_crosses_1 rfl fl_X1_33 rfl rfl rfl ?_
  refine S_iload_n dX1_crosses_4 rfl ?_
  refine S_callW_I dX1_crosses_5 [.inl p1] (K_X0_has (by unfold isBk; decide) p1 μ) l_X1_125 yo_X0_has rfl rfl rfl rfl rfl (fun x1 => ?_)
  refine S_if_eq (tgt := 21) dX1_crosses_8 (by decide) (fun h7 => ?_) (fun h7 => ?_)
  · refine S_iconst dX1_crosses_21 rfl ?_
    exact S_iret dX1_crosses_22 rfl rfl
  · refine S_iload_n dX1_crosses_11 rfl ?_
    refine S_iconst dX1_crosses_12 rfl ?_
    refine S_bipush dX1_crosses_13 rfl (by decide) ?_
    refine S_callS_I dX1_crosses_15 [.inl p2, .inl 0, .inl 40] (K_X1_isWithin p2 0 40 μ) l_X1_128 yo_X1_isWithin rfl rfl rfl (fun x2 => ?_)
    refine S_if_ne (tgt := 23) dX1_crosses_18 (by decide) (fun h6 => ?_) (fun h6 => ?_)
    · refine S_aload_n dX1_crosses_23 rfl ?_
      refine S_getR (c1 := 25) dX1_crosses_24 rfl fl_X1_36 rfl rfl rfl ?_
      refine S_aload_n dX1_crosses_27 rfl ?_
      refine S_getR (c1 := 20) dX1_crosses_28 rfl fl_X1_33 rfl rfl rfl ?_
      refine S_callW_V dX1_crosses_31 [.inr (.inr 20)] (K_X0_become (by unfold isBk; decide) (by unfold isBk; decide) μ) l_X1_118 yo_X0_become rfl rfl rfl rfl rfl (fun μ3 => ?_)
      refine S_aload_n dX1_crosses_34 rfl ?_
      refine S_iload_n dX1_crosses_35 rfl ?_
      refine S_callV_M2 dX1_crosses_36 [.inl p2] (K_X1_holderAside p2 μ3) l_X1_175 yo_X1_holderAside rfl rfl rfl rfl rfl (fun x4 μ5 => ?_)
      refine S_pop dX1_crosses_39 rfl ?_
      refine S_aload_n dX1_crosses_40 rfl ?_
      refine S_getR (c1 := 25) dX1_crosses_41 rfl fl_X1_36 rfl rfl rfl ?_
      refine S_getR (c1 := 29) dX1_crosses_44 rfl fl_X1_181 rfl rfl rfl ?_
      refine S_iload_n dX1_crosses_47 rfl ?_
      refine S_iald (N := 6) dX1_crosses_48 rfl (by decide) rfl ?_
      refine S_aload_n dX1_crosses_49 rfl ?_
      refine S_getR (c1 := 20) dX1_crosses_50 rfl fl_X1_33 rfl rfl rfl ?_
      refine S_getR (c1 := 24) dX1_crosses_53 rfl fl_X1_181 rfl rfl rfl ?_
      refine S_iload_n dX1_crosses_56 rfl ?_
      refine S_iald (N := 6) dX1_crosses_57 rfl (by decide) rfl ?_
      refine S_isub dX1_crosses_58 ?_
      exact S_iret dX1_crosses_59 rfl rfl
    · refine S_iconst dX1_crosses_21 rfl ?_
      exact S_iret dX1_crosses_22 rfl rfl
def fX1_first_L26 (p1 : Int) : Nat → Int → Mem → Option (Int × Mem)
  | 0, _, _ => none
  | n5 + 1, x3, μ4 =>
    if 40 < x3 then
      some ((-9), μ4)
    else
      bnd2 (fX0_passNight 25 μ4) fun x6 μ7 =>
      if ¬ x6 = p1 then
        mlet (w32 (x3 + 1)) fun x8 =>
        fX1_first_L26 p1 n5 x8 μ7
      else
        some (x3, μ7)
def fX1_first (p1 : Int) (μ : Mem) : Option (Int × Mem) :=
  (fX0_has 20 p1 μ).bind fun x1 =>
  if ¬ x1 = 0 then
    (fX0_become 25 20 μ).bind fun μ2 =>
    fX1_first_L26 p1 fuel 1 μ2
  else
    some ((-1), μ)
theorem K_X1_first {σ : Scr}  (p1 : Int)  (μ : Mem) : Con σ yX1_first cX1_first 3 (some .int) 7 [.inr (.inr 0), .inl p1] μ (fX1_first p1 μ) wI := by
  refine con_of (own := RX1) (by decide) rfl (Nat.le_of_ble_eq_true rfl) ?_
  show Sim σ cX1_first 3 RX1 (7) (some .int) wI 0 [(0, .inr (.inr 0)), (1, .inl p1)] [] μ (fX1_first p1 μ)
  unfold fX1_first
  refine S_aload_n dX1_first_0 rfl ?_
  refine S_getR (c1 := 20) dX1_first_1 rfl fl_X1_33 rfl rfl rfl ?_
  refine S_iload_n dX1_first_4 rfl ?_
  refine S_callW_I dX1_first_5 [.inl p1] (K_X0_has (by unfold isBk; decide) p1 μ) l_X1_125 yo_X0_has rfl rfl rfl rfl rfl (fun x1 => ?_)
  refine S_if_ne (tgt := 13) dX1_first_8 (by decide) (fun h11 => ?_) (fun h11 => ?_)
  · refine S_aload_n dX1_first_13 rfl ?_
    refine S_getR (c1 := 25) dX1_first_14 rfl fl_X1_36 rfl rfl rfl ?_
    refine S_aload_n dX1_first_17 rfl ?_
    refine S_getR (c1 := 20) dX1_first_18 rfl fl_X1_33 rfl rfl rfl ?_
    refine S_callW_V dX1_first_21 [.inr (.inr 20)] (K_X0_become (by unfold isBk; decide) (by unfold isBk; decide) μ) l_X1_118 yo_X0_become rfl rfl rfl rfl rfl (fun μ2 => ?_)
    refine S_iconst dX1_first_24 rfl ?_
    refine S_istore_n (lv' := [(2, .inl 1), (0, .inr (.inr 0)), (1, .inl p1)]) dX1_first_25 rfl rfl ?_
    have hL26 : ∀ (n5 : Nat) (x3 : Int) (μ4 : Mem), Sim σ cX1_first 3 RX1 (7) (some .int) wI 26 [(0, .inr (.inr 0)), (1, .inl p1), (2, .inl x3)] [] μ4 (fX1_first_L26 p1 n5 x3 μ4) := by
      intro n5
      induction n5 with
      | zero =>
        intro x3 μ4
        exact S_none rfl
      | succ n5 ih =>
        intro x3 μ4
        rw [fX1_first_L26]
        refine S_iload_n dX1_first_26 rfl ?_
        refine S_bipush dX1_first_27 rfl (by decide) ?_
        refine S_ic_gt (tgt := 51) dX1_first_29 (by decide) (fun h10 => ?_) (fun h10 => ?_)
        · refine S_bipush dX1_first_51 rfl (by decide) ?_
          exact S_iret dX1_first_53 rfl rfl
        · refine S_aload_n dX1_first_32 rfl ?_
          refine S_getR (c1 := 25) dX1_first_33 rfl fl_X1_36 rfl rfl rfl ?_
          refine S_callW_M2 dX1_first_36 [] (K_X0_passNight (by unfold isBk; decide) μ4) l_X1_184 yo_X0_passNight rfl rfl rfl rfl rfl (fun x6 μ7 => ?_)
          refine S_iload_n dX1_first_39 rfl ?_
          refine S_ic_ne (tgt := 45) dX1_first_40 (by decide) (fun h9 => ?_) (fun h9 => ?_)
          · refine S_iinc (lv' := fun x8 => [(2, .inl x8), (0, .inr (.inr 0)), (1, .inl p1)]) dX1_first_45 rfl rfl rfl (fun _ => rfl) (fun x8 => ?_)
            refine S_goto (tgt := 26) dX1_first_48 (by decide) ?_
            exact S_sub [1, 2, 0] rfl (ih x8 μ7)
          · refine S_iload_n dX1_first_43 rfl ?_
            exact S_iret dX1_first_44 rfl rfl
    exact S_sub [1, 2, 0] rfl (hL26 fuel 1 μ2)
  · refine S_iconst dX1_first_11 rfl ?_
    exact S_iret dX1_first_12 rfl rfl
def fX1_lift_L25 (p1 : Int) (p2 : Int) : Nat → Int → Mem → Option (Int × Mem)
  | 0, _, _ => none
  | n5 + 1, x3, μ4 =>
    grd (0 ≤ p1 ∧ p1 < 6) <|
    if 20 < (w32 ((μ4 23 (p1).toNat) + x3)) then
      some ((-9), μ4)
    else
      (fX0_become 25 20 μ4).bind fun μ6 =>
      grd (0 ≤ p1 ∧ p1 < 6) <|
      grd (0 ≤ p1 ∧ p1 < 6) <|
      mlet (wr μ6 28 (p1).toNat (w32 ((μ6 23 (p1).toNat) + x3))) fun μ7 =>
      bnd2 (fX1_holderAside p2 μ7) fun x8 μ9 =>
      if ¬ x8 = p1 then
        mlet (w32 (x3 + 1)) fun x10 =>
        fX1_lift_L25 p1 p2 n5 x10 μ9
      else
        some (x3, μ9)
def fX1_lift (p1 : Int) (p2 : Int) (μ : Mem) : Option (Int × Mem) :=
  (fX0_has 20 p1 μ).bind fun x1 =>
  if x1 = 0 then
    some ((-1), μ)
  else
    (fX1_isWithin p2 1 20 μ).bind fun x2 =>
    if ¬ x2 = 0 then
      fX1_lift_L25 p1 p2 fuel 0 μ
    else
      some ((-1), μ)
theorem K_X1_lift {σ : Scr}  (p1 : Int) (p2 : Int)  (μ : Mem) : Con σ yX1_lift cX1_lift 4 (some .int) 8 [.inr (.inr 0), .inl p1, .inl p2] μ (fX1_lift p1 p2 μ) wI := by
  refine con_of (own := RX1) (by decide) rfl (Nat.le_of_ble_eq_true rfl) ?_
  show Sim σ cX1_lift 4 RX1 (8) (some .int) wI 0 [(0, .inr (.inr 0)), (1, .inl p1), (2, .inl p2)] [] μ (fX1_lift p1 p2 μ)
  unfold fX1_lift
  refine S_aload_n dX1_lift_0 rfl ?_
  refine S_getR (c1 := 20) dX1_lift_1 rfl fl_X1_33 rfl rfl rfl ?_
  refine S_iload_n dX1_lift_4 rfl ?_
  refine S_callW_I dX1_lift_5 [.inl p1] (K_X0_has (by unfold isBk; decide) p1 μ) l_X1_125 yo_X0_has rfl rfl rfl rfl rfl (fun x1 => ?_)
  refine S_if_eq (tgt := 21) dX1_lift_8 (by decide) (fun h14 => ?_) (fun h14 => ?_)
  · refine S_iconst dX1_lift_21 rfl ?_
    exact S_iret dX1_lift_22 rfl rfl
  · refine S_iload_n dX1_lift_11 rfl ?_
    refine S_iconst dX1_lift_12 rfl ?_
    refine S_bipush dX1_lift_13 rfl (by decide) ?_
    refine S_callS_I dX1_lift_15 [.inl p2, .inl 1, .inl 20] (K_X1_isWithin p2 1 20 μ) l_X1_128 yo_X1_isWithin rfl rfl rfl (fun x2 => ?_)
    refine S_if_ne (tgt := 23) dX1_lift_18 (by decide) (fun h13 => ?_) (fun h13 => ?_)
    · refine S_iconst dX1_lift_23 rfl ?_
      refine S_istore_n (lv' := [(3, .inl 0), (0, .inr (.inr 0)), (1, .inl p1), (2, .inl p2)]) dX1_lift_24 rfl rfl ?_
      have hL25 : ∀ (n5 : Nat) (x3 : Int) (μ4 : Mem), Sim σ cX1_lift 4 RX1 (8) (some .int) wI 25 [(0, .inr (.inr 0)), (1, .inl p1), (2, .inl p2), (3, .inl x3)] [] μ4 (fX1_lift_L25 p1 p2 n5 x3 μ4) := by
        intro n5
        induction n5 with
        | zero =>
          intro x3 μ4
          exact S_none rfl
        | succ n5 ih =>
          intro x3 μ4
          rw [fX1_lift_L25]
          refine S_aload_n dX1_lift_25 rfl ?_
          refine S_getR (c1 := 20) dX1_lift_26 rfl fl_X1_33 rfl rfl rfl ?_
          refine S_getR (c1 := 23) dX1_lift_29 rfl fl_X1_156 rfl rfl rfl ?_
          refine S_iload_n dX1_lift_32 rfl ?_
          refine S_iald (N := 6) dX1_lift_33 rfl (by decide) rfl ?_
          refine S_iload_n dX1_lift_34 rfl ?_
          refine S_iadd dX1_lift_35 ?_
          refine S_bipush dX1_lift_36 rfl (by decide) ?_
          refine S_ic_gt (tgt := 89) dX1_lift_38 (by decide) (fun h12 => ?_) (fun h12 => ?_)
          · refine S_bipush dX1_lift_89 rfl (by decide) ?_
            exact S_iret dX1_lift_91 rfl rfl
          · refine S_aload_n dX1_lift_41 rfl ?_
            refine S_getR (c1 := 25) dX1_lift_42 rfl fl_X1_36 rfl rfl rfl ?_
            refine S_aload_n dX1_lift_45 rfl ?_
            refine S_getR (c1 := 20) dX1_lift_46 rfl fl_X1_33 rfl rfl rfl ?_
            refine S_callW_V dX1_lift_49 [.inr (.inr 20)] (K_X0_become (by unfold isBk; decide) (by unfold isBk; decide) μ4) l_X1_118 yo_X0_become rfl rfl rfl rfl rfl (fun μ6 => ?_)
            refine S_aload_n dX1_lift_52 rfl ?_
            refine S_getR (c1 := 25) dX1_lift_53 rfl fl_X1_36 rfl rfl rfl ?_
            refine S_getR (c1 := 28) dX1_lift_56 rfl fl_X1_156 rfl rfl rfl ?_
            refine S_iload_n dX1_lift_59 rfl ?_
            refine S_aload_n dX1_lift_60 rfl ?_
            refine S_getR (c1 := 20) dX1_lift_61 rfl fl_X1_33 rfl rfl rfl ?_
            refine S_getR (c1 := 23) dX1_lift_64 rfl fl_X1_156 rfl rfl rfl ?_
            refine S_iload_n dX1_lift_67 rfl ?_
            refine S_iald (N := 6) dX1_lift_68 rfl (by decide) rfl ?_
            refine S_iload_n dX1_lift_69 rfl ?_
            refine S_iadd dX1_lift_70 ?_
            refine S_iast (N := 6) dX1_lift_71 rfl (by decide) rfl (fun μ7 => ?_)
            refine S_aload_n dX1_lift_72 rfl ?_
            refine S_iload_n dX1_lift_73 rfl ?_
            refine S_callV_M2 dX1_lift_74 [.inl p2] (K_X1_holderAside p2 μ7) l_X1_175 yo_X1_holderAside rfl rfl rfl rfl rfl (fun x8 μ9 => ?_)
            refine S_iload_n dX1_lift_77 rfl ?_
            refine S_ic_ne (tgt := 83) dX1_lift_78 (by decide) (fun h11 => ?_) (fun h11 => ?_)
            · refine S_iinc (lv' := fun x10 => [(3, .inl x10), (0, .inr (.inr 0)), (1, .inl p1), (2, .inl p2)]) dX1_lift_83 rfl rfl rfl (fun _ => rfl) (fun x10 => ?_)
              refine S_goto (tgt := 25) dX1_lift_86 (by decide) ?_
              exact S_sub [1, 2, 3, 0] rfl (ih x10 μ9)
            · refine S_iload_n dX1_lift_81 rfl ?_
              exact S_iret dX1_lift_82 rfl rfl
      exact S_sub [1, 2, 3, 0] rfl (hL25 fuel 0 μ)
    · refine S_iconst dX1_lift_21 rfl ?_
      exact S_iret dX1_lift_22 rfl rfl
def fX1_leastShame_L14 (p1 : Int) (μ : Mem) (p3 : Int) (x1 : Int) : Nat → Int → Option Int
  | 0, _ => none
  | n3 + 1, x2 =>
    grd (0 ≤ p1 ∧ p1 < 6) <|
    if (μ 23 (p1).toNat) < x2 then
      some (-9)
    else
      grd (0 ≤ p1 ∧ p1 < 6) <|
      (fX0_boldnessAt 20 p1 (w32 ((μ 23 (p1).toNat) - x2)) μ).bind fun x4 =>
      if x4 < p3 then
        some x2
      else
        mlet (
          mlet (w32 (x2 + 1)) fun x6 =>
          fX1_leastShame_L14 p1 μ p3 x1 n3 x6
          : Option Int) fun (K5 : Option Int) =>
        if ¬ x4 = p3 then
          K5
        else
          if x1 = 0 then
            K5
          else
            some x2
def fX1_leastShame (p1 : Int) (p2 : Int) (p3 : Int) (μ : Mem) : Option Int :=
  (fX0_isBehind 20 p1 p2 μ).bind fun x1 =>
  fX1_leastShame_L14 p1 μ p3 x1 fuel 0
theorem K_X1_leastShame {σ : Scr}  (p1 : Int) (p2 : Int) (p3 : Int)  (μ : Mem) : Con σ yX1_leastShame cX1_leastShame 7 (some .int) 5 [.inr (.inr 0), .inl p1, .inl p2, .inl p3] μ (fX1_leastShame p1 p2 p3 μ) (rI μ) := by
  refine con_of (own := RX1) (by decide) rfl (Nat.le_of_ble_eq_true rfl) ?_
  show Sim σ cX1_leastShame 7 RX1 (5) (some .int) (rI μ) 0 [(0, .inr (.inr 0)), (1, .inl p1), (2, .inl p2), (3, .inl p3)] [] μ (fX1_leastShame p1 p2 p3 μ)
  unfold fX1_leastShame
  refine S_aload_n dX1_leastShame_0 rfl ?_
  refine S_getR (c1 := 20) dX1_leastShame_1 rfl fl_X1_33 rfl rfl rfl ?_
  refine S_iload_n dX1_leastShame_4 rfl ?_
  refine S_iload_n dX1_leastShame_5 rfl ?_
  refine S_callW_I dX1_leastShame_6 [.inl p1, .inl p2] (K_X0_isBehind (by unfold isBk; decide) p1 p2 μ) l_X1_305 yo_X0_isBehind rfl rfl rfl rfl rfl (fun x1 => ?_)
  refine S_istore (lv' := [(4, .inl x1), (0, .inr (.inr 0)), (1, .inl p1), (2, .inl p2), (3, .inl p3)]) dX1_leastShame_9 rfl rfl ?_
  refine S_iconst dX1_leastShame_11 rfl ?_
  refine S_istore (lv' := [(5, .inl 0), (4, .inl x1), (0, .inr (.inr 0)), (1, .inl p1), (2, .inl p2), (3, .inl p3)]) dX1_leastShame_12 rfl rfl ?_
  have hL14 : ∀ (n3 : Nat) (x2 : Int), Sim σ cX1_leastShame 7 RX1 (5) (some .int) (rI μ) 14 [(0, .inr (.inr 0)), (1, .inl p1), (3, .inl p3), (4, .inl x1), (5, .inl x2)] [] μ (fX1_leastShame_L14 p1 μ p3 x1 n3 x2) := by
    intro n3
    induction n3 with
    | zero =>
      intro x2
      exact S_none rfl
    | succ n3 ih =>
      intro x2
      rw [fX1_leastShame_L14]
      refine S_iload dX1_leastShame_14 rfl ?_
      refine S_aload_n dX1_leastShame_16 rfl ?_
      refine S_getR (c1 := 20) dX1_leastShame_17 rfl fl_X1_33 rfl rfl rfl ?_
      refine S_getR (c1 := 23) dX1_leastShame_20 rfl fl_X1_156 rfl rfl rfl ?_
      refine S_iload_n dX1_leastShame_23 rfl ?_
      refine S_iald (N := 6) dX1_leastShame_24 rfl (by decide) rfl ?_
      refine S_ic_gt (tgt := 76) dX1_leastShame_25 (by decide) (fun h10 => ?_) (fun h10 => ?_)
      · refine S_bipush dX1_leastShame_76 rfl (by decide) ?_
        exact S_iret dX1_leastShame_78 rfl rfl
      · refine S_aload_n dX1_leastShame_28 rfl ?_
        refine S_getR (c1 := 20) dX1_leastShame_29 rfl fl_X1_33 rfl rfl rfl ?_
        refine S_iload_n dX1_leastShame_32 rfl ?_
        refine S_aload_n dX1_leastShame_33 rfl ?_
        refine S_getR (c1 := 20) dX1_leastShame_34 rfl fl_X1_33 rfl rfl rfl ?_
        refine S_getR (c1 := 23) dX1_leastShame_37 rfl fl_X1_156 rfl rfl rfl ?_
        refine S_iload_n dX1_leastShame_40 rfl ?_
        refine S_iald (N := 6) dX1_leastShame_41 rfl (by decide) rfl ?_
        refine S_iload dX1_leastShame_42 rfl ?_
        refine S_isub dX1_leastShame_44 ?_
        refine S_callW_I dX1_leastShame_45 [.inl p1, .inl (w32 ((μ 23 (p1).toNat) - x2))] (K_X0_boldnessAt (by unfold isBk; decide) p1 (w32 ((μ 23 (p1).toNat) - x2)) μ) l_X1_299 yo_X0_boldnessAt rfl rfl rfl rfl rfl (fun x4 => ?_)
        refine S_istore (lv' := [(6, .inl x4), (0, .inr (.inr 0)), (1, .inl p1), (3, .inl p3), (4, .inl x1), (5, .inl x2)]) dX1_leastShame_48 rfl rfl ?_
        refine S_iload dX1_leastShame_50 rfl ?_
        refine S_iload_n dX1_leastShame_52 rfl ?_
        refine S_ic_lt (tgt := 67) dX1_leastShame_53 (by decide) (fun h9 => ?_) (fun h9 => ?_)
        · refine S_iload dX1_leastShame_67 rfl ?_
          exact S_iret dX1_leastShame_69 rfl rfl
        · refine S_iload dX1_leastShame_56 rfl ?_
          refine S_iload_n dX1_leastShame_58 rfl ?_
          refine S_jn (fun (K5 : Option Int) => Sim σ cX1_leastShame 7 RX1 (5) (some .int) (rI μ) 70 [(0, .inr (.inr 0)), (1, .inl p1), (3, .inl p3), (4, .inl x1), (5, .inl x2)] [] μ K5) ?_ (fun K5 hK5 => ?_)
          · skip
            refine S_iinc (lv' := fun x6 => [(5, .inl x6), (0, .inr (.inr 0)), (1, .inl p1), (3, .inl p3), (4, .inl x1)]) dX1_leastShame_70 rfl rfl rfl (fun _ => rfl) (fun x6 => ?_)
            refine S_goto (tgt := 14) dX1_leastShame_73 (by decide) ?_
            exact S_sub [1, 2, 3, 4, 0] rfl (ih x6)
          refine S_ic_ne (tgt := 70) dX1_leastShame_59 (by decide) (fun h8 => ?_) (fun h8 => ?_)
          · exact S_sub [1, 2, 3, 4, 5] rfl (hK5)
          · refine S_iload dX1_leastShame_62 rfl ?_
            refine S_if_eq (tgt := 70) dX1_leastShame_64 (by decide) (fun h7 => ?_) (fun h7 => ?_)
            · exact S_sub [1, 2, 3, 4, 5] rfl (hK5)
            · refine S_iload dX1_leastShame_67 rfl ?_
              exact S_iret dX1_leastShame_69 rfl rfl
  exact S_sub [2, 3, 5, 1, 0] rfl (hL14 fuel 0)
def fX1_priceByShares_L33 (p1 : Int) (x1 : Int) (p2 : Int) : Nat → Int → Int → Mem → Option (Int × Mem)
  | 0, _, _, _ => none
  | n5 + 1, x2, x3, μ4 =>
    if (μ4 20 4) ≤ x3 then
      some (x2, μ4)
    else
      mlet (fun (x6 : Int) =>
        grd (0 ≤ x3 ∧ x3 < 6) <|
        mlet (wr μ4 37 (x3).toNat x6) fun μ8 =>
        grd (0 ≤ x3 ∧ x3 < 6) <|
        if ¬ (μ8 37 (x3).toNat) = (-9) then
          mlet (fun (x9 : Int) =>
            mlet ((w32 (x2 + x9))) fun x11 =>
            mlet (w32 (x3 + 1)) fun x12 =>
            fX1_priceByShares_L33 p1 x1 p2 n5 x11 x12 μ8
            ) fun (K10 : Int → Option (Int × Mem)) =>
          if ¬ x3 = p1 then
            grd (0 ≤ x3 ∧ x3 < 6) <|
            K10 (μ8 37 (x3).toNat)
          else
            K10 0
        else
          some ((-9), μ8)
        ) fun (K7 : Int → Option (Int × Mem)) =>
      if ¬ x3 = p1 then
        (fX1_leastShame x3 p1 x1 μ4).bind fun x15 =>
        K7 x15
      else
        K7 p2
def fX1_priceByShares (p1 : Int) (p2 : Int) (μ : Mem) : Option (Int × Mem) :=
  grd (0 ≤ p1 ∧ p1 < 6) <|
  (fX0_boldnessAt 20 p1 (w32 ((μ 23 (p1).toNat) + p2)) μ).bind fun x1 =>
  if ¬ x1 = 0 then
    fX1_priceByShares_L33 p1 x1 p2 fuel p2 0 μ
  else
    some ((-9), μ)
theorem K_X1_priceByShares {σ : Scr}  (p1 : Int) (p2 : Int)  (μ : Mem) : Con σ yX1_priceByShares cX1_priceByShares 6 (some .int) 6 [.inr (.inr 0), .inl p1, .inl p2] μ (fX1_priceByShares p1 p2 μ) wI := by
  refine con_of (own := RX1) (by decide) rfl (Nat.le_of_ble_eq_true rfl) ?_
  show Sim σ cX1_priceByShares 6 RX1 (6) (some .int) wI 0 [(0, .inr (.inr 0)), (1, .inl p1), (2, .inl p2)] [] μ (fX1_priceByShares p1 p2 μ)
  unfold fX1_priceByShares
  refine S_aload_n dX1_priceByShares_0 rfl ?_
  refine S_getR (c1 := 20) dX1_priceByShares_1 rfl fl_X1_33 rfl rfl rfl ?_
  refine S_iload_n dX1_priceByShares_4 rfl ?_
  refine S_aload_n dX1_priceByShares_5 rfl ?_
  refine S_getR (c1 := 20) dX1_priceByShares_6 rfl fl_X1_33 rfl rfl rfl ?_
  refine S_getR (c1 := 23) dX1_priceByShares_9 rfl fl_X1_156 rfl rfl rfl ?_
  refine S_iload_n dX1_priceByShares_12 rfl ?_
  refine S_iald (N := 6) dX1_priceByShares_13 rfl (by decide) rfl ?_
  refine S_iload_n dX1_priceByShares_14 rfl ?_
  refine S_iadd dX1_priceByShares_15 ?_
  refine S_callW_I dX1_priceByShares_16 [.inl p1, .inl (w32 ((μ 23 (p1).toNat) + p2))] (K_X0_boldnessAt (by unfold isBk; decide) p1 (w32 ((μ 23 (p1).toNat) + p2)) μ) l_X1_299 yo_X0_boldnessAt rfl rfl rfl rfl rfl (fun x1 => ?_)
  refine S_istore_n (lv' := [(3, .inl x1), (0, .inr (.inr 0)), (1, .inl p1), (2, .inl p2)]) dX1_priceByShares_19 rfl rfl ?_
  refine S_iload_n dX1_priceByShares_20 rfl ?_
  refine S_if_ne (tgt := 27) dX1_priceByShares_21 (by decide) (fun h18 => ?_) (fun h18 => ?_)
  · refine S_iload_n dX1_priceByShares_27 rfl ?_
    refine S_istore (lv' := [(4, .inl p2), (3, .inl x1), (0, .inr (.inr 0)), (1, .inl p1), (2, .inl p2)]) dX1_priceByShares_28 rfl rfl ?_
    refine S_iconst dX1_priceByShares_30 rfl ?_
    refine S_istore (lv' := [(5, .inl 0), (4, .inl p2), (3, .inl x1), (0, .inr (.inr 0)), (1, .inl p1), (2, .inl p2)]) dX1_priceByShares_31 rfl rfl ?_
    have hL33 : ∀ (n5 : Nat) (x2 : Int) (x3 : Int) (μ4 : Mem), Sim σ cX1_priceByShares 6 RX1 (6) (some .int) wI 33 [(0, .inr (.inr 0)), (1, .inl p1), (2, .inl p2), (3, .inl x1), (4, .inl x2), (5, .inl x3)] [] μ4 (fX1_priceByShares_L33 p1 x1 p2 n5 x2 x3 μ4) := by
      intro n5
      induction n5 with
      | zero =>
        intro x2 x3 μ4
        exact S_none rfl
      | succ n5 ih =>
        intro x2 x3 μ4
        rw [fX1_priceByShares_L33]
        refine S_iload dX1_priceByShares_33 rfl ?_
        refine S_aload_n dX1_priceByShares_35 rfl ?_
        refine S_getR (c1 := 20) dX1_priceByShares_36 rfl fl_X1_33 rfl rfl rfl ?_
        refine S_getI dX1_priceByShares_39 rfl fl_X1_122 rfl rfl ?_
        refine S_ic_ge (tgt := 113) dX1_priceByShares_42 (by decide) (fun h17 => ?_) (fun h17 => ?_)
        · refine S_iload dX1_priceByShares_113 rfl ?_
          exact S_iret dX1_priceByShares_115 rfl rfl
        · refine S_aload_n dX1_priceByShares_45 rfl ?_
          refine S_getR (c1 := 37) dX1_priceByShares_46 rfl fl_X1_68 rfl rfl rfl ?_
          refine S_iload dX1_priceByShares_49 rfl ?_
          refine S_iload dX1_priceByShares_51 rfl ?_
          refine S_iload_n dX1_priceByShares_53 rfl ?_
          refine S_jn (fun (K7 : Int → Option (Int × Mem)) => ∀ (x6 : Int), Sim σ cX1_priceByShares 6 RX1 (6) (some .int) wI 69 [(0, .inr (.inr 0)), (1, .inl p1), (2, .inl p2), (3, .inl x1), (4, .inl x2), (5, .inl x3)] [.inl x6, .inl x3, .inr (.inr 37)] μ4 (K7 x6)) ?_ (fun K7 hK7 => ?_)
          · intro x6
            refine S_iast (N := 6) dX1_priceByShares_69 rfl (by decide) rfl (fun μ8 => ?_)
            refine S_aload_n dX1_priceByShares_70 rfl ?_
            refine S_getR (c1 := 37) dX1_priceByShares_71 rfl fl_X1_68 rfl rfl rfl ?_
            refine S_iload dX1_priceByShares_74 rfl ?_
            refine S_iald (N := 6) dX1_priceByShares_76 rfl (by decide) rfl ?_
            refine S_bipush dX1_priceByShares_77 rfl (by decide) ?_
            refine S_ic_ne (tgt := 85) dX1_priceByShares_79 (by decide) (fun h14 => ?_) (fun h14 => ?_)
            · refine S_iload dX1_priceByShares_85 rfl ?_
              refine S_iload dX1_priceByShares_87 rfl ?_
              refine S_iload_n dX1_priceByShares_89 rfl ?_
              refine S_jn (fun (K10 : Int → Option (Int × Mem)) => ∀ (x9 : Int), Sim σ cX1_priceByShares 6 RX1 (6) (some .int) wI 104 [(0, .inr (.inr 0)), (1, .inl p1), (2, .inl p2), (3, .inl x1), (5, .inl x3)] [.inl x9, .inl x2] μ8 (K10 x9)) ?_ (fun K10 hK10 => ?_)
              · intro x9
                refine S_iadd dX1_priceByShares_104 ?_
                refine S_let (fun x11 => ?_)
                refine S_istore (lv' := [(4, .inl x11), (0, .inr (.inr 0)), (1, .inl p1), (2, .inl p2), (3, .inl x1), (5, .inl x3)]) dX1_priceByShares_105 rfl rfl ?_
                refine S_iinc (lv' := fun x12 => [(5, .inl x12), (4, .inl x11), (0, .inr (.inr 0)), (1, .inl p1), (2, .inl p2), (3, .inl x1)]) dX1_priceByShares_107 rfl rfl rfl (fun _ => rfl) (fun x12 => ?_)
                refine S_goto (tgt := 33) dX1_priceByShares_110 (by decide) ?_
                exact S_sub [2, 3, 4, 5, 1, 0] rfl (ih x11 x12 μ8)
              refine S_ic_ne (tgt := 97) dX1_priceByShares_90 (by decide) (fun h13 => ?_) (fun h13 => ?_)
              · refine S_aload_n dX1_priceByShares_97 rfl ?_
                refine S_getR (c1 := 37) dX1_priceByShares_98 rfl fl_X1_68 rfl rfl rfl ?_
                refine S_iload dX1_priceByShares_101 rfl ?_
                refine S_iald (N := 6) dX1_priceByShares_103 rfl (by decide) rfl ?_
                exact S_sub [0, 1, 2, 3, 5] rfl (hK10 (μ8 37 (x3).toNat))
              · refine S_iconst dX1_priceByShares_93 rfl ?_
                refine S_goto (tgt := 104) dX1_priceByShares_94 (by decide) ?_
                exact S_sub [0, 1, 2, 3, 5] rfl (hK10 0)
            · refine S_bipush dX1_priceByShares_82 rfl (by decide) ?_
              exact S_iret dX1_priceByShares_84 rfl rfl
          refine S_ic_ne (tgt := 61) dX1_priceByShares_54 (by decide) (fun h16 => ?_) (fun h16 => ?_)
          · refine S_aload_n dX1_priceByShares_61 rfl ?_
            refine S_iload dX1_priceByShares_62 rfl ?_
            refine S_iload_n dX1_priceByShares_64 rfl ?_
            refine S_iload_n dX1_priceByShares_65 rfl ?_
            refine S_callV_I dX1_priceByShares_66 [.inl x3, .inl p1, .inl x1] (K_X1_leastShame x3 p1 x1 μ4) l_X1_302 yo_X1_leastShame rfl rfl rfl rfl rfl (fun x15 => ?_)
            exact S_sub [0, 1, 2, 3, 4, 5] rfl (hK7 x15)
          · refine S_iload_n dX1_priceByShares_57 rfl ?_
            refine S_goto (tgt := 69) dX1_priceByShares_58 (by decide) ?_
            exact S_sub [0, 1, 2, 3, 4, 5] rfl (hK7 p2)
    exact S_sub [3, 4, 5, 2, 1, 0] rfl (hL33 fuel p2 0 μ)
  · refine S_bipush dX1_priceByShares_24 rfl (by decide) ?_
    exact S_iret dX1_priceByShares_26 rfl rfl
def fX1_cheap_L29 (p1 : Int) (K6 : Int → Int → Mem → Option (Int × Mem)) : Nat → Int → Int → Int → Mem → Option (Int × Mem)
  | 0, _, _, _, _ => none
  | n17 + 1, x13, x14, x15, μ16 =>
    grd (0 ≤ p1 ∧ p1 < 6) <|
    if 20 < (w32 ((μ16 23 (p1).toNat) + x15)) then
      K6 x13 x14 μ16
    else
      bnd2 (fX1_priceByShares p1 x15 μ16) fun x18 μ19 =>
      mlet (fun (x20 : Int) (x21 : Int) =>
        mlet (w32 (x15 + 1)) fun x23 =>
        fX1_cheap_L29 p1 K6 n17 x20 x21 x23 μ19
        ) fun (K22 : Int → Int → Option (Int × Mem)) =>
      if x18 = (-9) then
        K22 x13 x14
      else
        mlet (
          K22 x18 x15
          : Option (Int × Mem)) fun (K24 : Option (Int × Mem)) =>
        if x13 = (-9) then
          K24
        else
          if x13 ≤ x18 then
            K22 x13 x14
          else
            K24
def fX1_cheap (p1 : Int) (p2 : Int) (μ : Mem) : Option (Int × Mem) :=
  (fX0_has 20 p1 μ).bind fun x1 =>
  if x1 = 0 then
    some ((-1), μ)
  else
    (fX1_isRow p2 μ).bind fun x2 =>
    if ¬ x2 = 0 then
      mlet (fun (x3 : Int) (x4 : Int) (μ5 : Mem) =>
        if ¬ x3 = (-9) then
          bnd2 (fX1_priceByShares p1 x4 μ5) fun x7 μ8 =>
          (fX1_layAnew p2 (μ8 20 4) μ8).bind fun μ9 =>
          grd (0 ≤ p2 ∧ p2 < 6) <|
          mlet (2 + (p2).toNat) fun c10 =>
          grd (0 ≤ (0 : Int) ∧ 0 ≤ (0 : Int) ∧ 0 ≤ (μ9 20 4) ∧ (0 : Int) + (μ9 20 4) ≤ 6 ∧ (0 : Int) + (μ9 20 4) ≤ 40) <|
          mlet (cpy μ9 37 ((0 : Int)).toNat c10 ((0 : Int)).toNat ((μ9 20 4)).toNat) fun μ11 =>
          some (x3, μ11)
        else
          some ((-9), μ5)
        ) fun (K6 : Int → Int → Mem → Option (Int × Mem)) =>
      fX1_cheap_L29 p1 K6 fuel (-9) 0 0 μ
    else
      some ((-1), μ)
theorem K_X1_cheap {σ : Scr}  (p1 : Int) (p2 : Int)  (μ : Mem) : Con σ yX1_cheap cX1_cheap 7 (some .int) 7 [.inr (.inr 0), .inl p1, .inl p2] μ (fX1_cheap p1 p2 μ) wI := by
  refine con_of (own := RX1) (by decide) rfl (Nat.le_of_ble_eq_true rfl) ?_
  show Sim σ cX1_cheap 7 RX1 (7) (some .int) wI 0 [(0, .inr (.inr 0)), (1, .inl p1), (2, .inl p2)] [] μ (fX1_cheap p1 p2 μ)
  unfold fX1_cheap
  refine S_aload_n dX1_cheap_0 rfl ?_
  refine S_getR (c1 := 20) dX1_cheap_1 rfl fl_X1_33 rfl rfl rfl ?_
  refine S_iload_n dX1_cheap_4 rfl ?_
  refine S_callW_I dX1_cheap_5 [.inl p1] (K_X0_has (by unfold isBk; decide) p1 μ) l_X1_125 yo_X0_has rfl rfl rfl rfl rfl (fun x1 => ?_)
  refine S_if_eq (tgt := 18) dX1_cheap_8 (by decide) (fun h30 => ?_) (fun h30 => ?_)
  · refine S_iconst dX1_cheap_18 rfl ?_
    exact S_iret dX1_cheap_19 rfl rfl
  · refine S_iload_n dX1_cheap_11 rfl ?_
    refine S_callS_I dX1_cheap_12 [.inl p2] (K_X1_isRow p2 μ) l_X1_83 yo_X1_isRow rfl rfl rfl (fun x2 => ?_)
    refine S_if_ne (tgt := 20) dX1_cheap_15 (by decide) (fun h29 => ?_) (fun h29 => ?_)
    · refine S_bipush dX1_cheap_20 rfl (by decide) ?_
      refine S_istore_n (lv' := [(3, .inl (-9)), (0, .inr (.inr 0)), (1, .inl p1), (2, .inl p2)]) dX1_cheap_22 rfl rfl ?_
      refine S_iconst dX1_cheap_23 rfl ?_
      refine S_istore (lv' := [(4, .inl 0), (3, .inl (-9)), (0, .inr (.inr 0)), (1, .inl p1), (2, .inl p2)]) dX1_cheap_24 rfl rfl ?_
      refine S_iconst dX1_cheap_26 rfl ?_
      refine S_istore (lv' := [(5, .inl 0), (4, .inl 0), (3, .inl (-9)), (0, .inr (.inr 0)), (1, .inl p1), (2, .inl p2)]) dX1_cheap_27 rfl rfl ?_
      refine S_jn (fun (K6 : Int → Int → Mem → Option (Int × Mem)) => ∀ (x3 : Int) (x4 : Int) (μ5 : Mem), Sim σ cX1_cheap 7 RX1 (7) (some .int) wI 87 [(0, .inr (.inr 0)), (1, .inl p1), (2, .inl p2), (3, .inl x3), (4, .inl x4)] [] μ5 (K6 x3 x4 μ5)) ?_ (fun K6 hK6 => ?_)
      · intro x3 x4 μ5
        refine S_iload_n dX1_cheap_87 rfl ?_
        refine S_bipush dX1_cheap_88 rfl (by decide) ?_
        refine S_ic_ne (tgt := 96) dX1_cheap_90 (by decide) (fun h12 => ?_) (fun h12 => ?_)
        · refine S_aload_n dX1_cheap_96 rfl ?_
          refine S_iload_n dX1_cheap_97 rfl ?_
          refine S_iload dX1_cheap_98 rfl ?_
          refine S_callV_M2 dX1_cheap_100 [.inl p1, .inl x4] (K_X1_priceByShares p1 x4 μ5) l_X1_188 yo_X1_priceByShares rfl rfl rfl rfl rfl (fun x7 μ8 => ?_)
          refine S_pop dX1_cheap_103 rfl ?_
          refine S_aload_n dX1_cheap_104 rfl ?_
          refine S_iload_n dX1_cheap_105 rfl ?_
          refine S_aload_n dX1_cheap_106 rfl ?_
          refine S_getR (c1 := 20) dX1_cheap_107 rfl fl_X1_33 rfl rfl rfl ?_
          refine S_getI dX1_cheap_110 rfl fl_X1_122 rfl rfl ?_
          refine S_callV_V dX1_cheap_113 [.inl p2, .inl (μ8 20 4)] (K_X1_layAnew p2 (μ8 20 4) μ8) l_X1_91 yo_X1_layAnew rfl rfl rfl rfl rfl (fun μ9 => ?_)
          refine S_aload_n dX1_cheap_116 rfl ?_
          refine S_getR (c1 := 37) dX1_cheap_117 rfl fl_X1_68 rfl rfl rfl ?_
          refine S_iconst dX1_cheap_120 rfl ?_
          refine S_aload_n dX1_cheap_121 rfl ?_
          refine S_getR (c1 := 1) dX1_cheap_122 rfl fl_X1_11 rfl rfl rfl ?_
          refine S_iload_n dX1_cheap_125 rfl ?_
          refine S_aald (N := 6) (c1 := 2) (c2 := 8) dX1_cheap_126 rfl (by decide) (by decide) rfl rfl rfl (fun c10 hc10 => ?_)
          refine S_iconst dX1_cheap_127 rfl ?_
          refine S_aload_n dX1_cheap_128 rfl ?_
          refine S_getR (c1 := 20) dX1_cheap_129 rfl fl_X1_33 rfl rfl rfl ?_
          refine S_getI dX1_cheap_132 rfl fl_X1_122 rfl rfl ?_
          refine S_acopy (N0 := 6) (N1 := 40) dX1_cheap_135 jl_X1_102 jm_an jm_as jm_S rfl (by decide) (kd_row hc10) (fam_lt hc10 (by decide)) rfl rfl rfl rfl jm_w (fun μ11 => ?_)
          refine S_iload_n dX1_cheap_138 rfl ?_
          exact S_iret dX1_cheap_139 rfl rfl
        · refine S_bipush dX1_cheap_93 rfl (by decide) ?_
          exact S_iret dX1_cheap_95 rfl rfl
      have hL29 : ∀ (n17 : Nat) (x13 : Int) (x14 : Int) (x15 : Int) (μ16 : Mem), Sim σ cX1_cheap 7 RX1 (7) (some .int) wI 29 [(0, .inr (.inr 0)), (1, .inl p1), (2, .inl p2), (3, .inl x13), (4, .inl x14), (5, .inl x15)] [] μ16 (fX1_cheap_L29 p1 K6 n17 x13 x14 x15 μ16) := by
        intro n17
        induction n17 with
        | zero =>
          intro x13 x14 x15 μ16
          exact S_none rfl
        | succ n17 ih =>
          intro x13 x14 x15 μ16
          rw [fX1_cheap_L29]
          refine S_aload_n dX1_cheap_29 rfl ?_
          refine S_getR (c1 := 20) dX1_cheap_30 rfl fl_X1_33 rfl rfl rfl ?_
          refine S_getR (c1 := 23) dX1_cheap_33 rfl fl_X1_156 rfl rfl rfl ?_
          refine S_iload_n dX1_cheap_36 rfl ?_
          refine S_iald (N := 6) dX1_cheap_37 rfl (by decide) rfl ?_
          refine S_iload dX1_cheap_38 rfl ?_
          refine S_iadd dX1_cheap_40 ?_
          refine S_bipush dX1_cheap_41 rfl (by decide) ?_
          refine S_ic_gt (tgt := 87) dX1_cheap_43 (by decide) (fun h28 => ?_) (fun h28 => ?_)
          · exact S_sub [0, 1, 2, 3, 4] rfl (hK6 x13 x14 μ16)
          · refine S_aload_n dX1_cheap_46 rfl ?_
            refine S_iload_n dX1_cheap_47 rfl ?_
            refine S_iload dX1_cheap_48 rfl ?_
            refine S_callV_M2 dX1_cheap_50 [.inl p1, .inl x15] (K_X1_priceByShares p1 x15 μ16) l_X1_188 yo_X1_priceByShares rfl rfl rfl rfl rfl (fun x18 μ19 => ?_)
            refine S_istore (lv' := [(6, .inl x18), (0, .inr (.inr 0)), (1, .inl p1), (2, .inl p2), (3, .inl x13), (4, .inl x14), (5, .inl x15)]) dX1_cheap_53 rfl rfl ?_
            refine S_iload dX1_cheap_55 rfl ?_
            refine S_bipush dX1_cheap_57 rfl (by decide) ?_
            refine S_jn (fun (K22 : Int → Int → Option (Int × Mem)) => ∀ (x20 : Int) (x21 : Int), Sim σ cX1_cheap 7 RX1 (7) (some .int) wI 81 [(0, .inr (.inr 0)), (1, .inl p1), (2, .inl p2), (3, .inl x20), (4, .inl x21), (5, .inl x15)] [] μ19 (K22 x20 x21)) ?_ (fun K22 hK22 => ?_)
            · intro x20 x21
              refine S_iinc (lv' := fun x23 => [(5, .inl x23), (0, .inr (.inr 0)), (1, .inl p1), (2, .inl p2), (3, .inl x20), (4, .inl x21)]) dX1_cheap_81 rfl rfl rfl (fun _ => rfl) (fun x23 => ?_)
              refine S_goto (tgt := 29) dX1_cheap_84 (by decide) ?_
              exact S_sub [1, 2, 3, 4, 5, 0] rfl (ih x20 x21 x23 μ19)
            refine S_ic_eq (tgt := 81) dX1_cheap_59 (by decide) (fun h27 => ?_) (fun h27 => ?_)
            · exact S_sub [1, 2, 3, 4, 5, 6] rfl (hK22 x13 x14)
            · refine S_iload_n dX1_cheap_62 rfl ?_
              refine S_bipush dX1_cheap_63 rfl (by decide) ?_
              refine S_jn (fun (K24 : Option (Int × Mem)) => Sim σ cX1_cheap 7 RX1 (7) (some .int) wI 74 [(0, .inr (.inr 0)), (1, .inl p1), (2, .inl p2), (5, .inl x15), (6, .inl x18)] [] μ19 K24) ?_ (fun K24 hK24 => ?_)
              · skip
                refine S_iload dX1_cheap_74 rfl ?_
                refine S_istore_n (lv' := [(3, .inl x18), (0, .inr (.inr 0)), (1, .inl p1), (2, .inl p2), (5, .inl x15), (6, .inl x18)]) dX1_cheap_76 rfl rfl ?_
                refine S_iload dX1_cheap_77 rfl ?_
                refine S_istore (lv' := [(4, .inl x15), (3, .inl x18), (0, .inr (.inr 0)), (1, .inl p1), (2, .inl p2), (5, .inl x15), (6, .inl x18)]) dX1_cheap_79 rfl rfl ?_
                exact S_sub [2, 3, 4, 1, 0, 5] rfl (hK22 x18 x15)
              refine S_ic_eq (tgt := 74) dX1_cheap_65 (by decide) (fun h26 => ?_) (fun h26 => ?_)
              · exact S_sub [1, 2, 3, 6, 0] rfl (hK24)
              · refine S_iload dX1_cheap_68 rfl ?_
                refine S_iload_n dX1_cheap_70 rfl ?_
                refine S_ic_ge (tgt := 81) dX1_cheap_71 (by decide) (fun h25 => ?_) (fun h25 => ?_)
                · exact S_sub [1, 2, 3, 4, 5, 6] rfl (hK22 x13 x14)
                · exact S_sub [1, 2, 3, 6, 0] rfl (hK24)
      exact S_sub [3, 4, 5, 2, 1, 0] rfl (hL29 fuel (-9) 0 0 μ)
    · refine S_iconst dX1_cheap_18 rfl ?_
      exact S_iret dX1_cheap_19 rfl rfl
def fX1_goesAsideBy_L2 (p1 : Int) : Nat → Int → Mem → Option (Int × Mem)
  | 0, _, _ => none
  | n3 + 1, x1, μ2 =>
    grd (0 ≤ p1 ∧ p1 < 6) <|
    if (μ2 8 (p1).toNat) ≤ x1 then
      some (1, μ2)
    else
      bnd2 (fX0_passNight 25 μ2) fun x4 μ5 =>
      grd (0 ≤ p1 ∧ p1 < 6) <|
      mlet (2 + (p1).toNat) fun c6 =>
      grd (0 ≤ x1 ∧ x1 < 40) <|
      if x4 = (μ5 c6 (x1).toNat) then
        mlet (w32 (x1 + 1)) fun x7 =>
        fX1_goesAsideBy_L2 p1 n3 x7 μ5
      else
        some (0, μ5)
def fX1_goesAsideBy (p1 : Int) (μ : Mem) : Option (Int × Mem) :=
  fX1_goesAsideBy_L2 p1 fuel 0 μ
theorem K_X1_goesAsideBy {σ : Scr}  (p1 : Int)  (μ : Mem) : Con σ yX1_goesAsideBy cX1_goesAsideBy 3 (some .boolean) 7 [.inr (.inr 0), .inl p1] μ (fX1_goesAsideBy p1 μ) wI := by
  refine con_of (own := RX1) (by decide) rfl (Nat.le_of_ble_eq_true rfl) ?_
  show Sim σ cX1_goesAsideBy 3 RX1 (7) (some .boolean) wI 0 [(0, .inr (.inr 0)), (1, .inl p1)] [] μ (fX1_goesAsideBy p1 μ)
  unfold fX1_goesAsideBy
  refine S_iconst dX1_goesAsideBy_0 rfl ?_
  refine S_istore_n (lv' := [(2, .inl 0), (0, .inr (.inr 0)), (1, .inl p1)]) dX1_goesAsideBy_1 rfl rfl ?_
  have hL2 : ∀ (n3 : Nat) (x1 : Int) (μ2 : Mem), Sim σ cX1_goesAsideBy 3 RX1 (7) (some .boolean) wI 2 [(0, .inr (.inr 0)), (1, .inl p1), (2, .inl x1)] [] μ2 (fX1_goesAsideBy_L2 p1 n3 x1 μ2) := by
    intro n3
    induction n3 with
    | zero =>
      intro x1 μ2
      exact S_none rfl
    | succ n3 ih =>
      intro x1 μ2
      rw [fX1_goesAsideBy_L2]
      refine S_iload_n dX1_goesAsideBy_2 rfl ?_
      refine S_aload_n dX1_goesAsideBy_3 rfl ?_
      refine S_getR (c1 := 8) dX1_goesAsideBy_4 rfl fl_X1_14 rfl rfl rfl ?_
      refine S_iload_n dX1_goesAsideBy_7 rfl ?_
      refine S_iald (N := 6) dX1_goesAsideBy_8 rfl (by decide) rfl ?_
      refine S_ic_ge (tgt := 38) dX1_goesAsideBy_9 (by decide) (fun h9 => ?_) (fun h9 => ?_)
      · refine S_iconst dX1_goesAsideBy_38 rfl ?_
        exact S_zret dX1_goesAsideBy_39 rfl (by decide) rfl
      · refine S_aload_n dX1_goesAsideBy_12 rfl ?_
        refine S_getR (c1 := 25) dX1_goesAsideBy_13 rfl fl_X1_36 rfl rfl rfl ?_
        refine S_callW_M2 dX1_goesAsideBy_16 [] (K_X0_passNight (by unfold isBk; decide) μ2) l_X1_184 yo_X0_passNight rfl rfl rfl rfl rfl (fun x4 μ5 => ?_)
        refine S_aload_n dX1_goesAsideBy_19 rfl ?_
        refine S_getR (c1 := 1) dX1_goesAsideBy_20 rfl fl_X1_11 rfl rfl rfl ?_
        refine S_iload_n dX1_goesAsideBy_23 rfl ?_
        refine S_aald (N := 6) (c1 := 2) (c2 := 8) dX1_goesAsideBy_24 rfl (by decide) (by decide) rfl rfl rfl (fun c6 hc6 => ?_)
        refine S_iload_n dX1_goesAsideBy_25 rfl ?_
        refine S_iald (N := 40) dX1_goesAsideBy_26 (kd_row hc6) (fam_lt hc6 (by decide)) rfl ?_
        refine S_ic_eq (tgt := 32) dX1_goesAsideBy_27 (by decide) (fun h8 => ?_) (fun h8 => ?_)
        · refine S_iinc (lv' := fun x7 => [(2, .inl x7), (0, .inr (.inr 0)), (1, .inl p1)]) dX1_goesAsideBy_32 rfl rfl rfl (fun _ => rfl) (fun x7 => ?_)
          refine S_goto (tgt := 2) dX1_goesAsideBy_35 (by decide) ?_
          exact S_sub [1, 2, 0] rfl (ih x7 μ5)
        · refine S_iconst dX1_goesAsideBy_30 rfl ?_
          exact S_zret dX1_goesAsideBy_31 rfl (by decide) rfl
  exact S_sub [1, 2, 0] rfl (hL2 fuel 0 μ)
