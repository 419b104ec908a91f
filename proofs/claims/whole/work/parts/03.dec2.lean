theorem dX7_keep_1 : decode cX7_keep 1 = .ok (.ifCond .lt 8, 3) := by decide +kernel
theorem dX7_keep_4 : decode cX7_keep 4 = .ok (.iload_n 1, 1) := by decide +kernel
theorem dX7_keep_5 : decode cX7_keep 5 = .ok (.iconst 3, 1) := by decide +kernel
theorem dX7_keep_6 : decode cX7_keep 6 = .ok (.if_icmp .lt 5, 3) := by decide +kernel
theorem dX7_keep_9 : decode cX7_keep 9 = .ok (.iconst (-1), 1) := by decide +kernel
theorem dX7_keep_10 : decode cX7_keep 10 = .ok (.ireturn, 1) := by decide +kernel
theorem dX7_keep_11 : decode cX7_keep 11 = .ok (.aload_n 0, 1) := by decide +kernel
theorem dX7_keep_12 : decode cX7_keep 12 = .ok (.getfield 77, 3) := by decide +kernel
theorem dX7_keep_15 : decode cX7_keep 15 = .ok (.getfield 154, 3) := by decide +kernel
theorem dX7_keep_18 : decode cX7_keep 18 = .ok (.ifCond .ne 6, 3) := by decide +kernel
theorem dX7_keep_21 : decode cX7_keep 21 = .ok (.bipush (-4), 2) := by decide +kernel
theorem dX7_keep_23 : decode cX7_keep 23 = .ok (.ireturn, 1) := by decide +kernel
theorem dX7_keep_24 : decode cX7_keep 24 = .ok (.aload_n 0, 1) := by decide +kernel
theorem dX7_keep_25 : decode cX7_keep 25 = .ok (.getfield 35, 3) := by decide +kernel
theorem dX7_keep_28 : decode cX7_keep 28 = .ok (.iload_n 1, 1) := by decide +kernel
theorem dX7_keep_29 : decode cX7_keep 29 = .ok (.aaload, 1) := by decide +kernel
theorem dX7_keep_30 : decode cX7_keep 30 = .ok (.aload_n 0, 1) := by decide +kernel
theorem dX7_keep_31 : decode cX7_keep 31 = .ok (.getfield 31, 3) := by decide +kernel
theorem dX7_keep_34 : decode cX7_keep 34 = .ok (.invokevirtual 225, 3) := by decide +kernel
theorem dX7_keep_37 : decode cX7_keep 37 = .ok (.aload_n 0, 1) := by decide +kernel
theorem dX7_keep_38 : decode cX7_keep 38 = .ok (.getfield 35, 3) := by decide +kernel
theorem dX7_keep_41 : decode cX7_keep 41 = .ok (.iload_n 1, 1) := by decide +kernel
theorem dX7_keep_42 : decode cX7_keep 42 = .ok (.aaload, 1) := by decide +kernel
theorem dX7_keep_43 : decode cX7_keep 43 = .ok (.iconst 1, 1) := by decide +kernel
theorem dX7_keep_44 : decode cX7_keep 44 = .ok (.putfield 147, 3) := by decide +kernel
theorem dX7_keep_47 : decode cX7_keep 47 = .ok (.aload_n 0, 1) := by decide +kernel
theorem dX7_keep_48 : decode cX7_keep 48 = .ok (.getfield 31, 3) := by decide +kernel
theorem dX7_keep_51 : decode cX7_keep 51 = .ok (.getfield 206, 3) := by decide +kernel
theorem dX7_keep_54 : decode cX7_keep 54 = .ok (.ireturn, 1) := by decide +kernel
theorem dX7_on_0 : decode cX7_on 0 = .ok (.iload_n 1, 1) := by decide +kernel
theorem dX7_on_1 : decode cX7_on 1 = .ok (.ifCond .lt 8, 3) := by decide +kernel
theorem dX7_on_4 : decode cX7_on 4 = .ok (.iload_n 1, 1) := by decide +kernel
theorem dX7_on_5 : decode cX7_on 5 = .ok (.iconst 3, 1) := by decide +kernel
theorem dX7_on_6 : decode cX7_on 6 = .ok (.if_icmp .lt 5, 3) := by decide +kernel
theorem dX7_on_9 : decode cX7_on 9 = .ok (.iconst (-1), 1) := by decide +kernel
theorem dX7_on_10 : decode cX7_on 10 = .ok (.ireturn, 1) := by decide +kernel
theorem dX7_on_11 : decode cX7_on 11 = .ok (.aload_n 0, 1) := by decide +kernel
theorem dX7_on_12 : decode cX7_on 12 = .ok (.getfield 35, 3) := by decide +kernel
theorem dX7_on_15 : decode cX7_on 15 = .ok (.iload_n 1, 1) := by decide +kernel
theorem dX7_on_16 : decode cX7_on 16 = .ok (.aaload, 1) := by decide +kernel
theorem dX7_on_17 : decode cX7_on 17 = .ok (.getfield 147, 3) := by decide +kernel
theorem dX7_on_20 : decode cX7_on 20 = .ok (.ifCond .ne 9, 3) := by decide +kernel
theorem dX7_on_23 : decode cX7_on 23 = .ok (.aload_n 0, 1) := by decide +kernel
theorem dX7_on_24 : decode cX7_on 24 = .ok (.iconst 1, 1) := by decide +kernel
theorem dX7_on_25 : decode cX7_on 25 = .ok (.invokevirtual 118, 3) := by decide +kernel
theorem dX7_on_28 : decode cX7_on 28 = .ok (.ireturn, 1) := by decide +kernel
theorem dX7_on_29 : decode cX7_on 29 = .ok (.aload_n 0, 1) := by decide +kernel
theorem dX7_on_30 : decode cX7_on 30 = .ok (.getfield 31, 3) := by decide +kernel
theorem dX7_on_33 : decode cX7_on 33 = .ok (.aload_n 0, 1) := by decide +kernel
theorem dX7_on_34 : decode cX7_on 34 = .ok (.getfield 35, 3) := by decide +kernel
theorem dX7_on_37 : decode cX7_on 37 = .ok (.iload_n 1, 1) := by decide +kernel
theorem dX7_on_38 : decode cX7_on 38 = .ok (.aaload, 1) := by decide +kernel
theorem dX7_on_39 : decode cX7_on 39 = .ok (.invokevirtual 225, 3) := by decide +kernel
theorem dX7_on_42 : decode cX7_on 42 = .ok (.aload_n 0, 1) := by decide +kernel
theorem dX7_on_43 : decode cX7_on 43 = .ok (.invokevirtual 84, 3) := by decide +kernel
theorem dX7_on_46 : decode cX7_on 46 = .ok (.aload_n 0, 1) := by decide +kernel
theorem dX7_on_47 : decode cX7_on 47 = .ok (.getfield 31, 3) := by decide +kernel
theorem dX7_on_50 : decode cX7_on 50 = .ok (.getfield 206, 3) := by decide +kernel
theorem dX7_on_53 : decode cX7_on 53 = .ok (.ireturn, 1) := by decide +kernel
theorem dX7_near_0 : decode cX7_near 0 = .ok (.aload_n 0, 1) := by decide +kernel
theorem dX7_near_1 : decode cX7_near 1 = .ok (.iload_n 1, 1) := by decide +kernel
theorem dX7_near_2 : decode cX7_near 2 = .ok (.iload_n 1, 1) := by decide +kernel
theorem dX7_near_3 : decode cX7_near 3 = .ok (.invokevirtual 229, 3) := by decide +kernel
theorem dX7_near_6 : decode cX7_near 6 = .ok (.istore_n 2, 1) := by decide +kernel
theorem dX7_near_7 : decode cX7_near 7 = .ok (.iload_n 2, 1) := by decide +kernel
theorem dX7_near_8 : decode cX7_near 8 = .ok (.ifCond .eq 5, 3) := by decide +kernel
theorem dX7_near_11 : decode cX7_near 11 = .ok (.iload_n 2, 1) := by decide +kernel
theorem dX7_near_12 : decode cX7_near 12 = .ok (.ireturn, 1) := by decide +kernel
theorem dX7_near_13 : decode cX7_near 13 = .ok (.aload_n 0, 1) := by decide +kernel
theorem dX7_near_14 : decode cX7_near 14 = .ok (.iload_n 1, 1) := by decide +kernel
theorem dX7_near_15 : decode cX7_near 15 = .ok (.invokevirtual 232, 3) := by decide +kernel
theorem dX7_near_18 : decode cX7_near 18 = .ok (.istore_n 3, 1) := by decide +kernel
theorem dX7_near_19 : decode cX7_near 19 = .ok (.iload_n 3, 1) := by decide +kernel
theorem dX7_near_20 : decode cX7_near 20 = .ok (.bipush (-9), 2) := by decide +kernel
theorem dX7_near_22 : decode cX7_near 22 = .ok (.if_icmp .ne 6, 3) := by decide +kernel
theorem dX7_near_25 : decode cX7_near 25 = .ok (.bipush (-9), 2) := by decide +kernel
theorem dX7_near_27 : decode cX7_near 27 = .ok (.ireturn, 1) := by decide +kernel
theorem dX7_near_28 : decode cX7_near 28 = .ok (.aload_n 0, 1) := by decide +kernel
theorem dX7_near_29 : decode cX7_near 29 = .ok (.aload_n 0, 1) := by decide +kernel
theorem dX7_near_30 : decode cX7_near 30 = .ok (.getfield 51, 3) := by decide +kernel
theorem dX7_near_33 : decode cX7_near 33 = .ok (.iload_n 3, 1) := by decide +kernel
theorem dX7_near_34 : decode cX7_near 34 = .ok (.aload_n 0, 1) := by decide +kernel
theorem dX7_near_35 : decode cX7_near 35 = .ok (.getfield 14, 3) := by decide +kernel
theorem dX7_near_38 : decode cX7_near 38 = .ok (.bipush (-9), 2) := by decide +kernel
theorem dX7_near_40 : decode cX7_near 40 = .ok (.invokevirtual 235, 3) := by decide +kernel
theorem dX7_near_43 : decode cX7_near 43 = .ok (.putfield 99, 3) := by decide +kernel
theorem dX7_near_46 : decode cX7_near 46 = .ok (.aload_n 0, 1) := by decide +kernel
theorem dX7_near_47 : decode cX7_near 47 = .ok (.getfield 51, 3) := by decide +kernel
theorem dX7_near_50 : decode cX7_near 50 = .ok (.iload_n 3, 1) := by decide +kernel
theorem dX7_near_51 : decode cX7_near 51 = .ok (.invokevirtual 239, 3) := by decide +kernel
theorem dX7_near_54 : decode cX7_near 54 = .ok (.ireturn, 1) := by decide +kernel
theorem dX7_path_0 : decode cX7_path 0 = .ok (.aload_n 0, 1) := by decide +kernel
theorem dX7_path_1 : decode cX7_path 1 = .ok (.iload_n 1, 1) := by decide +kernel
theorem dX7_path_2 : decode cX7_path 2 = .ok (.iload_n 2, 1) := by decide +kernel
theorem dX7_path_3 : decode cX7_path 3 = .ok (.invokevirtual 229, 3) := by decide +kernel
theorem dX7_path_6 : decode cX7_path 6 = .ok (.istore_n 3, 1) := by decide +kernel
theorem dX7_path_7 : decode cX7_path 7 = .ok (.iload_n 3, 1) := by decide +kernel
theorem dX7_path_8 : decode cX7_path 8 = .ok (.ifCond .eq 5, 3) := by decide +kernel
theorem dX7_path_11 : decode cX7_path 11 = .ok (.iload_n 3, 1) := by decide +kernel
theorem dX7_path_12 : decode cX7_path 12 = .ok (.ireturn, 1) := by decide +kernel
theorem dX7_path_13 : decode cX7_path 13 = .ok (.aload_n 0, 1) := by decide +kernel
theorem dX7_path_14 : decode cX7_path 14 = .ok (.iload_n 1, 1) := by decide +kernel
theorem dX7_path_15 : decode cX7_path 15 = .ok (.invokevirtual 232, 3) := by decide +kernel
theorem dX7_path_18 : decode cX7_path 18 = .ok (.istore 4, 2) := by decide +kernel
theorem dX7_path_20 : decode cX7_path 20 = .ok (.iload 4, 2) := by decide +kernel
theorem dX7_path_22 : decode cX7_path 22 = .ok (.bipush (-9), 2) := by decide +kernel
theorem dX7_path_24 : decode cX7_path 24 = .ok (.if_icmp .eq 17, 3) := by decide +kernel
theorem dX7_path_27 : decode cX7_path 27 = .ok (.aload_n 0, 1) := by decide +kernel
theorem dX7_path_28 : decode cX7_path 28 = .ok (.getfield 51, 3) := by decide +kernel
theorem dX7_path_31 : decode cX7_path 31 = .ok (.iload 4, 2) := by decide +kernel
theorem dX7_path_33 : decode cX7_path 33 = .ok (.invokevirtual 239, 3) := by decide +kernel
theorem dX7_path_36 : decode cX7_path 36 = .ok (.bipush 40, 2) := by decide +kernel
theorem dX7_path_38 : decode cX7_path 38 = .ok (.if_icmp .le 6, 3) := by decide +kernel
theorem dX7_path_41 : decode cX7_path 41 = .ok (.bipush (-9), 2) := by decide +kernel
theorem dX7_path_43 : decode cX7_path 43 = .ok (.ireturn, 1) := by decide +kernel
theorem dX7_path_44 : decode cX7_path 44 = .ok (.aload_n 0, 1) := by decide +kernel
theorem dX7_path_45 : decode cX7_path 45 = .ok (.getfield 51, 3) := by decide +kernel
theorem dX7_path_48 : decode cX7_path 48 = .ok (.iload 4, 2) := by decide +kernel
theorem dX7_path_50 : decode cX7_path 50 = .ok (.invokevirtual 239, 3) := by decide +kernel
theorem dX7_path_53 : decode cX7_path 53 = .ok (.istore 5, 2) := by decide +kernel
theorem dX7_path_55 : decode cX7_path 55 = .ok (.aload_n 0, 1) := by decide +kernel
theorem dX7_path_56 : decode cX7_path 56 = .ok (.getfield 14, 3) := by decide +kernel
theorem dX7_path_59 : decode cX7_path 59 = .ok (.iload_n 2, 1) := by decide +kernel
theorem dX7_path_60 : decode cX7_path 60 = .ok (.iload 5, 2) := by decide +kernel
theorem dX7_path_62 : decode cX7_path 62 = .ok (.iconst 0, 1) := by decide +kernel
theorem dX7_path_63 : decode cX7_path 63 = .ok (.invokevirtual 242, 3) := by decide +kernel
theorem dX7_path_66 : decode cX7_path 66 = .ok (.aload_n 0, 1) := by decide +kernel
theorem dX7_path_67 : decode cX7_path 67 = .ok (.getfield 51, 3) := by decide +kernel
theorem dX7_path_70 : decode cX7_path 70 = .ok (.iload 4, 2) := by decide +kernel
theorem dX7_path_72 : decode cX7_path 72 = .ok (.aload_n 0, 1) := by decide +kernel
theorem dX7_path_73 : decode cX7_path 73 = .ok (.getfield 14, 3) := by decide +kernel
theorem dX7_path_76 : decode cX7_path 76 = .ok (.iload_n 2, 1) := by decide +kernel
theorem dX7_path_77 : decode cX7_path 77 = .ok (.invokevirtual 235, 3) := by decide +kernel
theorem dX7_path_80 : decode cX7_path 80 = .ok (.pop, 1) := by decide +kernel
theorem dX7_path_81 : decode cX7_path 81 = .ok (.iload 5, 2) := by decide +kernel
theorem dX7_path_83 : decode cX7_path 83 = .ok (.ireturn, 1) := by decide +kernel
theorem dX7_reach_0 : decode cX7_reach 0 = .ok (.aload_n 0, 1) := by decide +kernel
theorem dX7_reach_1 : decode cX7_reach 1 = .ok (.getfield 77, 3) := by decide +kernel
theorem dX7_reach_4 : decode cX7_reach 4 = .ok (.getfield 154, 3) := by decide +kernel
theorem dX7_reach_7 : decode cX7_reach 7 = .ok (.ifCond .ne 6, 3) := by decide +kernel
theorem dX7_reach_10 : decode cX7_reach 10 = .ok (.bipush (-4), 2) := by decide +kernel
theorem dX7_reach_12 : decode cX7_reach 12 = .ok (.ireturn, 1) := by decide +kernel
theorem dX7_reach_13 : decode cX7_reach 13 = .ok (.aload_n 0, 1) := by decide +kernel
theorem dX7_reach_14 : decode cX7_reach 14 = .ok (.getfield 51, 3) := by decide +kernel
theorem dX7_reach_17 : decode cX7_reach 17 = .ok (.aload_n 0, 1) := by decide +kernel
theorem dX7_reach_18 : decode cX7_reach 18 = .ok (.getfield 31, 3) := by decide +kernel
theorem dX7_reach_21 : decode cX7_reach 21 = .ok (.getfield 199, 3) := by decide +kernel
theorem dX7_reach_24 : decode cX7_reach 24 = .ok (.invokevirtual 245, 3) := by decide +kernel
theorem dX7_reach_27 : decode cX7_reach 27 = .ok (.iconst 0, 1) := by decide +kernel
theorem dX7_reach_28 : decode cX7_reach 28 = .ok (.istore_n 1, 1) := by decide +kernel
theorem dX7_reach_29 : decode cX7_reach 29 = .ok (.iconst 0, 1) := by decide +kernel
theorem dX7_reach_30 : decode cX7_reach 30 = .ok (.istore_n 2, 1) := by decide +kernel
theorem dX7_reach_31 : decode cX7_reach 31 = .ok (.iload_n 2, 1) := by decide +kernel
theorem dX7_reach_32 : decode cX7_reach 32 = .ok (.sipush 11880, 3) := by decide +kernel
theorem dX7_reach_35 : decode cX7_reach 35 = .ok (.if_icmp .ge 23, 3) := by decide +kernel
theorem dX7_reach_38 : decode cX7_reach 38 = .ok (.aload_n 0, 1) := by decide +kernel
theorem dX7_reach_39 : decode cX7_reach 39 = .ok (.getfield 51, 3) := by decide +kernel
theorem dX7_reach_42 : decode cX7_reach 42 = .ok (.iload_n 2, 1) := by decide +kernel
theorem dX7_reach_43 : decode cX7_reach 43 = .ok (.invokevirtual 248, 3) := by decide +kernel
theorem dX7_reach_46 : decode cX7_reach 46 = .ok (.ifCond .eq 12, 3) := by decide +kernel
theorem dX7_reach_49 : decode cX7_reach 49 = .ok (.iinc 1 1, 3) := by decide +kernel
theorem dX7_reach_52 : decode cX7_reach 52 = .ok (.iinc 2 1, 3) := by decide +kernel
theorem dX7_reach_55 : decode cX7_reach 55 = .ok (.goto (-24), 3) := by decide +kernel
theorem dX7_reach_58 : decode cX7_reach 58 = .ok (.aload_n 0, 1) := by decide +kernel
theorem dX7_reach_59 : decode cX7_reach 59 = .ok (.aload_n 0, 1) := by decide +kernel
theorem dX7_reach_60 : decode cX7_reach 60 = .ok (.getfield 51, 3) := by decide +kernel
theorem dX7_reach_63 : decode cX7_reach 63 = .ok (.iload_n 1, 1) := by decide +kernel
theorem dX7_reach_64 : decode cX7_reach 64 = .ok (.iconst 1, 1) := by decide +kernel
theorem dX7_reach_65 : decode cX7_reach 65 = .ok (.isub, 1) := by decide +kernel
theorem dX7_reach_66 : decode cX7_reach 66 = .ok (.invokevirtual 239, 3) := by decide +kernel
theorem dX7_reach_69 : decode cX7_reach 69 = .ok (.putfield 99, 3) := by decide +kernel
theorem dX7_reach_72 : decode cX7_reach 72 = .ok (.iload_n 1, 1) := by decide +kernel
theorem dX7_reach_73 : decode cX7_reach 73 = .ok (.ireturn, 1) := by decide +kernel
theorem dX7_where_0 : decode cX7_where 0 = .ok (.aload_n 0, 1) := by decide +kernel
theorem dX7_where_1 : decode cX7_where 1 = .ok (.iload_n 1, 1) := by decide +kernel
theorem dX7_where_2 : decode cX7_where 2 = .ok (.invokevirtual 157, 3) := by decide +kernel
theorem dX7_where_5 : decode cX7_where 5 = .ok (.ifCond .ne 5, 3) := by decide +kernel
theorem dX7_where_8 : decode cX7_where 8 = .ok (.iconst (-1), 1) := by decide +kernel
theorem dX7_where_9 : decode cX7_where 9 = .ok (.ireturn, 1) := by decide +kernel
theorem dX7_where_10 : decode cX7_where 10 = .ok (.aload_n 0, 1) := by decide +kernel
theorem dX7_where_11 : decode cX7_where 11 = .ok (.getfield 51, 3) := by decide +kernel
theorem dX7_where_14 : decode cX7_where 14 = .ok (.aload_n 0, 1) := by decide +kernel
theorem dX7_where_15 : decode cX7_where 15 = .ok (.getfield 31, 3) := by decide +kernel
theorem dX7_where_18 : decode cX7_where 18 = .ok (.getfield 199, 3) := by decide +kernel
theorem dX7_where_21 : decode cX7_where 21 = .ok (.invokevirtual 245, 3) := by decide +kernel
theorem dX7_where_24 : decode cX7_where 24 = .ok (.iconst 0, 1) := by decide +kernel
theorem dX7_where_25 : decode cX7_where 25 = .ok (.istore_n 2, 1) := by decide +kernel
theorem dX7_where_26 : decode cX7_where 26 = .ok (.iconst 0, 1) := by decide +kernel
theorem dX7_where_27 : decode cX7_where 27 = .ok (.istore_n 3, 1) := by decide +kernel
theorem dX7_where_28 : decode cX7_where 28 = .ok (.iload_n 3, 1) := by decide +kernel
theorem dX7_where_29 : decode cX7_where 29 = .ok (.sipush 11880, 3) := by decide +kernel
theorem dX7_where_32 : decode cX7_where 32 = .ok (.if_icmp .ge 60, 3) := by decide +kernel
theorem dX7_where_35 : decode cX7_where 35 = .ok (.aload_n 0, 1) := by decide +kernel
theorem dX7_where_36 : decode cX7_where 36 = .ok (.getfield 51, 3) := by decide +kernel
theorem dX7_where_39 : decode cX7_where 39 = .ok (.iload_n 3, 1) := by decide +kernel
theorem dX7_where_40 : decode cX7_where 40 = .ok (.invokevirtual 248, 3) := by decide +kernel
theorem dX7_where_43 : decode cX7_where 43 = .ok (.ifCond .eq 49, 3) := by decide +kernel
theorem dX7_where_46 : decode cX7_where 46 = .ok (.iconst 1, 1) := by decide +kernel
theorem dX7_where_47 : decode cX7_where 47 = .ok (.aload_n 0, 1) := by decide +kernel
theorem dX7_where_48 : decode cX7_where 48 = .ok (.getfield 51, 3) := by decide +kernel
theorem dX7_where_51 : decode cX7_where 51 = .ok (.iload_n 3, 1) := by decide +kernel
theorem dX7_where_52 : decode cX7_where 52 = .ok (.invokevirtual 251, 3) := by decide +kernel
theorem dX7_where_55 : decode cX7_where 55 = .ok (.iload_n 1, 1) := by decide +kernel
theorem dX7_where_56 : decode cX7_where 56 = .ok (.invokestatic 216, 3) := by decide +kernel
theorem dX7_where_59 : decode cX7_where 59 = .ok (.ishl, 1) := by decide +kernel
theorem dX7_where_60 : decode cX7_where 60 = .ok (.istore 4, 2) := by decide +kernel
theorem dX7_where_62 : decode cX7_where 62 = .ok (.iload_n 2, 1) := by decide +kernel
theorem dX7_where_63 : decode cX7_where 63 = .ok (.iload 4, 2) := by decide +kernel
theorem dX7_where_65 : decode cX7_where 65 = .ok (.iand, 1) := by decide +kernel
theorem dX7_where_66 : decode cX7_where 66 = .ok (.ifCond .ne 20, 3) := by decide +kernel
theorem dX7_where_69 : decode cX7_where 69 = .ok (.iload_n 2, 1) := by decide +kernel
theorem dX7_where_70 : decode cX7_where 70 = .ok (.iload 4, 2) := by decide +kernel
theorem dX7_where_72 : decode cX7_where 72 = .ok (.ior, 1) := by decide +kernel
theorem dX7_where_73 : decode cX7_where 73 = .ok (.istore_n 2, 1) := by decide +kernel
theorem dX7_where_74 : decode cX7_where 74 = .ok (.aload_n 0, 1) := by decide +kernel
theorem dX7_where_75 : decode cX7_where 75 = .ok (.aload_n 0, 1) := by decide +kernel
theorem dX7_where_76 : decode cX7_where 76 = .ok (.getfield 51, 3) := by decide +kernel
theorem dX7_where_79 : decode cX7_where 79 = .ok (.iload_n 3, 1) := by decide +kernel
theorem dX7_where_80 : decode cX7_where 80 = .ok (.invokevirtual 239, 3) := by decide +kernel
theorem dX7_where_83 : decode cX7_where 83 = .ok (.putfield 99, 3) := by decide +kernel
theorem dX7_where_86 : decode cX7_where 86 = .ok (.iinc 3 1, 3) := by decide +kernel
theorem dX7_where_89 : decode cX7_where 89 = .ok (.goto (-61), 3) := by decide +kernel
theorem dX7_where_92 : decode cX7_where 92 = .ok (.iload_n 2, 1) := by decide +kernel
theorem dX7_where_93 : decode cX7_where 93 = .ok (.ireturn, 1) := by decide +kernel
theorem dX7_meet_0 : decode cX7_meet 0 = .ok (.aload_n 0, 1) := by decide +kernel
theorem dX7_meet_1 : decode cX7_meet 1 = .ok (.iload_n 1, 1) := by decide +kernel
theorem dX7_meet_2 : decode cX7_meet 2 = .ok (.invokevirtual 157, 3) := by decide +kernel
theorem dX7_meet_5 : decode cX7_meet 5 = .ok (.ifCond .eq 16, 3) := by decide +kernel
theorem dX7_meet_8 : decode cX7_meet 8 = .ok (.aload_n 0, 1) := by decide +kernel
theorem dX7_meet_9 : decode cX7_meet 9 = .ok (.iload_n 2, 1) := by decide +kernel
theorem dX7_meet_10 : decode cX7_meet 10 = .ok (.invokevirtual 157, 3) := by decide +kernel
theorem dX7_meet_13 : decode cX7_meet 13 = .ok (.ifCond .eq 8, 3) := by decide +kernel
theorem dX7_meet_16 : decode cX7_meet 16 = .ok (.iload_n 1, 1) := by decide +kernel
theorem dX7_meet_17 : decode cX7_meet 17 = .ok (.iload_n 2, 1) := by decide +kernel
theorem dX7_meet_18 : decode cX7_meet 18 = .ok (.if_icmp .ne 5, 3) := by decide +kernel
theorem dX7_meet_21 : decode cX7_meet 21 = .ok (.iconst (-1), 1) := by decide +kernel
theorem dX7_meet_22 : decode cX7_meet 22 = .ok (.ireturn, 1) := by decide +kernel
theorem dX7_meet_23 : decode cX7_meet 23 = .ok (.aload_n 0, 1) := by decide +kernel
theorem dX7_meet_24 : decode cX7_meet 24 = .ok (.getfield 51, 3) := by decide +kernel
theorem dX7_meet_27 : decode cX7_meet 27 = .ok (.aload_n 0, 1) := by decide +kernel
theorem dX7_meet_28 : decode cX7_meet 28 = .ok (.getfield 31, 3) := by decide +kernel
theorem dX7_meet_31 : decode cX7_meet 31 = .ok (.getfield 199, 3) := by decide +kernel
theorem dX7_meet_34 : decode cX7_meet 34 = .ok (.invokevirtual 245, 3) := by decide +kernel
theorem dX7_meet_37 : decode cX7_meet 37 = .ok (.iconst 0, 1) := by decide +kernel
theorem dX7_meet_38 : decode cX7_meet 38 = .ok (.istore_n 3, 1) := by decide +kernel
theorem dX7_meet_39 : decode cX7_meet 39 = .ok (.iload_n 3, 1) := by decide +kernel
theorem dX7_meet_40 : decode cX7_meet 40 = .ok (.sipush 11880, 3) := by decide +kernel
theorem dX7_meet_43 : decode cX7_meet 43 = .ok (.if_icmp .ge 47, 3) := by decide +kernel
theorem dX7_meet_46 : decode cX7_meet 46 = .ok (.aload_n 0, 1) := by decide +kernel
theorem dX7_meet_47 : decode cX7_meet 47 = .ok (.getfield 51, 3) := by decide +kernel
theorem dX7_meet_50 : decode cX7_meet 50 = .ok (.iload_n 3, 1) := by decide +kernel
theorem dX7_meet_51 : decode cX7_meet 51 = .ok (.invokevirtual 248, 3) := by decide +kernel
theorem dX7_meet_54 : decode cX7_meet 54 = .ok (.ifCond .eq 36, 3) := by decide +kernel
theorem dX7_meet_57 : decode cX7_meet 57 = .ok (.aload_n 0, 1) := by decide +kernel
theorem dX7_meet_58 : decode cX7_meet 58 = .ok (.aload_n 0, 1) := by decide +kernel
theorem dX7_meet_59 : decode cX7_meet 59 = .ok (.getfield 51, 3) := by decide +kernel
theorem dX7_meet_62 : decode cX7_meet 62 = .ok (.iload_n 3, 1) := by decide +kernel
theorem dX7_meet_63 : decode cX7_meet 63 = .ok (.invokevirtual 251, 3) := by decide +kernel
theorem dX7_meet_66 : decode cX7_meet 66 = .ok (.iload_n 1, 1) := by decide +kernel
theorem dX7_meet_67 : decode cX7_meet 67 = .ok (.iload_n 2, 1) := by decide +kernel
theorem dX7_meet_68 : decode cX7_meet 68 = .ok (.invokevirtual 253, 3) := by decide +kernel
theorem dX7_meet_71 : decode cX7_meet 71 = .ok (.iconst 1, 1) := by decide +kernel
theorem dX7_meet_72 : decode cX7_meet 72 = .ok (.if_icmp .ne 12, 3) := by decide +kernel
theorem dX7_meet_75 : decode cX7_meet 75 = .ok (.aload_n 0, 1) := by decide +kernel
theorem dX7_meet_76 : decode cX7_meet 76 = .ok (.getfield 51, 3) := by decide +kernel
theorem dX7_meet_79 : decode cX7_meet 79 = .ok (.iload_n 3, 1) := by decide +kernel
theorem dX7_meet_80 : decode cX7_meet 80 = .ok (.invokevirtual 239, 3) := by decide +kernel
theorem dX7_meet_83 : decode cX7_meet 83 = .ok (.ireturn, 1) := by decide +kernel
theorem dX7_meet_84 : decode cX7_meet 84 = .ok (.iinc 3 1, 3) := by decide +kernel
theorem dX7_meet_87 : decode cX7_meet 87 = .ok (.goto (-48), 3) := by decide +kernel
theorem dX7_meet_90 : decode cX7_meet 90 = .ok (.bipush (-9), 2) := by decide +kernel
theorem dX7_meet_92 : decode cX7_meet 92 = .ok (.ireturn, 1) := by decide +kernel
theorem dX7_window_0 : decode cX7_window 0 = .ok (.iload_n 1, 1) := by decide +kernel
theorem dX7_window_1 : decode cX7_window 1 = .ok (.ifCond .lt 14, 3) := by decide +kernel
theorem dX7_window_4 : decode cX7_window 4 = .ok (.iload_n 1, 1) := by decide +kernel
theorem dX7_window_5 : decode cX7_window 5 = .ok (.aload_n 0, 1) := by decide +kernel
theorem dX7_window_6 : decode cX7_window 6 = .ok (.getfield 77, 3) := by decide +kernel
theorem dX7_window_9 : decode cX7_window 9 = .ok (.getfield 256, 3) := by decide +kernel
theorem dX7_window_12 : decode cX7_window 12 = .ok (.if_icmp .lt 5, 3) := by decide +kernel
theorem dX7_window_15 : decode cX7_window 15 = .ok (.iconst (-1), 1) := by decide +kernel
theorem dX7_window_16 : decode cX7_window 16 = .ok (.ireturn, 1) := by decide +kernel
theorem dX7_window_17 : decode cX7_window 17 = .ok (.aload_n 0, 1) := by decide +kernel
theorem dX7_window_18 : decode cX7_window 18 = .ok (.getfield 77, 3) := by decide +kernel
theorem dX7_window_21 : decode cX7_window 21 = .ok (.getfield 154, 3) := by decide +kernel
theorem dX7_window_24 : decode cX7_window 24 = .ok (.ifCond .ne 6, 3) := by decide +kernel
theorem dX7_window_27 : decode cX7_window 27 = .ok (.bipush (-4), 2) := by decide +kernel
theorem dX7_window_29 : decode cX7_window 29 = .ok (.ireturn, 1) := by decide +kernel
theorem dX7_window_30 : decode cX7_window 30 = .ok (.aload_n 0, 1) := by decide +kernel
theorem dX7_window_31 : decode cX7_window 31 = .ok (.getfield 51, 3) := by decide +kernel
theorem dX7_window_34 : decode cX7_window 34 = .ok (.aload_n 0, 1) := by decide +kernel
theorem dX7_window_35 : decode cX7_window 35 = .ok (.getfield 31, 3) := by decide +kernel
theorem dX7_window_38 : decode cX7_window 38 = .ok (.getfield 199, 3) := by decide +kernel
theorem dX7_window_41 : decode cX7_window 41 = .ok (.invokevirtual 245, 3) := by decide +kernel
theorem dX7_window_44 : decode cX7_window 44 = .ok (.iconst 0, 1) := by decide +kernel
theorem dX7_window_45 : decode cX7_window 45 = .ok (.istore_n 2, 1) := by decide +kernel
theorem dX7_window_46 : decode cX7_window 46 = .ok (.iload_n 2, 1) := by decide +kernel
theorem dX7_window_47 : decode cX7_window 47 = .ok (.sipush 11880, 3) := by decide +kernel
theorem dX7_window_50 : decode cX7_window 50 = .ok (.if_icmp .ge 45, 3) := by decide +kernel
theorem dX7_window_53 : decode cX7_window 53 = .ok (.aload_n 0, 1) := by decide +kernel
theorem dX7_window_54 : decode cX7_window 54 = .ok (.getfield 51, 3) := by decide +kernel
theorem dX7_window_57 : decode cX7_window 57 = .ok (.iload_n 2, 1) := by decide +kernel
theorem dX7_window_58 : decode cX7_window 58 = .ok (.invokevirtual 248, 3) := by decide +kernel
theorem dX7_window_61 : decode cX7_window 61 = .ok (.ifCond .eq 34, 3) := by decide +kernel
theorem dX7_window_64 : decode cX7_window 64 = .ok (.aload_n 0, 1) := by decide +kernel
theorem dX7_window_65 : decode cX7_window 65 = .ok (.aload_n 0, 1) := by decide +kernel
theorem dX7_window_66 : decode cX7_window 66 = .ok (.getfield 51, 3) := by decide +kernel
theorem dX7_window_69 : decode cX7_window 69 = .ok (.iload_n 2, 1) := by decide +kernel
theorem dX7_window_70 : decode cX7_window 70 = .ok (.invokevirtual 251, 3) := by decide +kernel
theorem dX7_window_73 : decode cX7_window 73 = .ok (.iload_n 1, 1) := by decide +kernel
theorem dX7_window_74 : decode cX7_window 74 = .ok (.invokevirtual 259, 3) := by decide +kernel
theorem dX7_window_77 : decode cX7_window 77 = .ok (.ifCond .eq 12, 3) := by decide +kernel
theorem dX7_window_80 : decode cX7_window 80 = .ok (.aload_n 0, 1) := by decide +kernel
theorem dX7_window_81 : decode cX7_window 81 = .ok (.getfield 51, 3) := by decide +kernel
theorem dX7_window_84 : decode cX7_window 84 = .ok (.iload_n 2, 1) := by decide +kernel
theorem dX7_window_85 : decode cX7_window 85 = .ok (.invokevirtual 239, 3) := by decide +kernel
theorem dX7_window_88 : decode cX7_window 88 = .ok (.ireturn, 1) := by decide +kernel
theorem dX7_window_89 : decode cX7_window 89 = .ok (.iinc 2 1, 3) := by decide +kernel
theorem dX7_window_92 : decode cX7_window 92 = .ok (.goto (-46), 3) := by decide +kernel
theorem dX7_window_95 : decode cX7_window 95 = .ok (.bipush (-9), 2) := by decide +kernel
theorem dX7_window_97 : decode cX7_window 97 = .ok (.ireturn, 1) := by decide +kernel
theorem dX7_comes_0 : decode cX7_comes 0 = .ok (.aload_n 0, 1) := by decide +kernel
theorem dX7_comes_1 : decode cX7_comes 1 = .ok (.getfield 14, 3) := by decide +kernel
theorem dX7_comes_4 : decode cX7_comes 4 = .ok (.iload_n 1, 1) := by decide +kernel
theorem dX7_comes_5 : decode cX7_comes 5 = .ok (.invokevirtual 114, 3) := by decide +kernel
theorem dX7_comes_8 : decode cX7_comes 8 = .ok (.ifCond .eq 14, 3) := by decide +kernel
theorem dX7_comes_11 : decode cX7_comes 11 = .ok (.aload_n 0, 1) := by decide +kernel
theorem dX7_comes_12 : decode cX7_comes 12 = .ok (.getfield 14, 3) := by decide +kernel
theorem dX7_comes_15 : decode cX7_comes 15 = .ok (.iload_n 2, 1) := by decide +kernel
theorem dX7_comes_16 : decode cX7_comes 16 = .ok (.invokevirtual 114, 3) := by decide +kernel
theorem dX7_comes_19 : decode cX7_comes 19 = .ok (.ifCond .ne 5, 3) := by decide +kernel
theorem dX7_comes_22 : decode cX7_comes 22 = .ok (.iconst (-1), 1) := by decide +kernel
theorem dX7_comes_23 : decode cX7_comes 23 = .ok (.ireturn, 1) := by decide +kernel
theorem dX7_comes_24 : decode cX7_comes 24 = .ok (.aload_n 0, 1) := by decide +kernel
theorem dX7_comes_25 : decode cX7_comes 25 = .ok (.getfield 77, 3) := by decide +kernel
theorem dX7_comes_28 : decode cX7_comes 28 = .ok (.getfield 154, 3) := by decide +kernel
theorem dX7_comes_31 : decode cX7_comes 31 = .ok (.ifCond .ne 6, 3) := by decide +kernel
theorem dX7_comes_34 : decode cX7_comes 34 = .ok (.bipush (-4), 2) := by decide +kernel
theorem dX7_comes_36 : decode cX7_comes 36 = .ok (.ireturn, 1) := by decide +kernel
theorem dX7_comes_37 : decode cX7_comes 37 = .ok (.aload_n 0, 1) := by decide +kernel
theorem dX7_comes_38 : decode cX7_comes 38 = .ok (.getfield 14, 3) := by decide +kernel
theorem dX7_comes_41 : decode cX7_comes 41 = .ok (.iload_n 1, 1) := by decide +kernel
theorem dX7_comes_42 : decode cX7_comes 42 = .ok (.invokevirtual 122, 3) := by decide +kernel
theorem dX7_comes_45 : decode cX7_comes 45 = .ok (.ifCond .eq 14, 3) := by decide +kernel
theorem dX7_comes_48 : decode cX7_comes 48 = .ok (.aload_n 0, 1) := by decide +kernel
theorem dX7_comes_49 : decode cX7_comes 49 = .ok (.getfield 14, 3) := by decide +kernel
theorem dX7_comes_52 : decode cX7_comes 52 = .ok (.iload_n 2, 1) := by decide +kernel
theorem dX7_comes_53 : decode cX7_comes 53 = .ok (.invokevirtual 122, 3) := by decide +kernel
theorem dX7_comes_56 : decode cX7_comes 56 = .ok (.ifCond .ne 9, 3) := by decide +kernel
theorem dX7_comes_59 : decode cX7_comes 59 = .ok (.aload_n 0, 1) := by decide +kernel
theorem dX7_comes_60 : decode cX7_comes 60 = .ok (.iconst 1, 1) := by decide +kernel
theorem dX7_comes_61 : decode cX7_comes 61 = .ok (.invokevirtual 118, 3) := by decide +kernel
theorem dX7_comes_64 : decode cX7_comes 64 = .ok (.ireturn, 1) := by decide +kernel
theorem dX7_comes_65 : decode cX7_comes 65 = .ok (.aload_n 0, 1) := by decide +kernel
theorem dX7_comes_66 : decode cX7_comes 66 = .ok (.getfield 14, 3) := by decide +kernel
theorem dX7_comes_69 : decode cX7_comes 69 = .ok (.iload_n 1, 1) := by decide +kernel
theorem dX7_comes_70 : decode cX7_comes 70 = .ok (.invokevirtual 133, 3) := by decide +kernel
theorem dX7_comes_73 : decode cX7_comes 73 = .ok (.aload_n 0, 1) := by decide +kernel
theorem dX7_comes_74 : decode cX7_comes 74 = .ok (.getfield 77, 3) := by decide +kernel
theorem dX7_comes_77 : decode cX7_comes 77 = .ok (.getfield 154, 3) := by decide +kernel
theorem dX7_comes_80 : decode cX7_comes 80 = .ok (.if_icmp .ne 21, 3) := by decide +kernel
theorem dX7_comes_83 : decode cX7_comes 83 = .ok (.aload_n 0, 1) := by decide +kernel
theorem dX7_comes_84 : decode cX7_comes 84 = .ok (.getfield 14, 3) := by decide +kernel
theorem dX7_comes_87 : decode cX7_comes 87 = .ok (.iload_n 2, 1) := by decide +kernel
theorem dX7_comes_88 : decode cX7_comes 88 = .ok (.invokevirtual 133, 3) := by decide +kernel
theorem dX7_comes_91 : decode cX7_comes 91 = .ok (.aload_n 0, 1) := by decide +kernel
theorem dX7_comes_92 : decode cX7_comes 92 = .ok (.getfield 77, 3) := by decide +kernel
theorem dX7_comes_95 : decode cX7_comes 95 = .ok (.getfield 154, 3) := by decide +kernel
theorem dX7_comes_98 : decode cX7_comes 98 = .ok (.if_icmp .eq 9, 3) := by decide +kernel
theorem dX7_comes_101 : decode cX7_comes 101 = .ok (.aload_n 0, 1) := by decide +kernel
theorem dX7_comes_102 : decode cX7_comes 102 = .ok (.iconst 5, 1) := by decide +kernel
theorem dX7_comes_103 : decode cX7_comes 103 = .ok (.invokevirtual 118, 3) := by decide +kernel
theorem dX7_comes_106 : decode cX7_comes 106 = .ok (.ireturn, 1) := by decide +kernel
theorem dX7_comes_107 : decode cX7_comes 107 = .ok (.aload_n 0, 1) := by decide +kernel
theorem dX7_comes_108 : decode cX7_comes 108 = .ok (.iload_n 1, 1) := by decide +kernel
theorem dX7_comes_109 : decode cX7_comes 109 = .ok (.invokevirtual 262, 3) := by decide +kernel
theorem dX7_comes_112 : decode cX7_comes 112 = .ok (.istore_n 3, 1) := by decide +kernel
theorem dX7_comes_113 : decode cX7_comes 113 = .ok (.aload_n 0, 1) := by decide +kernel
theorem dX7_comes_114 : decode cX7_comes 114 = .ok (.iload_n 2, 1) := by decide +kernel
theorem dX7_comes_115 : decode cX7_comes 115 = .ok (.invokevirtual 262, 3) := by decide +kernel
theorem dX7_comes_118 : decode cX7_comes 118 = .ok (.istore 4, 2) := by decide +kernel
theorem dX7_comes_120 : decode cX7_comes 120 = .ok (.iload_n 3, 1) := by decide +kernel
theorem dX7_comes_121 : decode cX7_comes 121 = .ok (.bipush (-9), 2) := by decide +kernel
theorem dX7_comes_123 : decode cX7_comes 123 = .ok (.if_icmp .eq 10, 3) := by decide +kernel
theorem dX7_comes_126 : decode cX7_comes 126 = .ok (.iload 4, 2) := by decide +kernel
theorem dX7_comes_128 : decode cX7_comes 128 = .ok (.bipush (-9), 2) := by decide +kernel
theorem dX7_comes_130 : decode cX7_comes 130 = .ok (.if_icmp .ne 9, 3) := by decide +kernel
theorem dX7_comes_133 : decode cX7_comes 133 = .ok (.aload_n 0, 1) := by decide +kernel
theorem dX7_comes_134 : decode cX7_comes 134 = .ok (.iconst 3, 1) := by decide +kernel
theorem dX7_comes_135 : decode cX7_comes 135 = .ok (.invokevirtual 118, 3) := by decide +kernel
theorem dX7_comes_138 : decode cX7_comes 138 = .ok (.ireturn, 1) := by decide +kernel
theorem dX7_comes_139 : decode cX7_comes 139 = .ok (.aload_n 0, 1) := by decide +kernel
theorem dX7_comes_140 : decode cX7_comes 140 = .ok (.getfield 51, 3) := by decide +kernel
theorem dX7_comes_143 : decode cX7_comes 143 = .ok (.iload_n 3, 1) := by decide +kernel
theorem dX7_comes_144 : decode cX7_comes 144 = .ok (.invokevirtual 245, 3) := by decide +kernel
theorem dX7_comes_147 : decode cX7_comes 147 = .ok (.iconst 0, 1) := by decide +kernel
theorem dX7_comes_148 : decode cX7_comes 148 = .ok (.istore 5, 2) := by decide +kernel
theorem dX7_comes_150 : decode cX7_comes 150 = .ok (.iload 5, 2) := by decide +kernel
theorem dX7_comes_152 : decode cX7_comes 152 = .ok (.sipush 11880, 3) := by decide +kernel
theorem dX7_comes_155 : decode cX7_comes 155 = .ok (.if_icmp .ge 37, 3) := by decide +kernel
theorem dX7_comes_158 : decode cX7_comes 158 = .ok (.aload_n 0, 1) := by decide +kernel
theorem dX7_comes_159 : decode cX7_comes 159 = .ok (.getfield 51, 3) := by decide +kernel
theorem dX7_comes_162 : decode cX7_comes 162 = .ok (.iload 5, 2) := by decide +kernel
theorem dX7_comes_164 : decode cX7_comes 164 = .ok (.invokevirtual 248, 3) := by decide +kernel
theorem dX7_comes_167 : decode cX7_comes 167 = .ok (.ifCond .eq 25, 3) := by decide +kernel
theorem dX7_comes_170 : decode cX7_comes 170 = .ok (.aload_n 0, 1) := by decide +kernel
theorem dX7_comes_171 : decode cX7_comes 171 = .ok (.getfield 51, 3) := by decide +kernel
theorem dX7_comes_174 : decode cX7_comes 174 = .ok (.iload 5, 2) := by decide +kernel
theorem dX7_comes_176 : decode cX7_comes 176 = .ok (.invokevirtual 251, 3) := by decide +kernel
theorem dX7_comes_179 : decode cX7_comes 179 = .ok (.iload 4, 2) := by decide +kernel
theorem dX7_comes_181 : decode cX7_comes 181 = .ok (.if_icmp .ne 5, 3) := by decide +kernel
theorem dX7_comes_184 : decode cX7_comes 184 = .ok (.iconst 1, 1) := by decide +kernel
theorem dX7_comes_185 : decode cX7_comes 185 = .ok (.ireturn, 1) := by decide +kernel
theorem dX7_comes_186 : decode cX7_comes 186 = .ok (.iinc 5 1, 3) := by decide +kernel
theorem dX7_comes_189 : decode cX7_comes 189 = .ok (.goto (-39), 3) := by decide +kernel
theorem dX7_comes_192 : decode cX7_comes 192 = .ok (.iconst 0, 1) := by decide +kernel
theorem dX7_comes_193 : decode cX7_comes 193 = .ok (.ireturn, 1) := by decide +kernel
theorem dX7_fetch_0 : decode cX7_fetch 0 = .ok (.aload_n 0, 1) := by decide +kernel
theorem dX7_fetch_1 : decode cX7_fetch 1 = .ok (.iload_n 1, 1) := by decide +kernel
theorem dX7_fetch_2 : decode cX7_fetch 2 = .ok (.iload_n 1, 1) := by decide +kernel
theorem dX7_fetch_3 : decode cX7_fetch 3 = .ok (.invokevirtual 265, 3) := by decide +kernel
theorem dX7_fetch_6 : decode cX7_fetch 6 = .ok (.istore_n 2, 1) := by decide +kernel
theorem dX7_fetch_7 : decode cX7_fetch 7 = .ok (.iload_n 2, 1) := by decide +kernel
theorem dX7_fetch_8 : decode cX7_fetch 8 = .ok (.ifCond .eq 5, 3) := by decide +kernel
theorem dX7_fetch_11 : decode cX7_fetch 11 = .ok (.iload_n 2, 1) := by decide +kernel
theorem dX7_fetch_12 : decode cX7_fetch 12 = .ok (.ireturn, 1) := by decide +kernel
theorem dX7_fetch_13 : decode cX7_fetch 13 = .ok (.aload_n 0, 1) := by decide +kernel
theorem dX7_fetch_14 : decode cX7_fetch 14 = .ok (.getfield 60, 3) := by decide +kernel
theorem dX7_fetch_17 : decode cX7_fetch 17 = .ok (.aload_n 0, 1) := by decide +kernel
theorem dX7_fetch_18 : decode cX7_fetch 18 = .ok (.getfield 14, 3) := by decide +kernel
theorem dX7_fetch_21 : decode cX7_fetch 21 = .ok (.iload_n 1, 1) := by decide +kernel
theorem dX7_fetch_22 : decode cX7_fetch 22 = .ok (.invokevirtual 268, 3) := by decide +kernel
theorem dX7_fetch_25 : decode cX7_fetch 25 = .ok (.aload_n 0, 1) := by decide +kernel
theorem dX7_fetch_26 : decode cX7_fetch 26 = .ok (.getfield 31, 3) := by decide +kernel
theorem dX7_fetch_29 : decode cX7_fetch 29 = .ok (.getfield 199, 3) := by decide +kernel
theorem dX7_fetch_32 : decode cX7_fetch 32 = .ok (.istore_n 3, 1) := by decide +kernel
theorem dX7_fetch_33 : decode cX7_fetch 33 = .ok (.iconst 0, 1) := by decide +kernel
theorem dX7_fetch_34 : decode cX7_fetch 34 = .ok (.istore 4, 2) := by decide +kernel
theorem dX7_fetch_36 : decode cX7_fetch 36 = .ok (.iconst 0, 1) := by decide +kernel
theorem dX7_fetch_37 : decode cX7_fetch 37 = .ok (.istore 5, 2) := by decide +kernel
theorem dX7_fetch_39 : decode cX7_fetch 39 = .ok (.iload 5, 2) := by decide +kernel
theorem dX7_fetch_41 : decode cX7_fetch 41 = .ok (.aload_n 0, 1) := by decide +kernel
theorem dX7_fetch_42 : decode cX7_fetch 42 = .ok (.getfield 60, 3) := by decide +kernel
theorem dX7_fetch_45 : decode cX7_fetch 45 = .ok (.getfield 272, 3) := by decide +kernel
theorem dX7_fetch_48 : decode cX7_fetch 48 = .ok (.if_icmp .ge 73, 3) := by decide +kernel
theorem dX7_fetch_51 : decode cX7_fetch 51 = .ok (.aload_n 0, 1) := by decide +kernel
theorem dX7_fetch_52 : decode cX7_fetch 52 = .ok (.getfield 51, 3) := by decide +kernel
theorem dX7_fetch_55 : decode cX7_fetch 55 = .ok (.iload_n 3, 1) := by decide +kernel
theorem dX7_fetch_56 : decode cX7_fetch 56 = .ok (.aload_n 0, 1) := by decide +kernel
theorem dX7_fetch_57 : decode cX7_fetch 57 = .ok (.getfield 60, 3) := by decide +kernel
theorem dX7_fetch_60 : decode cX7_fetch 60 = .ok (.getfield 275, 3) := by decide +kernel
theorem dX7_fetch_63 : decode cX7_fetch 63 = .ok (.iload 5, 2) := by decide +kernel
theorem dX7_fetch_65 : decode cX7_fetch 65 = .ok (.iaload, 1) := by decide +kernel
theorem dX7_fetch_66 : decode cX7_fetch 66 = .ok (.aload_n 0, 1) := by decide +kernel
theorem dX7_fetch_67 : decode cX7_fetch 67 = .ok (.getfield 60, 3) := by decide +kernel
theorem dX7_fetch_70 : decode cX7_fetch 70 = .ok (.getfield 277, 3) := by decide +kernel
theorem dX7_fetch_73 : decode cX7_fetch 73 = .ok (.iload 5, 2) := by decide +kernel
theorem dX7_fetch_75 : decode cX7_fetch 75 = .ok (.iaload, 1) := by decide +kernel
theorem dX7_fetch_76 : decode cX7_fetch 76 = .ok (.invokevirtual 279, 3) := by decide +kernel
theorem dX7_fetch_79 : decode cX7_fetch 79 = .ok (.istore 6, 2) := by decide +kernel
theorem dX7_fetch_81 : decode cX7_fetch 81 = .ok (.iload 6, 2) := by decide +kernel
theorem dX7_fetch_83 : decode cX7_fetch 83 = .ok (.bipush (-9), 2) := by decide +kernel
theorem dX7_fetch_85 : decode cX7_fetch 85 = .ok (.if_icmp .ne 6, 3) := by decide +kernel
theorem dX7_fetch_88 : decode cX7_fetch 88 = .ok (.goto 33, 3) := by decide +kernel
theorem dX7_fetch_91 : decode cX7_fetch 91 = .ok (.iload 4, 2) := by decide +kernel
theorem dX7_fetch_93 : decode cX7_fetch 93 = .ok (.aload_n 0, 1) := by decide +kernel
theorem dX7_fetch_94 : decode cX7_fetch 94 = .ok (.getfield 51, 3) := by decide +kernel
theorem dX7_fetch_97 : decode cX7_fetch 97 = .ok (.iload 6, 2) := by decide +kernel
theorem dX7_fetch_99 : decode cX7_fetch 99 = .ok (.invokevirtual 239, 3) := by decide +kernel
theorem dX7_fetch_102 : decode cX7_fetch 102 = .ok (.iadd, 1) := by decide +kernel
theorem dX7_fetch_103 : decode cX7_fetch 103 = .ok (.istore 4, 2) := by decide +kernel
theorem dX7_fetch_105 : decode cX7_fetch 105 = .ok (.aload_n 0, 1) := by decide +kernel
theorem dX7_fetch_106 : decode cX7_fetch 106 = .ok (.getfield 51, 3) := by decide +kernel
theorem dX7_fetch_109 : decode cX7_fetch 109 = .ok (.iload 6, 2) := by decide +kernel
theorem dX7_fetch_111 : decode cX7_fetch 111 = .ok (.invokevirtual 251, 3) := by decide +kernel
theorem dX7_fetch_114 : decode cX7_fetch 114 = .ok (.istore_n 3, 1) := by decide +kernel
theorem dX7_fetch_115 : decode cX7_fetch 115 = .ok (.iinc 5 1, 3) := by decide +kernel
theorem dX7_fetch_118 : decode cX7_fetch 118 = .ok (.goto (-79), 3) := by decide +kernel
theorem dX7_fetch_121 : decode cX7_fetch 121 = .ok (.aload_n 0, 1) := by decide +kernel
theorem dX7_fetch_122 : decode cX7_fetch 122 = .ok (.iload 4, 2) := by decide +kernel
theorem dX7_fetch_124 : decode cX7_fetch 124 = .ok (.putfield 99, 3) := by decide +kernel
theorem dX7_fetch_127 : decode cX7_fetch 127 = .ok (.iload 5, 2) := by decide +kernel
theorem dX7_fetch_129 : decode cX7_fetch 129 = .ok (.ireturn, 1) := by decide +kernel
theorem dX7_order_0 : decode cX7_order 0 = .ok (.aload_n 0, 1) := by decide +kernel
theorem dX7_order_1 : decode cX7_order 1 = .ok (.iload_n 1, 1) := by decide +kernel
theorem dX7_order_2 : decode cX7_order 2 = .ok (.iload_n 2, 1) := by decide +kernel
theorem dX7_order_3 : decode cX7_order 3 = .ok (.invokevirtual 265, 3) := by decide +kernel
theorem dX7_order_6 : decode cX7_order 6 = .ok (.istore_n 3, 1) := by decide +kernel
theorem dX7_order_7 : decode cX7_order 7 = .ok (.iload_n 3, 1) := by decide +kernel
theorem dX7_order_8 : decode cX7_order 8 = .ok (.ifCond .eq 5, 3) := by decide +kernel
theorem dX7_order_11 : decode cX7_order 11 = .ok (.iload_n 3, 1) := by decide +kernel
theorem dX7_order_12 : decode cX7_order 12 = .ok (.ireturn, 1) := by decide +kernel
theorem dX7_order_13 : decode cX7_order 13 = .ok (.aload_n 0, 1) := by decide +kernel
theorem dX7_order_14 : decode cX7_order 14 = .ok (.getfield 60, 3) := by decide +kernel
theorem dX7_order_17 : decode cX7_order 17 = .ok (.aload_n 0, 1) := by decide +kernel
theorem dX7_order_18 : decode cX7_order 18 = .ok (.getfield 14, 3) := by decide +kernel
theorem dX7_order_21 : decode cX7_order 21 = .ok (.iload_n 1, 1) := by decide +kernel
theorem dX7_order_22 : decode cX7_order 22 = .ok (.invokevirtual 268, 3) := by decide +kernel
theorem dX7_order_25 : decode cX7_order 25 = .ok (.aload_n 0, 1) := by decide +kernel
theorem dX7_order_26 : decode cX7_order 26 = .ok (.getfield 60, 3) := by decide +kernel
theorem dX7_order_29 : decode cX7_order 29 = .ok (.iconst 0, 1) := by decide +kernel
theorem dX7_order_30 : decode cX7_order 30 = .ok (.aload_n 0, 1) := by decide +kernel
theorem dX7_order_31 : decode cX7_order 31 = .ok (.getfield 31, 3) := by decide +kernel
theorem dX7_order_34 : decode cX7_order 34 = .ok (.getfield 199, 3) := by decide +kernel
theorem dX7_order_37 : decode cX7_order 37 = .ok (.iconst 0, 1) := by decide +kernel
theorem dX7_order_38 : decode cX7_order 38 = .ok (.aload_n 0, 1) := by decide +kernel
theorem dX7_order_39 : decode cX7_order 39 = .ok (.getfield 60, 3) := by decide +kernel
theorem dX7_order_42 : decode cX7_order 42 = .ok (.invokevirtual 282, 3) := by decide +kernel
theorem dX7_order_45 : decode cX7_order 45 = .ok (.aload_n 0, 1) := by decide +kernel
theorem dX7_order_46 : decode cX7_order 46 = .ok (.getfield 60, 3) := by decide +kernel
theorem dX7_order_49 : decode cX7_order 49 = .ok (.invokevirtual 282, 3) := by decide +kernel
theorem dX7_order_52 : decode cX7_order 52 = .ok (.invokevirtual 285, 3) := by decide +kernel
theorem dX7_order_55 : decode cX7_order 55 = .ok (.aload_n 0, 1) := by decide +kernel
theorem dX7_order_56 : decode cX7_order 56 = .ok (.getfield 14, 3) := by decide +kernel
theorem dX7_order_59 : decode cX7_order 59 = .ok (.iload_n 2, 1) := by decide +kernel
theorem dX7_order_60 : decode cX7_order 60 = .ok (.aload_n 0, 1) := by decide +kernel
theorem dX7_order_61 : decode cX7_order 61 = .ok (.getfield 60, 3) := by decide +kernel
theorem dX7_order_64 : decode cX7_order 64 = .ok (.getfield 272, 3) := by decide +kernel
theorem dX7_order_67 : decode cX7_order 67 = .ok (.iconst 0, 1) := by decide +kernel
theorem dX7_order_68 : decode cX7_order 68 = .ok (.invokevirtual 242, 3) := by decide +kernel
theorem dX7_order_71 : decode cX7_order 71 = .ok (.iconst 0, 1) := by decide +kernel
theorem dX7_order_72 : decode cX7_order 72 = .ok (.istore 4, 2) := by decide +kernel
theorem dX7_order_74 : decode cX7_order 74 = .ok (.iload 4, 2) := by decide +kernel
theorem dX7_order_76 : decode cX7_order 76 = .ok (.aload_n 0, 1) := by decide +kernel
theorem dX7_order_77 : decode cX7_order 77 = .ok (.getfield 60, 3) := by decide +kernel
theorem dX7_order_80 : decode cX7_order 80 = .ok (.getfield 272, 3) := by decide +kernel
theorem dX7_order_83 : decode cX7_order 83 = .ok (.if_icmp .ge 29, 3) := by decide +kernel
theorem dX7_order_86 : decode cX7_order 86 = .ok (.aload_n 0, 1) := by decide +kernel
theorem dX7_order_87 : decode cX7_order 87 = .ok (.getfield 14, 3) := by decide +kernel
theorem dX7_order_90 : decode cX7_order 90 = .ok (.iload_n 2, 1) := by decide +kernel
theorem dX7_order_91 : decode cX7_order 91 = .ok (.iload 4, 2) := by decide +kernel
theorem dX7_order_93 : decode cX7_order 93 = .ok (.aload_n 0, 1) := by decide +kernel
theorem dX7_order_94 : decode cX7_order 94 = .ok (.getfield 60, 3) := by decide +kernel
theorem dX7_order_97 : decode cX7_order 97 = .ok (.getfield 288, 3) := by decide +kernel
theorem dX7_order_100 : decode cX7_order 100 = .ok (.iload 4, 2) := by decide +kernel
theorem dX7_order_102 : decode cX7_order 102 = .ok (.iaload, 1) := by decide +kernel
theorem dX7_order_103 : decode cX7_order 103 = .ok (.invokevirtual 103, 3) := by decide +kernel
theorem dX7_order_106 : decode cX7_order 106 = .ok (.iinc 4 1, 3) := by decide +kernel
theorem dX7_order_109 : decode cX7_order 109 = .ok (.goto (-35), 3) := by decide +kernel
theorem dX7_order_112 : decode cX7_order 112 = .ok (.aload_n 0, 1) := by decide +kernel
theorem dX7_order_113 : decode cX7_order 113 = .ok (.getfield 60, 3) := by decide +kernel
theorem dX7_order_116 : decode cX7_order 116 = .ok (.getfield 291, 3) := by decide +kernel
theorem dX7_order_119 : decode cX7_order 119 = .ok (.ireturn, 1) := by decide +kernel
theorem dX7_keys_0 : decode cX7_keys 0 = .ok (.aload_n 0, 1) := by decide +kernel
theorem dX7_keys_1 : decode cX7_keys 1 = .ok (.getfield 14, 3) := by decide +kernel
theorem dX7_keys_4 : decode cX7_keys 4 = .ok (.iload_n 1, 1) := by decide +kernel
theorem dX7_keys_5 : decode cX7_keys 5 = .ok (.invokevirtual 114, 3) := by decide +kernel
theorem dX7_keys_8 : decode cX7_keys 8 = .ok (.ifCond .ne 5, 3) := by decide +kernel
theorem dX7_keys_11 : decode cX7_keys 11 = .ok (.iconst (-1), 1) := by decide +kernel
theorem dX7_keys_12 : decode cX7_keys 12 = .ok (.ireturn, 1) := by decide +kernel
theorem dX7_keys_13 : decode cX7_keys 13 = .ok (.aload_n 0, 1) := by decide +kernel
theorem dX7_keys_14 : decode cX7_keys 14 = .ok (.getfield 77, 3) := by decide +kernel
theorem dX7_keys_17 : decode cX7_keys 17 = .ok (.getfield 154, 3) := by decide +kernel
theorem dX7_keys_20 : decode cX7_keys 20 = .ok (.ifCond .ne 8, 3) := by decide +kernel
theorem dX7_keys_23 : decode cX7_keys 23 = .ok (.bipush (-4), 2) := by decide +kernel
theorem dX7_keys_25 : decode cX7_keys 25 = .ok (.goto 8, 3) := by decide +kernel
theorem dX7_keys_28 : decode cX7_keys 28 = .ok (.aload_n 0, 1) := by decide +kernel
theorem dX7_keys_29 : decode cX7_keys 29 = .ok (.iload_n 1, 1) := by decide +kernel
theorem dX7_keys_30 : decode cX7_keys 30 = .ok (.invokevirtual 294, 3) := by decide +kernel
theorem dX7_keys_33 : decode cX7_keys 33 = .ok (.istore_n 2, 1) := by decide +kernel
theorem dX7_keys_34 : decode cX7_keys 34 = .ok (.iload_n 2, 1) := by decide +kernel
theorem dX7_keys_35 : decode cX7_keys 35 = .ok (.ifCond .eq 7, 3) := by decide +kernel
theorem dX7_keys_38 : decode cX7_keys 38 = .ok (.iload_n 2, 1) := by decide +kernel
theorem dX7_keys_39 : decode cX7_keys 39 = .ok (.goto 12, 3) := by decide +kernel
theorem dX7_keys_42 : decode cX7_keys 42 = .ok (.aload_n 0, 1) := by decide +kernel
theorem dX7_keys_43 : decode cX7_keys 43 = .ok (.iload_n 1, 1) := by decide +kernel
theorem dX7_keys_44 : decode cX7_keys 44 = .ok (.aload_n 0, 1) := by decide +kernel
theorem dX7_keys_45 : decode cX7_keys 45 = .ok (.invokevirtual 297, 3) := by decide +kernel
theorem dX7_keys_48 : decode cX7_keys 48 = .ok (.invokevirtual 300, 3) := by decide +kernel
theorem dX7_keys_51 : decode cX7_keys 51 = .ok (.ireturn, 1) := by decide +kernel
theorem dX7_free_0 : decode cX7_free 0 = .ok (.aload_n 0, 1) := by decide +kernel
theorem dX7_free_1 : decode cX7_free 1 = .ok (.iload_n 1, 1) := by decide +kernel
theorem dX7_free_2 : decode cX7_free 2 = .ok (.invokevirtual 157, 3) := by decide +kernel
theorem dX7_free_5 : decode cX7_free 5 = .ok (.ifCond .eq 14, 3) := by decide +kernel
theorem dX7_free_8 : decode cX7_free 8 = .ok (.aload_n 0, 1) := by decide +kernel
theorem dX7_free_9 : decode cX7_free 9 = .ok (.getfield 14, 3) := by decide +kernel
theorem dX7_free_12 : decode cX7_free 12 = .ok (.iload_n 2, 1) := by decide +kernel
theorem dX7_free_13 : decode cX7_free 13 = .ok (.invokevirtual 114, 3) := by decide +kernel
theorem dX7_free_16 : decode cX7_free 16 = .ok (.ifCond .ne 5, 3) := by decide +kernel
theorem dX7_free_19 : decode cX7_free 19 = .ok (.iconst (-1), 1) := by decide +kernel
theorem dX7_free_20 : decode cX7_free 20 = .ok (.ireturn, 1) := by decide +kernel
theorem dX7_free_21 : decode cX7_free 21 = .ok (.aload_n 0, 1) := by decide +kernel
theorem dX7_free_22 : decode cX7_free 22 = .ok (.iload_n 2, 1) := by decide +kernel
theorem dX7_free_23 : decode cX7_free 23 = .ok (.invokevirtual 294, 3) := by decide +kernel
theorem dX7_free_26 : decode cX7_free 26 = .ok (.istore_n 3, 1) := by decide +kernel
theorem dX7_free_27 : decode cX7_free 27 = .ok (.iload_n 3, 1) := by decide +kernel
theorem dX7_free_28 : decode cX7_free 28 = .ok (.ifCond .eq 7, 3) := by decide +kernel
theorem dX7_free_31 : decode cX7_free 31 = .ok (.iload_n 3, 1) := by decide +kernel
theorem dX7_free_32 : decode cX7_free 32 = .ok (.goto 21, 3) := by decide +kernel
theorem dX7_free_35 : decode cX7_free 35 = .ok (.aload_n 0, 1) := by decide +kernel
theorem dX7_free_36 : decode cX7_free 36 = .ok (.iload_n 2, 1) := by decide +kernel
theorem dX7_free_37 : decode cX7_free 37 = .ok (.aload_n 0, 1) := by decide +kernel
theorem dX7_free_38 : decode cX7_free 38 = .ok (.invokevirtual 297, 3) := by decide +kernel
theorem dX7_free_41 : decode cX7_free 41 = .ok (.aload_n 0, 1) := by decide +kernel
theorem dX7_free_42 : decode cX7_free 42 = .ok (.getfield 77, 3) := by decide +kernel
theorem dX7_free_45 : decode cX7_free 45 = .ok (.iload_n 1, 1) := by decide +kernel
theorem dX7_free_46 : decode cX7_free 46 = .ok (.invokevirtual 303, 3) := by decide +kernel
theorem dX7_free_49 : decode cX7_free 49 = .ok (.iand, 1) := by decide +kernel
theorem dX7_free_50 : decode cX7_free 50 = .ok (.invokevirtual 300, 3) := by decide +kernel
theorem dX7_free_53 : decode cX7_free 53 = .ok (.ireturn, 1) := by decide +kernel
theorem dX7_filed_0 : decode cX7_filed 0 = .ok (.aload_n 0, 1) := by decide +kernel
theorem dX7_filed_1 : decode cX7_filed 1 = .ok (.iload_n 1, 1) := by decide +kernel
theorem dX7_filed_2 : decode cX7_filed 2 = .ok (.iload_n 1, 1) := by decide +kernel
theorem dX7_filed_3 : decode cX7_filed 3 = .ok (.invokevirtual 306, 3) := by decide +kernel
theorem dX7_filed_6 : decode cX7_filed 6 = .ok (.istore_n 2, 1) := by decide +kernel
theorem dX7_filed_7 : decode cX7_filed 7 = .ok (.iload_n 2, 1) := by decide +kernel
theorem dX7_filed_8 : decode cX7_filed 8 = .ok (.ifCond .eq 5, 3) := by decide +kernel
theorem dX7_filed_11 : decode cX7_filed 11 = .ok (.iload_n 2, 1) := by decide +kernel
theorem dX7_filed_12 : decode cX7_filed 12 = .ok (.ireturn, 1) := by decide +kernel
theorem dX7_filed_13 : decode cX7_filed 13 = .ok (.aload_n 0, 1) := by decide +kernel
theorem dX7_filed_14 : decode cX7_filed 14 = .ok (.getfield 14, 3) := by decide +kernel
theorem dX7_filed_17 : decode cX7_filed 17 = .ok (.iload_n 1, 1) := by decide +kernel
theorem dX7_filed_18 : decode cX7_filed 18 = .ok (.invokevirtual 133, 3) := by decide +kernel
theorem dX7_filed_21 : decode cX7_filed 21 = .ok (.istore_n 3, 1) := by decide +kernel
theorem dX7_filed_22 : decode cX7_filed 22 = .ok (.iload_n 3, 1) := by decide +kernel
theorem dX7_filed_23 : decode cX7_filed 23 = .ok (.aload_n 0, 1) := by decide +kernel
theorem dX7_filed_24 : decode cX7_filed 24 = .ok (.getfield 77, 3) := by decide +kernel
theorem dX7_filed_27 : decode cX7_filed 27 = .ok (.getfield 154, 3) := by decide +kernel
theorem dX7_filed_30 : decode cX7_filed 30 = .ok (.irem, 1) := by decide +kernel
theorem dX7_filed_31 : decode cX7_filed 31 = .ok (.ifCond .ne 17, 3) := by decide +kernel
theorem dX7_filed_34 : decode cX7_filed 34 = .ok (.iload_n 3, 1) := by decide +kernel
theorem dX7_filed_35 : decode cX7_filed 35 = .ok (.aload_n 0, 1) := by decide +kernel
theorem dX7_filed_36 : decode cX7_filed 36 = .ok (.getfield 77, 3) := by decide +kernel
theorem dX7_filed_39 : decode cX7_filed 39 = .ok (.getfield 154, 3) := by decide +kernel
theorem dX7_filed_42 : decode cX7_filed 42 = .ok (.idiv, 1) := by decide +kernel
theorem dX7_filed_43 : decode cX7_filed 43 = .ok (.bipush 8, 2) := by decide +kernel
theorem dX7_filed_45 : decode cX7_filed 45 = .ok (.if_icmp .le 9, 3) := by decide +kernel
theorem dX7_filed_48 : decode cX7_filed 48 = .ok (.aload_n 0, 1) := by decide +kernel
theorem dX7_filed_49 : decode cX7_filed 49 = .ok (.iconst 5, 1) := by decide +kernel
theorem dX7_filed_50 : decode cX7_filed 50 = .ok (.invokevirtual 118, 3) := by decide +kernel
theorem dX7_filed_53 : decode cX7_filed 53 = .ok (.ireturn, 1) := by decide +kernel
theorem dX7_filed_54 : decode cX7_filed 54 = .ok (.iconst 0, 1) := by decide +kernel
theorem dX7_filed_55 : decode cX7_filed 55 = .ok (.istore 4, 2) := by decide +kernel
theorem dX7_filed_57 : decode cX7_filed 57 = .ok (.iload 4, 2) := by decide +kernel
theorem dX7_filed_59 : decode cX7_filed 59 = .ok (.iload_n 3, 1) := by decide +kernel
theorem dX7_filed_60 : decode cX7_filed 60 = .ok (.if_icmp .ge 32, 3) := by decide +kernel
theorem dX7_filed_63 : decode cX7_filed 63 = .ok (.aload_n 0, 1) := by decide +kernel
theorem dX7_filed_64 : decode cX7_filed 64 = .ok (.aload_n 0, 1) := by decide +kernel
theorem dX7_filed_65 : decode cX7_filed 65 = .ok (.getfield 14, 3) := by decide +kernel
theorem dX7_filed_68 : decode cX7_filed 68 = .ok (.iload_n 1, 1) := by decide +kernel
theorem dX7_filed_69 : decode cX7_filed 69 = .ok (.iload 4, 2) := by decide +kernel
theorem dX7_filed_71 : decode cX7_filed 71 = .ok (.invokevirtual 95, 3) := by decide +kernel
theorem dX7_filed_74 : decode cX7_filed 74 = .ok (.invokevirtual 222, 3) := by decide +kernel
theorem dX7_filed_77 : decode cX7_filed 77 = .ok (.ifCond .ne 9, 3) := by decide +kernel
theorem dX7_filed_80 : decode cX7_filed 80 = .ok (.aload_n 0, 1) := by decide +kernel
theorem dX7_filed_81 : decode cX7_filed 81 = .ok (.iconst 3, 1) := by decide +kernel
theorem dX7_filed_82 : decode cX7_filed 82 = .ok (.invokevirtual 118, 3) := by decide +kernel
theorem dX7_filed_85 : decode cX7_filed 85 = .ok (.ireturn, 1) := by decide +kernel
theorem dX7_filed_86 : decode cX7_filed 86 = .ok (.iinc 4 1, 3) := by decide +kernel
theorem dX7_filed_89 : decode cX7_filed 89 = .ok (.goto (-32), 3) := by decide +kernel
theorem dX7_filed_92 : decode cX7_filed 92 = .ok (.iconst 0, 1) := by decide +kernel
theorem dX7_filed_93 : decode cX7_filed 93 = .ok (.istore 4, 2) := by decide +kernel
theorem dX7_filed_95 : decode cX7_filed 95 = .ok (.iconst 0, 1) := by decide +kernel
theorem dX7_filed_96 : decode cX7_filed 96 = .ok (.istore 5, 2) := by decide +kernel
theorem dX7_filed_98 : decode cX7_filed 98 = .ok (.iload 5, 2) := by decide +kernel
theorem dX7_filed_100 : decode cX7_filed 100 = .ok (.iload_n 3, 1) := by decide +kernel
theorem dX7_filed_101 : decode cX7_filed 101 = .ok (.aload_n 0, 1) := by decide +kernel
theorem dX7_filed_102 : decode cX7_filed 102 = .ok (.getfield 77, 3) := by decide +kernel
theorem dX7_filed_105 : decode cX7_filed 105 = .ok (.getfield 154, 3) := by decide +kernel
theorem dX7_filed_108 : decode cX7_filed 108 = .ok (.idiv, 1) := by decide +kernel
theorem dX7_filed_109 : decode cX7_filed 109 = .ok (.if_icmp .ge 43, 3) := by decide +kernel
theorem dX7_filed_112 : decode cX7_filed 112 = .ok (.iload 4, 2) := by decide +kernel
theorem dX7_filed_114 : decode cX7_filed 114 = .ok (.aload_n 0, 1) := by decide +kernel
theorem dX7_filed_115 : decode cX7_filed 115 = .ok (.getfield 77, 3) := by decide +kernel
theorem dX7_filed_118 : decode cX7_filed 118 = .ok (.aload_n 0, 1) := by decide +kernel
theorem dX7_filed_119 : decode cX7_filed 119 = .ok (.iload_n 1, 1) := by decide +kernel
theorem dX7_filed_120 : decode cX7_filed 120 = .ok (.iload 5, 2) := by decide +kernel
theorem dX7_filed_122 : decode cX7_filed 122 = .ok (.aload_n 0, 1) := by decide +kernel
theorem dX7_filed_123 : decode cX7_filed 123 = .ok (.getfield 77, 3) := by decide +kernel
theorem dX7_filed_126 : decode cX7_filed 126 = .ok (.getfield 154, 3) := by decide +kernel
theorem dX7_filed_129 : decode cX7_filed 129 = .ok (.imul, 1) := by decide +kernel
theorem dX7_filed_130 : decode cX7_filed 130 = .ok (.invokevirtual 309, 3) := by decide +kernel
theorem dX7_filed_133 : decode cX7_filed 133 = .ok (.aload_n 0, 1) := by decide +kernel
theorem dX7_filed_134 : decode cX7_filed 134 = .ok (.getfield 31, 3) := by decide +kernel
theorem dX7_filed_137 : decode cX7_filed 137 = .ok (.getfield 196, 3) := by decide +kernel
theorem dX7_filed_140 : decode cX7_filed 140 = .ok (.invokevirtual 312, 3) := by decide +kernel
theorem dX7_filed_143 : decode cX7_filed 143 = .ok (.ior, 1) := by decide +kernel
theorem dX7_filed_144 : decode cX7_filed 144 = .ok (.istore 4, 2) := by decide +kernel
theorem dX7_filed_146 : decode cX7_filed 146 = .ok (.iinc 5 1, 3) := by decide +kernel
theorem dX7_filed_149 : decode cX7_filed 149 = .ok (.goto (-51), 3) := by decide +kernel
theorem dX7_filed_152 : decode cX7_filed 152 = .ok (.aload_n 0, 1) := by decide +kernel
theorem dX7_filed_153 : decode cX7_filed 153 = .ok (.iload 4, 2) := by decide +kernel
theorem dX7_filed_155 : decode cX7_filed 155 = .ok (.ifCond .ne 7, 3) := by decide +kernel
theorem dX7_filed_158 : decode cX7_filed 158 = .ok (.iconst 1, 1) := by decide +kernel
theorem dX7_filed_159 : decode cX7_filed 159 = .ok (.goto 4, 3) := by decide +kernel
theorem dX7_filed_162 : decode cX7_filed 162 = .ok (.iconst 0, 1) := by decide +kernel
theorem dX7_filed_163 : decode cX7_filed 163 = .ok (.putfield 99, 3) := by decide +kernel
theorem dX7_filed_166 : decode cX7_filed 166 = .ok (.aload_n 0, 1) := by decide +kernel
theorem dX7_filed_167 : decode cX7_filed 167 = .ok (.iload 4, 2) := by decide +kernel
theorem dX7_filed_169 : decode cX7_filed 169 = .ok (.invokevirtual 315, 3) := by decide +kernel
theorem dX7_filed_172 : decode cX7_filed 172 = .ok (.ireturn, 1) := by decide +kernel
theorem dX7_judge_0 : decode cX7_judge 0 = .ok (.aload_n 0, 1) := by decide +kernel
theorem dX7_judge_1 : decode cX7_judge 1 = .ok (.iload_n 1, 1) := by decide +kernel
theorem dX7_judge_2 : decode cX7_judge 2 = .ok (.iload_n 1, 1) := by decide +kernel
theorem dX7_judge_3 : decode cX7_judge 3 = .ok (.invokevirtual 306, 3) := by decide +kernel
theorem dX7_judge_6 : decode cX7_judge 6 = .ok (.istore_n 2, 1) := by decide +kernel
theorem dX7_judge_7 : decode cX7_judge 7 = .ok (.iload_n 2, 1) := by decide +kernel
theorem dX7_judge_8 : decode cX7_judge 8 = .ok (.ifCond .eq 5, 3) := by decide +kernel
theorem dX7_judge_11 : decode cX7_judge 11 = .ok (.iload_n 2, 1) := by decide +kernel
theorem dX7_judge_12 : decode cX7_judge 12 = .ok (.ireturn, 1) := by decide +kernel
theorem dX7_judge_13 : decode cX7_judge 13 = .ok (.aload_n 0, 1) := by decide +kernel
theorem dX7_judge_14 : decode cX7_judge 14 = .ok (.getfield 14, 3) := by decide +kernel
theorem dX7_judge_17 : decode cX7_judge 17 = .ok (.iload_n 1, 1) := by decide +kernel
theorem dX7_judge_18 : decode cX7_judge 18 = .ok (.invokevirtual 133, 3) := by decide +kernel
theorem dX7_judge_21 : decode cX7_judge 21 = .ok (.istore_n 3, 1) := by decide +kernel
theorem dX7_judge_22 : decode cX7_judge 22 = .ok (.iconst 0, 1) := by decide +kernel
theorem dX7_judge_23 : decode cX7_judge 23 = .ok (.istore 4, 2) := by decide +kernel
theorem dX7_judge_25 : decode cX7_judge 25 = .ok (.iload 4, 2) := by decide +kernel
theorem dX7_judge_27 : decode cX7_judge 27 = .ok (.iload_n 3, 1) := by decide +kernel
theorem dX7_judge_28 : decode cX7_judge 28 = .ok (.if_icmp .ge 32, 3) := by decide +kernel
theorem dX7_judge_31 : decode cX7_judge 31 = .ok (.aload_n 0, 1) := by decide +kernel
theorem dX7_judge_32 : decode cX7_judge 32 = .ok (.aload_n 0, 1) := by decide +kernel
theorem dX7_judge_33 : decode cX7_judge 33 = .ok (.getfield 14, 3) := by decide +kernel
theorem dX7_judge_36 : decode cX7_judge 36 = .ok (.iload_n 1, 1) := by decide +kernel
theorem dX7_judge_37 : decode cX7_judge 37 = .ok (.iload 4, 2) := by decide +kernel
theorem dX7_judge_39 : decode cX7_judge 39 = .ok (.invokevirtual 95, 3) := by decide +kernel
theorem dX7_judge_42 : decode cX7_judge 42 = .ok (.invokevirtual 318, 3) := by decide +kernel
theorem dX7_judge_45 : decode cX7_judge 45 = .ok (.ifCond .ne 9, 3) := by decide +kernel
theorem dX7_judge_48 : decode cX7_judge 48 = .ok (.aload_n 0, 1) := by decide +kernel
theorem dX7_judge_49 : decode cX7_judge 49 = .ok (.iconst 3, 1) := by decide +kernel
theorem dX7_judge_50 : decode cX7_judge 50 = .ok (.invokevirtual 118, 3) := by decide +kernel
theorem dX7_judge_53 : decode cX7_judge 53 = .ok (.ireturn, 1) := by decide +kernel
theorem dX7_judge_54 : decode cX7_judge 54 = .ok (.iinc 4 1, 3) := by decide +kernel
theorem dX7_judge_57 : decode cX7_judge 57 = .ok (.goto (-32), 3) := by decide +kernel
theorem dX7_judge_60 : decode cX7_judge 60 = .ok (.aload_n 0, 1) := by decide +kernel
theorem dX7_judge_61 : decode cX7_judge 61 = .ok (.getfield 31, 3) := by decide +kernel
theorem dX7_judge_64 : decode cX7_judge 64 = .ok (.getfield 199, 3) := by decide +kernel
theorem dX7_judge_67 : decode cX7_judge 67 = .ok (.istore 4, 2) := by decide +kernel
theorem dX7_judge_69 : decode cX7_judge 69 = .ok (.iconst 0, 1) := by decide +kernel
theorem dX7_judge_70 : decode cX7_judge 70 = .ok (.istore 5, 2) := by decide +kernel
theorem dX7_judge_72 : decode cX7_judge 72 = .ok (.iload 5, 2) := by decide +kernel
theorem dX7_judge_74 : decode cX7_judge 74 = .ok (.iload_n 3, 1) := by decide +kernel
theorem dX7_judge_75 : decode cX7_judge 75 = .ok (.if_icmp .ge 56, 3) := by decide +kernel
theorem dX7_judge_78 : decode cX7_judge 78 = .ok (.aload_n 0, 1) := by decide +kernel
theorem dX7_judge_79 : decode cX7_judge 79 = .ok (.getfield 14, 3) := by decide +kernel
theorem dX7_judge_82 : decode cX7_judge 82 = .ok (.iload_n 1, 1) := by decide +kernel
theorem dX7_judge_83 : decode cX7_judge 83 = .ok (.iload 5, 2) := by decide +kernel
theorem dX7_judge_85 : decode cX7_judge 85 = .ok (.invokevirtual 95, 3) := by decide +kernel
theorem dX7_judge_88 : decode cX7_judge 88 = .ok (.istore 6, 2) := by decide +kernel
theorem dX7_judge_90 : decode cX7_judge 90 = .ok (.aload_n 0, 1) := by decide +kernel
theorem dX7_judge_91 : decode cX7_judge 91 = .ok (.getfield 42, 3) := by decide +kernel
theorem dX7_judge_94 : decode cX7_judge 94 = .ok (.iload 4, 2) := by decide +kernel
theorem dX7_judge_96 : decode cX7_judge 96 = .ok (.iload 6, 2) := by decide +kernel
theorem dX7_judge_98 : decode cX7_judge 98 = .ok (.bipush 10, 2) := by decide +kernel
theorem dX7_judge_100 : decode cX7_judge 100 = .ok (.idiv, 1) := by decide +kernel
theorem dX7_judge_101 : decode cX7_judge 101 = .ok (.iload 6, 2) := by decide +kernel
theorem dX7_judge_103 : decode cX7_judge 103 = .ok (.bipush 10, 2) := by decide +kernel
theorem dX7_judge_105 : decode cX7_judge 105 = .ok (.irem, 1) := by decide +kernel
theorem dX7_judge_106 : decode cX7_judge 106 = .ok (.invokevirtual 202, 3) := by decide +kernel
theorem dX7_judge_109 : decode cX7_judge 109 = .ok (.istore 7, 2) := by decide +kernel
theorem dX7_judge_111 : decode cX7_judge 111 = .ok (.iload 7, 2) := by decide +kernel
theorem dX7_judge_113 : decode cX7_judge 113 = .ok (.bipush (-9), 2) := by decide +kernel
theorem dX7_judge_115 : decode cX7_judge 115 = .ok (.if_icmp .ne 6, 3) := by decide +kernel
theorem dX7_judge_118 : decode cX7_judge 118 = .ok (.goto 13, 3) := by decide +kernel
theorem dX7_judge_121 : decode cX7_judge 121 = .ok (.iload 7, 2) := by decide +kernel
theorem dX7_judge_123 : decode cX7_judge 123 = .ok (.istore 4, 2) := by decide +kernel
theorem dX7_judge_125 : decode cX7_judge 125 = .ok (.iinc 5 1, 3) := by decide +kernel
theorem dX7_judge_128 : decode cX7_judge 128 = .ok (.goto (-56), 3) := by decide +kernel
theorem dX7_judge_131 : decode cX7_judge 131 = .ok (.aload_n 0, 1) := by decide +kernel
theorem dX7_judge_132 : decode cX7_judge 132 = .ok (.aload_n 0, 1) := by decide +kernel
theorem dX7_judge_133 : decode cX7_judge 133 = .ok (.iload 4, 2) := by decide +kernel
theorem dX7_judge_135 : decode cX7_judge 135 = .ok (.invokevirtual 321, 3) := by decide +kernel
theorem dX7_judge_138 : decode cX7_judge 138 = .ok (.putfield 99, 3) := by decide +kernel
theorem dX7_judge_141 : decode cX7_judge 141 = .ok (.iload 5, 2) := by decide +kernel
theorem dX7_judge_143 : decode cX7_judge 143 = .ok (.ireturn, 1) := by decide +kernel
theorem dX7_quarrel_0 : decode cX7_quarrel 0 = .ok (.aload_n 0, 1) := by decide +kernel
theorem dX7_quarrel_1 : decode cX7_quarrel 1 = .ok (.iload_n 1, 1) := by decide +kernel
theorem dX7_quarrel_2 : decode cX7_quarrel 2 = .ok (.invokevirtual 157, 3) := by decide +kernel
theorem dX7_quarrel_5 : decode cX7_quarrel 5 = .ok (.ifCond .eq 16, 3) := by decide +kernel
theorem dX7_quarrel_8 : decode cX7_quarrel 8 = .ok (.aload_n 0, 1) := by decide +kernel
theorem dX7_quarrel_9 : decode cX7_quarrel 9 = .ok (.iload_n 2, 1) := by decide +kernel
theorem dX7_quarrel_10 : decode cX7_quarrel 10 = .ok (.invokevirtual 157, 3) := by decide +kernel
theorem dX7_quarrel_13 : decode cX7_quarrel 13 = .ok (.ifCond .eq 8, 3) := by decide +kernel
theorem dX7_quarrel_16 : decode cX7_quarrel 16 = .ok (.iload_n 1, 1) := by decide +kernel
theorem dX7_quarrel_17 : decode cX7_quarrel 17 = .ok (.iload_n 2, 1) := by decide +kernel
theorem dX7_quarrel_18 : decode cX7_quarrel 18 = .ok (.if_icmp .ne 5, 3) := by decide +kernel
theorem dX7_quarrel_21 : decode cX7_quarrel 21 = .ok (.iconst (-1), 1) := by decide +kernel
theorem dX7_quarrel_22 : decode cX7_quarrel 22 = .ok (.ireturn, 1) := by decide +kernel
theorem dX7_quarrel_23 : decode cX7_quarrel 23 = .ok (.aload_n 0, 1) := by decide +kernel
theorem dX7_quarrel_24 : decode cX7_quarrel 24 = .ok (.getfield 151, 3) := by decide +kernel
theorem dX7_quarrel_27 : decode cX7_quarrel 27 = .ok (.bipush 8, 2) := by decide +kernel
theorem dX7_quarrel_29 : decode cX7_quarrel 29 = .ok (.if_icmp .lt 6, 3) := by decide +kernel
theorem dX7_quarrel_32 : decode cX7_quarrel 32 = .ok (.bipush (-2), 2) := by decide +kernel
theorem dX7_quarrel_34 : decode cX7_quarrel 34 = .ok (.ireturn, 1) := by decide +kernel
theorem dX7_quarrel_35 : decode cX7_quarrel 35 = .ok (.aload_n 0, 1) := by decide +kernel
theorem dX7_quarrel_36 : decode cX7_quarrel 36 = .ok (.getfield 64, 3) := by decide +kernel
theorem dX7_quarrel_39 : decode cX7_quarrel 39 = .ok (.aload_n 0, 1) := by decide +kernel
theorem dX7_quarrel_40 : decode cX7_quarrel 40 = .ok (.getfield 151, 3) := by decide +kernel
theorem dX7_quarrel_43 : decode cX7_quarrel 43 = .ok (.iload_n 1, 1) := by decide +kernel
theorem dX7_quarrel_44 : decode cX7_quarrel 44 = .ok (.iastore, 1) := by decide +kernel
theorem dX7_quarrel_45 : decode cX7_quarrel 45 = .ok (.aload_n 0, 1) := by decide +kernel
theorem dX7_quarrel_46 : decode cX7_quarrel 46 = .ok (.getfield 68, 3) := by decide +kernel
theorem dX7_quarrel_49 : decode cX7_quarrel 49 = .ok (.aload_n 0, 1) := by decide +kernel
theorem dX7_quarrel_50 : decode cX7_quarrel 50 = .ok (.getfield 151, 3) := by decide +kernel
theorem dX7_quarrel_53 : decode cX7_quarrel 53 = .ok (.iload_n 2, 1) := by decide +kernel
theorem dX7_quarrel_54 : decode cX7_quarrel 54 = .ok (.iastore, 1) := by decide +kernel
theorem dX7_quarrel_55 : decode cX7_quarrel 55 = .ok (.aload_n 0, 1) := by decide +kernel
theorem dX7_quarrel_56 : decode cX7_quarrel 56 = .ok (.dup, 1) := by decide +kernel
theorem dX7_quarrel_57 : decode cX7_quarrel 57 = .ok (.getfield 151, 3) := by decide +kernel
theorem dX7_quarrel_60 : decode cX7_quarrel 60 = .ok (.iconst 1, 1) := by decide +kernel
theorem dX7_quarrel_61 : decode cX7_quarrel 61 = .ok (.iadd, 1) := by decide +kernel
theorem dX7_quarrel_62 : decode cX7_quarrel 62 = .ok (.putfield 151, 3) := by decide +kernel
theorem dX7_quarrel_65 : decode cX7_quarrel 65 = .ok (.aload_n 0, 1) := by decide +kernel
theorem dX7_quarrel_66 : decode cX7_quarrel 66 = .ok (.getfield 151, 3) := by decide +kernel
theorem dX7_quarrel_69 : decode cX7_quarrel 69 = .ok (.iconst 1, 1) := by decide +kernel
theorem dX7_quarrel_70 : decode cX7_quarrel 70 = .ok (.isub, 1) := by decide +kernel
theorem dX7_quarrel_71 : decode cX7_quarrel 71 = .ok (.ireturn, 1) := by decide +kernel
theorem dX7_peace_0 : decode cX7_peace 0 = .ok (.iload_n 1, 1) := by decide +kernel
theorem dX7_peace_1 : decode cX7_peace 1 = .ok (.ifCond .lt 11, 3) := by decide +kernel
theorem dX7_peace_4 : decode cX7_peace 4 = .ok (.iload_n 1, 1) := by decide +kernel
theorem dX7_peace_5 : decode cX7_peace 5 = .ok (.aload_n 0, 1) := by decide +kernel
theorem dX7_peace_6 : decode cX7_peace 6 = .ok (.getfield 151, 3) := by decide +kernel
theorem dX7_peace_9 : decode cX7_peace 9 = .ok (.if_icmp .le 5, 3) := by decide +kernel
theorem dX7_peace_12 : decode cX7_peace 12 = .ok (.iconst (-1), 1) := by decide +kernel
theorem dX7_peace_13 : decode cX7_peace 13 = .ok (.ireturn, 1) := by decide +kernel
theorem dX7_peace_14 : decode cX7_peace 14 = .ok (.aload_n 0, 1) := by decide +kernel
theorem dX7_peace_15 : decode cX7_peace 15 = .ok (.getfield 151, 3) := by decide +kernel
theorem dX7_peace_18 : decode cX7_peace 18 = .ok (.iload_n 1, 1) := by decide +kernel
theorem dX7_peace_19 : decode cX7_peace 19 = .ok (.isub, 1) := by decide +kernel
theorem dX7_peace_20 : decode cX7_peace 20 = .ok (.istore_n 2, 1) := by decide +kernel
theorem dX7_peace_21 : decode cX7_peace 21 = .ok (.aload_n 0, 1) := by decide +kernel
theorem dX7_peace_22 : decode cX7_peace 22 = .ok (.iload_n 1, 1) := by decide +kernel
theorem dX7_peace_23 : decode cX7_peace 23 = .ok (.putfield 151, 3) := by decide +kernel
theorem dX7_peace_26 : decode cX7_peace 26 = .ok (.iload_n 2, 1) := by decide +kernel
theorem dX7_peace_27 : decode cX7_peace 27 = .ok (.ireturn, 1) := by decide +kernel
theorem dX7_easter_0 : decode cX7_easter 0 = .ok (.aload_n 0, 1) := by decide +kernel
theorem dX7_easter_1 : decode cX7_easter 1 = .ok (.getfield 14, 3) := by decide +kernel
theorem dX7_easter_4 : decode cX7_easter 4 = .ok (.iload_n 1, 1) := by decide +kernel
theorem dX7_easter_5 : decode cX7_easter 5 = .ok (.invokevirtual 114, 3) := by decide +kernel
theorem dX7_easter_8 : decode cX7_easter 8 = .ok (.ifCond .ne 5, 3) := by decide +kernel
theorem dX7_easter_11 : decode cX7_easter 11 = .ok (.iconst (-1), 1) := by decide +kernel
theorem dX7_easter_12 : decode cX7_easter 12 = .ok (.ireturn, 1) := by decide +kernel
theorem dX7_easter_13 : decode cX7_easter 13 = .ok (.aload_n 0, 1) := by decide +kernel
theorem dX7_easter_14 : decode cX7_easter 14 = .ok (.getfield 77, 3) := by decide +kernel
theorem dX7_easter_17 : decode cX7_easter 17 = .ok (.getfield 154, 3) := by decide +kernel
theorem dX7_easter_20 : decode cX7_easter 20 = .ok (.istore_n 2, 1) := by decide +kernel
theorem dX7_easter_21 : decode cX7_easter 21 = .ok (.iload_n 2, 1) := by decide +kernel
theorem dX7_easter_22 : decode cX7_easter 22 = .ok (.ifCond .ne 6, 3) := by decide +kernel
theorem dX7_easter_25 : decode cX7_easter 25 = .ok (.bipush (-4), 2) := by decide +kernel
theorem dX7_easter_27 : decode cX7_easter 27 = .ok (.ireturn, 1) := by decide +kernel
theorem dX7_easter_28 : decode cX7_easter 28 = .ok (.iconst 0, 1) := by decide +kernel
theorem dX7_easter_29 : decode cX7_easter 29 = .ok (.istore_n 3, 1) := by decide +kernel
theorem dX7_easter_30 : decode cX7_easter 30 = .ok (.bipush 9, 2) := by decide +kernel
theorem dX7_easter_32 : decode cX7_easter 32 = .ok (.istore 4, 2) := by decide +kernel
theorem dX7_easter_34 : decode cX7_easter 34 = .ok (.iconst 0, 1) := by decide +kernel
theorem dX7_easter_35 : decode cX7_easter 35 = .ok (.istore 5, 2) := by decide +kernel
theorem dX7_easter_37 : decode cX7_easter 37 = .ok (.iload 5, 2) := by decide +kernel
theorem dX7_easter_39 : decode cX7_easter 39 = .ok (.iconst 1, 1) := by decide +kernel
theorem dX7_easter_40 : decode cX7_easter 40 = .ok (.iconst 2, 1) := by decide +kernel
theorem dX7_easter_41 : decode cX7_easter 41 = .ok (.iload_n 2, 1) := by decide +kernel
theorem dX7_easter_42 : decode cX7_easter 42 = .ok (.imul, 1) := by decide +kernel
theorem dX7_easter_43 : decode cX7_easter 43 = .ok (.ishl, 1) := by decide +kernel
theorem dX7_easter_44 : decode cX7_easter 44 = .ok (.if_icmp .ge 45, 3) := by decide +kernel
theorem dX7_easter_47 : decode cX7_easter 47 = .ok (.aload_n 0, 1) := by decide +kernel
theorem dX7_easter_48 : decode cX7_easter 48 = .ok (.iload 5, 2) := by decide +kernel
theorem dX7_easter_50 : decode cX7_easter 50 = .ok (.invokevirtual 324, 3) := by decide +kernel
theorem dX7_easter_53 : decode cX7_easter 53 = .ok (.ifCond .eq 12, 3) := by decide +kernel
theorem dX7_easter_56 : decode cX7_easter 56 = .ok (.aload_n 0, 1) := by decide +kernel
theorem dX7_easter_57 : decode cX7_easter 57 = .ok (.iload 5, 2) := by decide +kernel
theorem dX7_easter_59 : decode cX7_easter 59 = .ok (.invokevirtual 327, 3) := by decide +kernel
theorem dX7_easter_62 : decode cX7_easter 62 = .ok (.goto 5, 3) := by decide +kernel
theorem dX7_easter_65 : decode cX7_easter 65 = .ok (.iload 4, 2) := by decide +kernel
theorem dX7_easter_67 : decode cX7_easter 67 = .ok (.istore 6, 2) := by decide +kernel
theorem dX7_easter_69 : decode cX7_easter 69 = .ok (.iload 6, 2) := by decide +kernel
theorem dX7_easter_71 : decode cX7_easter 71 = .ok (.iload 4, 2) := by decide +kernel
theorem dX7_easter_73 : decode cX7_easter 73 = .ok (.if_icmp .ge 10, 3) := by decide +kernel
theorem dX7_easter_76 : decode cX7_easter 76 = .ok (.iload 6, 2) := by decide +kernel
theorem dX7_easter_78 : decode cX7_easter 78 = .ok (.istore 4, 2) := by decide +kernel
theorem dX7_easter_80 : decode cX7_easter 80 = .ok (.iload 5, 2) := by decide +kernel
theorem dX7_easter_82 : decode cX7_easter 82 = .ok (.istore_n 3, 1) := by decide +kernel
theorem dX7_easter_83 : decode cX7_easter 83 = .ok (.iinc 5 1, 3) := by decide +kernel
theorem dX7_easter_86 : decode cX7_easter 86 = .ok (.goto (-49), 3) := by decide +kernel
theorem dX7_easter_89 : decode cX7_easter 89 = .ok (.aload_n 0, 1) := by decide +kernel
theorem dX7_easter_90 : decode cX7_easter 90 = .ok (.getfield 14, 3) := by decide +kernel
theorem dX7_easter_93 : decode cX7_easter 93 = .ok (.iload_n 1, 1) := by decide +kernel
theorem dX7_easter_94 : decode cX7_easter 94 = .ok (.iload_n 2, 1) := by decide +kernel
theorem dX7_easter_95 : decode cX7_easter 95 = .ok (.iconst 0, 1) := by decide +kernel
theorem dX7_easter_96 : decode cX7_easter 96 = .ok (.invokevirtual 242, 3) := by decide +kernel
theorem dX7_easter_99 : decode cX7_easter 99 = .ok (.iconst 0, 1) := by decide +kernel
theorem dX7_easter_100 : decode cX7_easter 100 = .ok (.istore 5, 2) := by decide +kernel
theorem dX7_easter_102 : decode cX7_easter 102 = .ok (.iload 5, 2) := by decide +kernel
theorem dX7_easter_104 : decode cX7_easter 104 = .ok (.iload_n 2, 1) := by decide +kernel
theorem dX7_easter_105 : decode cX7_easter 105 = .ok (.if_icmp .ge 26, 3) := by decide +kernel
theorem dX7_easter_108 : decode cX7_easter 108 = .ok (.aload_n 0, 1) := by decide +kernel
theorem dX7_easter_109 : decode cX7_easter 109 = .ok (.getfield 14, 3) := by decide +kernel
theorem dX7_easter_112 : decode cX7_easter 112 = .ok (.iload_n 1, 1) := by decide +kernel
theorem dX7_easter_113 : decode cX7_easter 113 = .ok (.iload 5, 2) := by decide +kernel
theorem dX7_easter_115 : decode cX7_easter 115 = .ok (.aload_n 0, 1) := by decide +kernel
theorem dX7_easter_116 : decode cX7_easter 116 = .ok (.iload_n 3, 1) := by decide +kernel
theorem dX7_easter_117 : decode cX7_easter 117 = .ok (.iload 5, 2) := by decide +kernel
theorem dX7_easter_119 : decode cX7_easter 119 = .ok (.invokevirtual 330, 3) := by decide +kernel
theorem dX7_easter_122 : decode cX7_easter 122 = .ok (.invokevirtual 103, 3) := by decide +kernel
theorem dX7_easter_125 : decode cX7_easter 125 = .ok (.iinc 5 1, 3) := by decide +kernel
theorem dX7_easter_128 : decode cX7_easter 128 = .ok (.goto (-26), 3) := by decide +kernel
theorem dX7_easter_131 : decode cX7_easter 131 = .ok (.iload 4, 2) := by decide +kernel
theorem dX7_easter_133 : decode cX7_easter 133 = .ok (.ireturn, 1) := by decide +kernel
theorem dX7_lots_0 : decode cX7_lots 0 = .ok (.iload_n 1, 1) := by decide +kernel
theorem dX7_lots_1 : decode cX7_lots 1 = .ok (.iconst 1, 1) := by decide +kernel
theorem dX7_lots_2 : decode cX7_lots 2 = .ok (.if_icmp .lt 21, 3) := by decide +kernel
theorem dX7_lots_5 : decode cX7_lots 5 = .ok (.iload_n 1, 1) := by decide +kernel
theorem dX7_lots_6 : decode cX7_lots 6 = .ok (.bipush 60, 2) := by decide +kernel
theorem dX7_lots_8 : decode cX7_lots 8 = .ok (.if_icmp .gt 15, 3) := by decide +kernel
theorem dX7_lots_11 : decode cX7_lots 11 = .ok (.iload_n 2, 1) := by decide +kernel
theorem dX7_lots_12 : decode cX7_lots 12 = .ok (.iconst 1, 1) := by decide +kernel
theorem dX7_lots_13 : decode cX7_lots 13 = .ok (.if_icmp .lt 10, 3) := by decide +kernel
theorem dX7_lots_16 : decode cX7_lots 16 = .ok (.iload_n 2, 1) := by decide +kernel
theorem dX7_lots_17 : decode cX7_lots 17 = .ok (.ldc_w 333, 3) := by decide +kernel
theorem dX7_lots_20 : decode cX7_lots 20 = .ok (.if_icmp .le 5, 3) := by decide +kernel
theorem dX7_lots_23 : decode cX7_lots 23 = .ok (.iconst (-1), 1) := by decide +kernel
theorem dX7_lots_24 : decode cX7_lots 24 = .ok (.ireturn, 1) := by decide +kernel
theorem dX7_lots_25 : decode cX7_lots 25 = .ok (.aload_n 0, 1) := by decide +kernel
theorem dX7_lots_26 : decode cX7_lots 26 = .ok (.getfield 77, 3) := by decide +kernel
theorem dX7_lots_29 : decode cX7_lots 29 = .ok (.getfield 154, 3) := by decide +kernel
theorem dX7_lots_32 : decode cX7_lots 32 = .ok (.ifCond .ne 6, 3) := by decide +kernel
theorem dX7_lots_35 : decode cX7_lots 35 = .ok (.bipush (-4), 2) := by decide +kernel
theorem dX7_lots_37 : decode cX7_lots 37 = .ok (.ireturn, 1) := by decide +kernel
theorem dX7_lots_38 : decode cX7_lots 38 = .ok (.aload_n 0, 1) := by decide +kernel
theorem dX7_lots_39 : decode cX7_lots 39 = .ok (.getfield 31, 3) := by decide +kernel
theorem dX7_lots_42 : decode cX7_lots 42 = .ok (.getfield 206, 3) := by decide +kernel
theorem dX7_lots_45 : decode cX7_lots 45 = .ok (.iload_n 1, 1) := by decide +kernel
theorem dX7_lots_46 : decode cX7_lots 46 = .ok (.iadd, 1) := by decide +kernel
theorem dX7_lots_47 : decode cX7_lots 47 = .ok (.bipush 60, 2) := by decide +kernel
theorem dX7_lots_49 : decode cX7_lots 49 = .ok (.if_icmp .le 6, 3) := by decide +kernel
theorem dX7_lots_52 : decode cX7_lots 52 = .ok (.bipush (-2), 2) := by decide +kernel
theorem dX7_lots_54 : decode cX7_lots 54 = .ok (.ireturn, 1) := by decide +kernel
theorem dX7_lots_55 : decode cX7_lots 55 = .ok (.aload_n 0, 1) := by decide +kernel
theorem dX7_lots_56 : decode cX7_lots 56 = .ok (.getfield 31, 3) := by decide +kernel
theorem dX7_lots_59 : decode cX7_lots 59 = .ok (.getfield 206, 3) := by decide +kernel
theorem dX7_lots_62 : decode cX7_lots 62 = .ok (.istore_n 3, 1) := by decide +kernel
theorem dX7_lots_63 : decode cX7_lots 63 = .ok (.iload_n 2, 1) := by decide +kernel
theorem dX7_lots_64 : decode cX7_lots 64 = .ok (.i2l, 1) := by decide +kernel
theorem dX7_lots_65 : decode cX7_lots 65 = .ok (.lstore 4, 2) := by decide +kernel
theorem dX7_lots_67 : decode cX7_lots 67 = .ok (.iconst 0, 1) := by decide +kernel
theorem dX7_lots_68 : decode cX7_lots 68 = .ok (.istore 6, 2) := by decide +kernel
theorem dX7_lots_70 : decode cX7_lots 70 = .ok (.iload 6, 2) := by decide +kernel
theorem dX7_lots_72 : decode cX7_lots 72 = .ok (.iload_n 1, 1) := by decide +kernel
theorem dX7_lots_73 : decode cX7_lots 73 = .ok (.if_icmp .ge 91, 3) := by decide +kernel
theorem dX7_lots_76 : decode cX7_lots 76 = .ok (.lload 4, 2) := by decide +kernel
theorem dX7_lots_78 : decode cX7_lots 78 = .ok (.ldc2_w 334, 3) := by decide +kernel
theorem dX7_lots_81 : decode cX7_lots 81 = .ok (.lmul, 1) := by decide +kernel
theorem dX7_lots_82 : decode cX7_lots 82 = .ok (.ldc2_w 336, 3) := by decide +kernel
theorem dX7_lots_85 : decode cX7_lots 85 = .ok (.lrem, 1) := by decide +kernel
theorem dX7_lots_86 : decode cX7_lots 86 = .ok (.lstore 4, 2) := by decide +kernel
theorem dX7_lots_88 : decode cX7_lots 88 = .ok (.lload 4, 2) := by decide +kernel
theorem dX7_lots_90 : decode cX7_lots 90 = .ok (.aload_n 0, 1) := by decide +kernel
theorem dX7_lots_91 : decode cX7_lots 91 = .ok (.getfield 77, 3) := by decide +kernel
theorem dX7_lots_94 : decode cX7_lots 94 = .ok (.getfield 154, 3) := by decide +kernel
theorem dX7_lots_97 : decode cX7_lots 97 = .ok (.i2l, 1) := by decide +kernel
theorem dX7_lots_98 : decode cX7_lots 98 = .ok (.lrem, 1) := by decide +kernel
theorem dX7_lots_99 : decode cX7_lots 99 = .ok (.l2i, 1) := by decide +kernel
theorem dX7_lots_100 : decode cX7_lots 100 = .ok (.istore 7, 2) := by decide +kernel
theorem dX7_lots_102 : decode cX7_lots 102 = .ok (.lload 4, 2) := by decide +kernel
theorem dX7_lots_104 : decode cX7_lots 104 = .ok (.ldc2_w 338, 3) := by decide +kernel
theorem dX7_lots_107 : decode cX7_lots 107 = .ok (.ldiv, 1) := by decide +kernel
theorem dX7_lots_108 : decode cX7_lots 108 = .ok (.ldc2_w 340, 3) := by decide +kernel
theorem dX7_lots_111 : decode cX7_lots 111 = .ok (.lrem, 1) := by decide +kernel
theorem dX7_lots_112 : decode cX7_lots 112 = .ok (.l2i, 1) := by decide +kernel
theorem dX7_lots_113 : decode cX7_lots 113 = .ok (.istore 8, 2) := by decide +kernel
theorem dX7_lots_115 : decode cX7_lots 115 = .ok (.aload_n 0, 1) := by decide +kernel
theorem dX7_lots_116 : decode cX7_lots 116 = .ok (.getfield 42, 3) := by decide +kernel
theorem dX7_lots_119 : decode cX7_lots 119 = .ok (.aload_n 0, 1) := by decide +kernel
theorem dX7_lots_120 : decode cX7_lots 120 = .ok (.getfield 31, 3) := by decide +kernel
theorem dX7_lots_123 : decode cX7_lots 123 = .ok (.getfield 199, 3) := by decide +kernel
theorem dX7_lots_126 : decode cX7_lots 126 = .ok (.iload 7, 2) := by decide +kernel
theorem dX7_lots_128 : decode cX7_lots 128 = .ok (.iload 8, 2) := by decide +kernel
theorem dX7_lots_130 : decode cX7_lots 130 = .ok (.invokevirtual 202, 3) := by decide +kernel
theorem dX7_lots_133 : decode cX7_lots 133 = .ok (.istore 9, 2) := by decide +kernel
theorem dX7_lots_135 : decode cX7_lots 135 = .ok (.iload 9, 2) := by decide +kernel
theorem dX7_lots_137 : decode cX7_lots 137 = .ok (.bipush (-9), 2) := by decide +kernel
theorem dX7_lots_139 : decode cX7_lots 139 = .ok (.if_icmp .eq 19, 3) := by decide +kernel
theorem dX7_lots_142 : decode cX7_lots 142 = .ok (.aload_n 0, 1) := by decide +kernel
theorem dX7_lots_143 : decode cX7_lots 143 = .ok (.getfield 31, 3) := by decide +kernel
theorem dX7_lots_146 : decode cX7_lots 146 = .ok (.iload 7, 2) := by decide +kernel
theorem dX7_lots_148 : decode cX7_lots 148 = .ok (.iload 8, 2) := by decide +kernel
theorem dX7_lots_150 : decode cX7_lots 150 = .ok (.invokestatic 209, 3) := by decide +kernel
theorem dX7_lots_153 : decode cX7_lots 153 = .ok (.iload 9, 2) := by decide +kernel
theorem dX7_lots_155 : decode cX7_lots 155 = .ok (.invokevirtual 212, 3) := by decide +kernel
theorem dX7_lots_158 : decode cX7_lots 158 = .ok (.iinc 6 1, 3) := by decide +kernel
theorem dX7_lots_161 : decode cX7_lots 161 = .ok (.goto (-91), 3) := by decide +kernel
theorem dX7_lots_164 : decode cX7_lots 164 = .ok (.aload_n 0, 1) := by decide +kernel
theorem dX7_lots_165 : decode cX7_lots 165 = .ok (.getfield 31, 3) := by decide +kernel
theorem dX7_lots_168 : decode cX7_lots 168 = .ok (.getfield 206, 3) := by decide +kernel
theorem dX7_lots_171 : decode cX7_lots 171 = .ok (.iload_n 3, 1) := by decide +kernel
theorem dX7_lots_172 : decode cX7_lots 172 = .ok (.isub, 1) := by decide +kernel
theorem dX7_lots_173 : decode cX7_lots 173 = .ok (.ireturn, 1) := by decide +kernel
theorem dX7_asked_0 : decode cX7_asked 0 = .ok (.aload_n 0, 1) := by decide +kernel
theorem dX7_asked_1 : decode cX7_asked 1 = .ok (.getfield 99, 3) := by decide +kernel
theorem dX7_asked_4 : decode cX7_asked 4 = .ok (.ireturn, 1) := by decide +kernel
theorem dX7_upper_0 : decode cX7_upper 0 = .ok (.aload_n 0, 1) := by decide +kernel
theorem dX7_upper_1 : decode cX7_upper 1 = .ok (.getfield 77, 3) := by decide +kernel
theorem dX7_upper_4 : decode cX7_upper 4 = .ok (.getfield 154, 3) := by decide +kernel
theorem dX7_upper_7 : decode cX7_upper 7 = .ok (.ifCond .ne 7, 3) := by decide +kernel
theorem dX7_upper_10 : decode cX7_upper 10 = .ok (.lconst 0, 1) := by decide +kernel
theorem dX7_upper_11 : decode cX7_upper 11 = .ok (.goto 13, 3) := by decide +kernel
theorem dX7_upper_14 : decode cX7_upper 14 = .ok (.aload_n 0, 1) := by decide +kernel
theorem dX7_upper_15 : decode cX7_upper 15 = .ok (.invokevirtual 342, 3) := by decide +kernel
theorem dX7_upper_18 : decode cX7_upper 18 = .ok (.aload_n 0, 1) := by decide +kernel
theorem dX7_upper_19 : decode cX7_upper 19 = .ok (.invokevirtual 345, 3) := by decide +kernel
theorem dX7_upper_22 : decode cX7_upper 22 = .ok (.idiv, 1) := by decide +kernel
theorem dX7_upper_23 : decode cX7_upper 23 = .ok (.i2l, 1) := by decide +kernel
theorem dX7_upper_24 : decode cX7_upper 24 = .ok (.lreturn, 1) := by decide +kernel
theorem dX7_lower_0 : decode cX7_lower 0 = .ok (.aload_n 0, 1) := by decide +kernel
theorem dX7_lower_1 : decode cX7_lower 1 = .ok (.getfield 77, 3) := by decide +kernel
theorem dX7_lower_4 : decode cX7_lower 4 = .ok (.getfield 154, 3) := by decide +kernel
theorem dX7_lower_7 : decode cX7_lower 7 = .ok (.ifCond .ne 7, 3) := by decide +kernel
theorem dX7_lower_10 : decode cX7_lower 10 = .ok (.lconst 1, 1) := by decide +kernel
theorem dX7_lower_11 : decode cX7_lower 11 = .ok (.goto 18, 3) := by decide +kernel
theorem dX7_lower_14 : decode cX7_lower 14 = .ok (.iconst 4, 1) := by decide +kernel
theorem dX7_lower_15 : decode cX7_lower 15 = .ok (.aload_n 0, 1) := by decide +kernel
theorem dX7_lower_16 : decode cX7_lower 16 = .ok (.getfield 77, 3) := by decide +kernel
theorem dX7_lower_19 : decode cX7_lower 19 = .ok (.getfield 154, 3) := by decide +kernel
theorem dX7_lower_22 : decode cX7_lower 22 = .ok (.imul, 1) := by decide +kernel
theorem dX7_lower_23 : decode cX7_lower 23 = .ok (.aload_n 0, 1) := by decide +kernel
theorem dX7_lower_24 : decode cX7_lower 24 = .ok (.invokevirtual 345, 3) := by decide +kernel
theorem dX7_lower_27 : decode cX7_lower 27 = .ok (.idiv, 1) := by decide +kernel
theorem dX7_lower_28 : decode cX7_lower 28 = .ok (.i2l, 1) := by decide +kernel
theorem dX7_lower_29 : decode cX7_lower 29 = .ok (.lreturn, 1) := by decide +kernel
theorem dX7_count_0 : decode cX7_count 0 = .ok (.iload_n 1, 1) := by decide +kernel
theorem dX7_count_1 : decode cX7_count 1 = .ok (.tableswitch 129 0 9 #[55, 63, 71, 79, 87, 98, 103, 111, 119, 124], 55) := by decide +kernel
theorem dX7_count_56 : decode cX7_count 56 = .ok (.aload_n 0, 1) := by decide +kernel
theorem dX7_count_57 : decode cX7_count 57 = .ok (.getfield 77, 3) := by decide +kernel
theorem dX7_count_60 : decode cX7_count 60 = .ok (.getfield 154, 3) := by decide +kernel
theorem dX7_count_63 : decode cX7_count 63 = .ok (.ireturn, 1) := by decide +kernel
theorem dX7_count_64 : decode cX7_count 64 = .ok (.aload_n 0, 1) := by decide +kernel
theorem dX7_count_65 : decode cX7_count 65 = .ok (.getfield 77, 3) := by decide +kernel
theorem dX7_count_68 : decode cX7_count 68 = .ok (.getfield 190, 3) := by decide +kernel
theorem dX7_count_71 : decode cX7_count 71 = .ok (.ireturn, 1) := by decide +kernel
theorem dX7_count_72 : decode cX7_count 72 = .ok (.aload_n 0, 1) := by decide +kernel
theorem dX7_count_73 : decode cX7_count 73 = .ok (.getfield 31, 3) := by decide +kernel
theorem dX7_count_76 : decode cX7_count 76 = .ok (.getfield 206, 3) := by decide +kernel
theorem dX7_count_79 : decode cX7_count 79 = .ok (.ireturn, 1) := by decide +kernel
theorem dX7_count_80 : decode cX7_count 80 = .ok (.aload_n 0, 1) := by decide +kernel
theorem dX7_count_81 : decode cX7_count 81 = .ok (.getfield 77, 3) := by decide +kernel
theorem dX7_count_84 : decode cX7_count 84 = .ok (.getfield 348, 3) := by decide +kernel
theorem dX7_count_87 : decode cX7_count 87 = .ok (.ireturn, 1) := by decide +kernel
theorem dX7_count_88 : decode cX7_count 88 = .ok (.aload_n 0, 1) := by decide +kernel
theorem dX7_count_89 : decode cX7_count 89 = .ok (.getfield 31, 3) := by decide +kernel
theorem dX7_count_92 : decode cX7_count 92 = .ok (.getfield 196, 3) := by decide +kernel
theorem dX7_count_95 : decode cX7_count 95 = .ok (.invokestatic 179, 3) := by decide +kernel
theorem dX7_count_98 : decode cX7_count 98 = .ok (.ireturn, 1) := by decide +kernel
theorem dX7_count_99 : decode cX7_count 99 = .ok (.aload_n 0, 1) := by decide +kernel
theorem dX7_count_100 : decode cX7_count 100 = .ok (.invokevirtual 351, 3) := by decide +kernel
theorem dX7_count_103 : decode cX7_count 103 = .ok (.ireturn, 1) := by decide +kernel
theorem dX7_count_104 : decode cX7_count 104 = .ok (.aload_n 0, 1) := by decide +kernel
theorem dX7_count_105 : decode cX7_count 105 = .ok (.getfield 14, 3) := by decide +kernel
theorem dX7_count_108 : decode cX7_count 108 = .ok (.invokevirtual 354, 3) := by decide +kernel
theorem dX7_count_111 : decode cX7_count 111 = .ok (.ireturn, 1) := by decide +kernel
theorem dX7_count_112 : decode cX7_count 112 = .ok (.aload_n 0, 1) := by decide +kernel
theorem dX7_count_113 : decode cX7_count 113 = .ok (.getfield 18, 3) := by decide +kernel
theorem dX7_count_116 : decode cX7_count 116 = .ok (.invokevirtual 354, 3) := by decide +kernel
theorem dX7_count_119 : decode cX7_count 119 = .ok (.ireturn, 1) := by decide +kernel
theorem dX7_count_120 : decode cX7_count 120 = .ok (.aload_n 0, 1) := by decide +kernel
theorem dX7_count_121 : decode cX7_count 121 = .ok (.getfield 151, 3) := by decide +kernel
theorem dX7_count_124 : decode cX7_count 124 = .ok (.ireturn, 1) := by decide +kernel
theorem dX7_count_125 : decode cX7_count 125 = .ok (.aload_n 0, 1) := by decide +kernel
theorem dX7_count_126 : decode cX7_count 126 = .ok (.invokevirtual 357, 3) := by decide +kernel
theorem dX7_count_129 : decode cX7_count 129 = .ok (.ireturn, 1) := by decide +kernel
theorem dX7_count_130 : decode cX7_count 130 = .ok (.iconst (-1), 1) := by decide +kernel
theorem dX7_count_131 : decode cX7_count 131 = .ok (.ireturn, 1) := by decide +kernel
theorem dX7_finding_0 : decode cX7_finding 0 = .ok (.aload_n 0, 1) := by decide +kernel
theorem dX7_finding_1 : decode cX7_finding 1 = .ok (.getfield 360, 3) := by decide +kernel
theorem dX7_finding_4 : decode cX7_finding 4 = .ok (.ireturn, 1) := by decide +kernel
theorem dX7_findings_0 : decode cX7_findings 0 = .ok (.iload_n 1, 1) := by decide +kernel
theorem dX7_findings_1 : decode cX7_findings 1 = .ok (.iconst 1, 1) := by decide +kernel
theorem dX7_findings_2 : decode cX7_findings 2 = .ok (.if_icmp .lt 8, 3) := by decide +kernel
theorem dX7_findings_5 : decode cX7_findings 5 = .ok (.iload_n 1, 1) := by decide +kernel
theorem dX7_findings_6 : decode cX7_findings 6 = .ok (.iconst 5, 1) := by decide +kernel
theorem dX7_findings_7 : decode cX7_findings 7 = .ok (.if_icmp .le 7, 3) := by decide +kernel
theorem dX7_findings_10 : decode cX7_findings 10 = .ok (.iconst (-1), 1) := by decide +kernel
theorem dX7_findings_11 : decode cX7_findings 11 = .ok (.goto 9, 3) := by decide +kernel
theorem dX7_findings_14 : decode cX7_findings 14 = .ok (.aload_n 0, 1) := by decide +kernel
theorem dX7_findings_15 : decode cX7_findings 15 = .ok (.getfield 71, 3) := by decide +kernel
theorem dX7_findings_18 : decode cX7_findings 18 = .ok (.iload_n 1, 1) := by decide +kernel
theorem dX7_findings_19 : decode cX7_findings 19 = .ok (.iaload, 1) := by decide +kernel
theorem dX7_findings_20 : decode cX7_findings 20 = .ok (.ireturn, 1) := by decide +kernel
theorem dX7_digest_0 : decode cX7_digest 0 = .ok (.ldc2_w 363, 3) := by decide +kernel
theorem dX7_digest_3 : decode cX7_digest 3 = .ok (.lstore_n 1, 1) := by decide +kernel
theorem dX7_digest_4 : decode cX7_digest 4 = .ok (.iconst 0, 1) := by decide +kernel
theorem dX7_digest_5 : decode cX7_digest 5 = .ok (.istore_n 3, 1) := by decide +kernel
theorem dX7_digest_6 : decode cX7_digest 6 = .ok (.iload_n 3, 1) := by decide +kernel
theorem dX7_digest_7 : decode cX7_digest 7 = .ok (.bipush 10, 2) := by decide +kernel
theorem dX7_digest_9 : decode cX7_digest 9 = .ok (.if_icmp .ge 22, 3) := by decide +kernel
theorem dX7_digest_12 : decode cX7_digest 12 = .ok (.ldc2_w 365, 3) := by decide +kernel
theorem dX7_digest_15 : decode cX7_digest 15 = .ok (.lload_n 1, 1) := by decide +kernel
theorem dX7_digest_16 : decode cX7_digest 16 = .ok (.lmul, 1) := by decide +kernel
theorem dX7_digest_17 : decode cX7_digest 17 = .ok (.aload_n 0, 1) := by decide +kernel
theorem dX7_digest_18 : decode cX7_digest 18 = .ok (.iload_n 3, 1) := by decide +kernel
theorem dX7_digest_19 : decode cX7_digest 19 = .ok (.invokevirtual 367, 3) := by decide +kernel
theorem dX7_digest_22 : decode cX7_digest 22 = .ok (.i2l, 1) := by decide +kernel
theorem dX7_digest_23 : decode cX7_digest 23 = .ok (.ladd, 1) := by decide +kernel
theorem dX7_digest_24 : decode cX7_digest 24 = .ok (.lstore_n 1, 1) := by decide +kernel
theorem dX7_digest_25 : decode cX7_digest 25 = .ok (.iinc 3 1, 3) := by decide +kernel
theorem dX7_digest_28 : decode cX7_digest 28 = .ok (.goto (-22), 3) := by decide +kernel
theorem dX7_digest_31 : decode cX7_digest 31 = .ok (.ldc2_w 365, 3) := by decide +kernel
theorem dX7_digest_34 : decode cX7_digest 34 = .ok (.lload_n 1, 1) := by decide +kernel
theorem dX7_digest_35 : decode cX7_digest 35 = .ok (.lmul, 1) := by decide +kernel
theorem dX7_digest_36 : decode cX7_digest 36 = .ok (.aload_n 0, 1) := by decide +kernel
theorem dX7_digest_37 : decode cX7_digest 37 = .ok (.getfield 31, 3) := by decide +kernel
theorem dX7_digest_40 : decode cX7_digest 40 = .ok (.getfield 193, 3) := by decide +kernel
theorem dX7_digest_43 : decode cX7_digest 43 = .ok (.i2l, 1) := by decide +kernel
theorem dX7_digest_44 : decode cX7_digest 44 = .ok (.ladd, 1) := by decide +kernel
theorem dX7_digest_45 : decode cX7_digest 45 = .ok (.lstore_n 1, 1) := by decide +kernel
theorem dX7_digest_46 : decode cX7_digest 46 = .ok (.iconst 0, 1) := by decide +kernel
theorem dX7_digest_47 : decode cX7_digest 47 = .ok (.istore_n 3, 1) := by decide +kernel
theorem dX7_digest_48 : decode cX7_digest 48 = .ok (.iload_n 3, 1) := by decide +kernel
theorem dX7_digest_49 : decode cX7_digest 49 = .ok (.aload_n 0, 1) := by decide +kernel
theorem dX7_digest_50 : decode cX7_digest 50 = .ok (.getfield 77, 3) := by decide +kernel
theorem dX7_digest_53 : decode cX7_digest 53 = .ok (.getfield 190, 3) := by decide +kernel
theorem dX7_digest_56 : decode cX7_digest 56 = .ok (.if_icmp .ge 33, 3) := by decide +kernel
theorem dX7_digest_59 : decode cX7_digest 59 = .ok (.ldc2_w 365, 3) := by decide +kernel
theorem dX7_digest_62 : decode cX7_digest 62 = .ok (.lload_n 1, 1) := by decide +kernel
theorem dX7_digest_63 : decode cX7_digest 63 = .ok (.lmul, 1) := by decide +kernel
theorem dX7_digest_64 : decode cX7_digest 64 = .ok (.aload_n 0, 1) := by decide +kernel
theorem dX7_digest_65 : decode cX7_digest 65 = .ok (.getfield 77, 3) := by decide +kernel
theorem dX7_digest_68 : decode cX7_digest 68 = .ok (.iload_n 3, 1) := by decide +kernel
theorem dX7_digest_69 : decode cX7_digest 69 = .ok (.invokevirtual 370, 3) := by decide +kernel
theorem dX7_digest_72 : decode cX7_digest 72 = .ok (.ifCond .eq 7, 3) := by decide +kernel
theorem dX7_digest_75 : decode cX7_digest 75 = .ok (.iconst 1, 1) := by decide +kernel
theorem dX7_digest_76 : decode cX7_digest 76 = .ok (.goto 4, 3) := by decide +kernel
theorem dX7_digest_79 : decode cX7_digest 79 = .ok (.iconst 0, 1) := by decide +kernel
theorem dX7_digest_80 : decode cX7_digest 80 = .ok (.i2l, 1) := by decide +kernel
theorem dX7_digest_81 : decode cX7_digest 81 = .ok (.ladd, 1) := by decide +kernel
theorem dX7_digest_82 : decode cX7_digest 82 = .ok (.lstore_n 1, 1) := by decide +kernel
theorem dX7_digest_83 : decode cX7_digest 83 = .ok (.iinc 3 1, 3) := by decide +kernel
theorem dX7_digest_86 : decode cX7_digest 86 = .ok (.goto (-38), 3) := by decide +kernel
theorem dX7_digest_89 : decode cX7_digest 89 = .ok (.iconst 0, 1) := by decide +kernel
theorem dX7_digest_90 : decode cX7_digest 90 = .ok (.istore_n 3, 1) := by decide +kernel
theorem dX7_digest_91 : decode cX7_digest 91 = .ok (.iload_n 3, 1) := by decide +kernel
theorem dX7_digest_92 : decode cX7_digest 92 = .ok (.iconst 4, 1) := by decide +kernel
theorem dX7_digest_93 : decode cX7_digest 93 = .ok (.aload_n 0, 1) := by decide +kernel
theorem dX7_digest_94 : decode cX7_digest 94 = .ok (.getfield 77, 3) := by decide +kernel
theorem dX7_digest_97 : decode cX7_digest 97 = .ok (.getfield 154, 3) := by decide +kernel
theorem dX7_digest_100 : decode cX7_digest 100 = .ok (.imul, 1) := by decide +kernel
theorem dX7_digest_101 : decode cX7_digest 101 = .ok (.if_icmp .ge 27, 3) := by decide +kernel
theorem dX7_digest_104 : decode cX7_digest 104 = .ok (.ldc2_w 365, 3) := by decide +kernel
theorem dX7_digest_107 : decode cX7_digest 107 = .ok (.lload_n 1, 1) := by decide +kernel
theorem dX7_digest_108 : decode cX7_digest 108 = .ok (.lmul, 1) := by decide +kernel
theorem dX7_digest_109 : decode cX7_digest 109 = .ok (.aload_n 0, 1) := by decide +kernel
theorem dX7_digest_110 : decode cX7_digest 110 = .ok (.iload_n 3, 1) := by decide +kernel
theorem dX7_digest_111 : decode cX7_digest 111 = .ok (.iconst 4, 1) := by decide +kernel
theorem dX7_digest_112 : decode cX7_digest 112 = .ok (.idiv, 1) := by decide +kernel
theorem dX7_digest_113 : decode cX7_digest 113 = .ok (.iload_n 3, 1) := by decide +kernel
theorem dX7_digest_114 : decode cX7_digest 114 = .ok (.iconst 4, 1) := by decide +kernel
theorem dX7_digest_115 : decode cX7_digest 115 = .ok (.irem, 1) := by decide +kernel
theorem dX7_digest_116 : decode cX7_digest 116 = .ok (.invokevirtual 160, 3) := by decide +kernel
theorem dX7_digest_119 : decode cX7_digest 119 = .ok (.i2l, 1) := by decide +kernel
theorem dX7_digest_120 : decode cX7_digest 120 = .ok (.ladd, 1) := by decide +kernel
theorem dX7_digest_121 : decode cX7_digest 121 = .ok (.lstore_n 1, 1) := by decide +kernel
theorem dX7_digest_122 : decode cX7_digest 122 = .ok (.iinc 3 1, 3) := by decide +kernel
theorem dX7_digest_125 : decode cX7_digest 125 = .ok (.goto (-34), 3) := by decide +kernel
theorem dX7_digest_128 : decode cX7_digest 128 = .ok (.iconst 0, 1) := by decide +kernel
theorem dX7_digest_129 : decode cX7_digest 129 = .ok (.istore_n 3, 1) := by decide +kernel
theorem dX7_digest_130 : decode cX7_digest 130 = .ok (.iload_n 3, 1) := by decide +kernel
theorem dX7_digest_131 : decode cX7_digest 131 = .ok (.iconst 4, 1) := by decide +kernel
theorem dX7_digest_132 : decode cX7_digest 132 = .ok (.aload_n 0, 1) := by decide +kernel
theorem dX7_digest_133 : decode cX7_digest 133 = .ok (.getfield 77, 3) := by decide +kernel
theorem dX7_digest_136 : decode cX7_digest 136 = .ok (.getfield 348, 3) := by decide +kernel
theorem dX7_digest_139 : decode cX7_digest 139 = .ok (.imul, 1) := by decide +kernel
theorem dX7_digest_140 : decode cX7_digest 140 = .ok (.if_icmp .ge 27, 3) := by decide +kernel
theorem dX7_digest_143 : decode cX7_digest 143 = .ok (.ldc2_w 365, 3) := by decide +kernel
theorem dX7_digest_146 : decode cX7_digest 146 = .ok (.lload_n 1, 1) := by decide +kernel
theorem dX7_digest_147 : decode cX7_digest 147 = .ok (.lmul, 1) := by decide +kernel
theorem dX7_digest_148 : decode cX7_digest 148 = .ok (.aload_n 0, 1) := by decide +kernel
theorem dX7_digest_149 : decode cX7_digest 149 = .ok (.iload_n 3, 1) := by decide +kernel
theorem dX7_digest_150 : decode cX7_digest 150 = .ok (.iconst 4, 1) := by decide +kernel
theorem dX7_digest_151 : decode cX7_digest 151 = .ok (.idiv, 1) := by decide +kernel
theorem dX7_digest_152 : decode cX7_digest 152 = .ok (.iload_n 3, 1) := by decide +kernel
theorem dX7_digest_153 : decode cX7_digest 153 = .ok (.iconst 4, 1) := by decide +kernel
theorem dX7_digest_154 : decode cX7_digest 154 = .ok (.irem, 1) := by decide +kernel
theorem dX7_digest_155 : decode cX7_digest 155 = .ok (.invokevirtual 166, 3) := by decide +kernel
theorem dX7_digest_158 : decode cX7_digest 158 = .ok (.i2l, 1) := by decide +kernel
theorem dX7_digest_159 : decode cX7_digest 159 = .ok (.ladd, 1) := by decide +kernel
theorem dX7_digest_160 : decode cX7_digest 160 = .ok (.lstore_n 1, 1) := by decide +kernel
theorem dX7_digest_161 : decode cX7_digest 161 = .ok (.iinc 3 1, 3) := by decide +kernel
theorem dX7_digest_164 : decode cX7_digest 164 = .ok (.goto (-34), 3) := by decide +kernel
theorem dX7_digest_167 : decode cX7_digest 167 = .ok (.iconst 0, 1) := by decide +kernel
theorem dX7_digest_168 : decode cX7_digest 168 = .ok (.istore_n 3, 1) := by decide +kernel
theorem dX7_digest_169 : decode cX7_digest 169 = .ok (.iload_n 3, 1) := by decide +kernel
theorem dX7_digest_170 : decode cX7_digest 170 = .ok (.aload_n 0, 1) := by decide +kernel
theorem dX7_digest_171 : decode cX7_digest 171 = .ok (.getfield 151, 3) := by decide +kernel
theorem dX7_digest_174 : decode cX7_digest 174 = .ok (.if_icmp .ge 35, 3) := by decide +kernel
theorem dX7_digest_177 : decode cX7_digest 177 = .ok (.ldc2_w 365, 3) := by decide +kernel
theorem dX7_digest_180 : decode cX7_digest 180 = .ok (.ldc2_w 365, 3) := by decide +kernel
theorem dX7_digest_183 : decode cX7_digest 183 = .ok (.lload_n 1, 1) := by decide +kernel
theorem dX7_digest_184 : decode cX7_digest 184 = .ok (.lmul, 1) := by decide +kernel
theorem dX7_digest_185 : decode cX7_digest 185 = .ok (.aload_n 0, 1) := by decide +kernel
theorem dX7_digest_186 : decode cX7_digest 186 = .ok (.getfield 64, 3) := by decide +kernel
theorem dX7_digest_189 : decode cX7_digest 189 = .ok (.iload_n 3, 1) := by decide +kernel
theorem dX7_digest_190 : decode cX7_digest 190 = .ok (.iaload, 1) := by decide +kernel
theorem dX7_digest_191 : decode cX7_digest 191 = .ok (.i2l, 1) := by decide +kernel
theorem dX7_digest_192 : decode cX7_digest 192 = .ok (.ladd, 1) := by decide +kernel
theorem dX7_digest_193 : decode cX7_digest 193 = .ok (.lmul, 1) := by decide +kernel
theorem dX7_digest_194 : decode cX7_digest 194 = .ok (.aload_n 0, 1) := by decide +kernel
theorem dX7_digest_195 : decode cX7_digest 195 = .ok (.getfield 68, 3) := by decide +kernel
theorem dX7_digest_198 : decode cX7_digest 198 = .ok (.iload_n 3, 1) := by decide +kernel
theorem dX7_digest_199 : decode cX7_digest 199 = .ok (.iaload, 1) := by decide +kernel
theorem dX7_digest_200 : decode cX7_digest 200 = .ok (.i2l, 1) := by decide +kernel
theorem dX7_digest_201 : decode cX7_digest 201 = .ok (.ladd, 1) := by decide +kernel
theorem dX7_digest_202 : decode cX7_digest 202 = .ok (.lstore_n 1, 1) := by decide +kernel
theorem dX7_digest_203 : decode cX7_digest 203 = .ok (.iinc 3 1, 3) := by decide +kernel
theorem dX7_digest_206 : decode cX7_digest 206 = .ok (.goto (-37), 3) := by decide +kernel
theorem dX7_digest_209 : decode cX7_digest 209 = .ok (.iconst 0, 1) := by decide +kernel
theorem dX7_digest_210 : decode cX7_digest 210 = .ok (.istore_n 3, 1) := by decide +kernel
theorem dX7_digest_211 : decode cX7_digest 211 = .ok (.iload_n 3, 1) := by decide +kernel
theorem dX7_digest_212 : decode cX7_digest 212 = .ok (.aload_n 0, 1) := by decide +kernel
theorem dX7_digest_213 : decode cX7_digest 213 = .ok (.getfield 31, 3) := by decide +kernel
theorem dX7_digest_216 : decode cX7_digest 216 = .ok (.getfield 206, 3) := by decide +kernel
theorem dX7_digest_219 : decode cX7_digest 219 = .ok (.if_icmp .ge 26, 3) := by decide +kernel
theorem dX7_digest_222 : decode cX7_digest 222 = .ok (.ldc2_w 365, 3) := by decide +kernel
theorem dX7_digest_225 : decode cX7_digest 225 = .ok (.lload_n 1, 1) := by decide +kernel
theorem dX7_digest_226 : decode cX7_digest 226 = .ok (.lmul, 1) := by decide +kernel
theorem dX7_digest_227 : decode cX7_digest 227 = .ok (.aload_n 0, 1) := by decide +kernel
theorem dX7_digest_228 : decode cX7_digest 228 = .ok (.getfield 31, 3) := by decide +kernel
theorem dX7_digest_231 : decode cX7_digest 231 = .ok (.getfield 373, 3) := by decide +kernel
theorem dX7_digest_234 : decode cX7_digest 234 = .ok (.iload_n 3, 1) := by decide +kernel
theorem dX7_digest_235 : decode cX7_digest 235 = .ok (.iaload, 1) := by decide +kernel
theorem dX7_digest_236 : decode cX7_digest 236 = .ok (.i2l, 1) := by decide +kernel
theorem dX7_digest_237 : decode cX7_digest 237 = .ok (.ladd, 1) := by decide +kernel
theorem dX7_digest_238 : decode cX7_digest 238 = .ok (.lstore_n 1, 1) := by decide +kernel
theorem dX7_digest_239 : decode cX7_digest 239 = .ok (.iinc 3 1, 3) := by decide +kernel
theorem dX7_digest_242 : decode cX7_digest 242 = .ok (.goto (-31), 3) := by decide +kernel
theorem dX7_digest_245 : decode cX7_digest 245 = .ok (.iconst 0, 1) := by decide +kernel
theorem dX7_digest_246 : decode cX7_digest 246 = .ok (.istore_n 3, 1) := by decide +kernel
theorem dX7_digest_247 : decode cX7_digest 247 = .ok (.iload_n 3, 1) := by decide +kernel
theorem dX7_digest_248 : decode cX7_digest 248 = .ok (.iconst 3, 1) := by decide +kernel
theorem dX7_digest_249 : decode cX7_digest 249 = .ok (.if_icmp .ge 42, 3) := by decide +kernel
theorem dX7_digest_252 : decode cX7_digest 252 = .ok (.ldc2_w 365, 3) := by decide +kernel
theorem dX7_digest_255 : decode cX7_digest 255 = .ok (.lload_n 1, 1) := by decide +kernel
theorem dX7_digest_256 : decode cX7_digest 256 = .ok (.lmul, 1) := by decide +kernel
theorem dX7_digest_257 : decode cX7_digest 257 = .ok (.aload_n 0, 1) := by decide +kernel
theorem dX7_digest_258 : decode cX7_digest 258 = .ok (.getfield 35, 3) := by decide +kernel
theorem dX7_digest_261 : decode cX7_digest 261 = .ok (.iload_n 3, 1) := by decide +kernel
theorem dX7_digest_262 : decode cX7_digest 262 = .ok (.aaload, 1) := by decide +kernel
theorem dX7_digest_263 : decode cX7_digest 263 = .ok (.getfield 147, 3) := by decide +kernel
theorem dX7_digest_266 : decode cX7_digest 266 = .ok (.ifCond .eq 15, 3) := by decide +kernel
theorem dX7_digest_269 : decode cX7_digest 269 = .ok (.aload_n 0, 1) := by decide +kernel
theorem dX7_digest_270 : decode cX7_digest 270 = .ok (.getfield 35, 3) := by decide +kernel
theorem dX7_digest_273 : decode cX7_digest 273 = .ok (.iload_n 3, 1) := by decide +kernel
theorem dX7_digest_274 : decode cX7_digest 274 = .ok (.aaload, 1) := by decide +kernel
theorem dX7_digest_275 : decode cX7_digest 275 = .ok (.getfield 206, 3) := by decide +kernel
theorem dX7_digest_278 : decode cX7_digest 278 = .ok (.goto 4, 3) := by decide +kernel
theorem dX7_digest_281 : decode cX7_digest 281 = .ok (.iconst (-1), 1) := by decide +kernel
theorem dX7_digest_282 : decode cX7_digest 282 = .ok (.i2l, 1) := by decide +kernel
theorem dX7_digest_283 : decode cX7_digest 283 = .ok (.ladd, 1) := by decide +kernel
theorem dX7_digest_284 : decode cX7_digest 284 = .ok (.lstore_n 1, 1) := by decide +kernel
theorem dX7_digest_285 : decode cX7_digest 285 = .ok (.iinc 3 1, 3) := by decide +kernel
theorem dX7_digest_288 : decode cX7_digest 288 = .ok (.goto (-41), 3) := by decide +kernel
theorem dX7_digest_291 : decode cX7_digest 291 = .ok (.aload_n 0, 1) := by decide +kernel
theorem dX7_digest_292 : decode cX7_digest 292 = .ok (.getfield 18, 3) := by decide +kernel
theorem dX7_digest_295 : decode cX7_digest 295 = .ok (.aload_n 0, 1) := by decide +kernel
theorem dX7_digest_296 : decode cX7_digest 296 = .ok (.getfield 14, 3) := by decide +kernel
theorem dX7_digest_299 : decode cX7_digest 299 = .ok (.lload_n 1, 1) := by decide +kernel
theorem dX7_digest_300 : decode cX7_digest 300 = .ok (.invokevirtual 376, 3) := by decide +kernel
theorem dX7_digest_303 : decode cX7_digest 303 = .ok (.invokevirtual 376, 3) := by decide +kernel
theorem dX7_digest_306 : decode cX7_digest 306 = .ok (.lreturn, 1) := by decide +kernel
theorem dX7_isMan_0 : decode cX7_isMan 0 = .ok (.iload_n 1, 1) := by decide +kernel
theorem dX7_isMan_1 : decode cX7_isMan 1 = .ok (.ifCond .lt 18, 3) := by decide +kernel
theorem dX7_isMan_4 : decode cX7_isMan 4 = .ok (.iload_n 1, 1) := by decide +kernel
theorem dX7_isMan_5 : decode cX7_isMan 5 = .ok (.aload_n 0, 1) := by decide +kernel
theorem dX7_isMan_6 : decode cX7_isMan 6 = .ok (.getfield 77, 3) := by decide +kernel
theorem dX7_isMan_9 : decode cX7_isMan 9 = .ok (.getfield 154, 3) := by decide +kernel
theorem dX7_isMan_12 : decode cX7_isMan 12 = .ok (.if_icmp .ge 7, 3) := by decide +kernel
theorem dX7_isMan_15 : decode cX7_isMan 15 = .ok (.iconst 1, 1) := by decide +kernel
theorem dX7_isMan_16 : decode cX7_isMan 16 = .ok (.goto 4, 3) := by decide +kernel
theorem dX7_isMan_19 : decode cX7_isMan 19 = .ok (.iconst 0, 1) := by decide +kernel
theorem dX7_isMan_20 : decode cX7_isMan 20 = .ok (.ireturn, 1) := by decide +kernel
theorem dX7_isChain_0 : decode cX7_isChain 0 = .ok (.iload_n 1, 1) := by decide +kernel
theorem dX7_isChain_1 : decode cX7_isChain 1 = .ok (.ifCond .lt 18, 3) := by decide +kernel
theorem dX7_isChain_4 : decode cX7_isChain 4 = .ok (.iload_n 1, 1) := by decide +kernel
theorem dX7_isChain_5 : decode cX7_isChain 5 = .ok (.aload_n 0, 1) := by decide +kernel
theorem dX7_isChain_6 : decode cX7_isChain 6 = .ok (.getfield 77, 3) := by decide +kernel
theorem dX7_isChain_9 : decode cX7_isChain 9 = .ok (.getfield 348, 3) := by decide +kernel
theorem dX7_isChain_12 : decode cX7_isChain 12 = .ok (.if_icmp .ge 7, 3) := by decide +kernel
theorem dX7_isChain_15 : decode cX7_isChain 15 = .ok (.iconst 1, 1) := by decide +kernel
theorem dX7_isChain_16 : decode cX7_isChain 16 = .ok (.goto 4, 3) := by decide +kernel
theorem dX7_isChain_19 : decode cX7_isChain 19 = .ok (.iconst 0, 1) := by decide +kernel
theorem dX7_isChain_20 : decode cX7_isChain 20 = .ok (.ireturn, 1) := by decide +kernel
theorem dX7_isCell_0 : decode cX7_isCell 0 = .ok (.iload_n 1, 1) := by decide +kernel
theorem dX7_isCell_1 : decode cX7_isCell 1 = .ok (.ifCond .lt 18, 3) := by decide +kernel
theorem dX7_isCell_4 : decode cX7_isCell 4 = .ok (.iload_n 1, 1) := by decide +kernel
theorem dX7_isCell_5 : decode cX7_isCell 5 = .ok (.aload_n 0, 1) := by decide +kernel
theorem dX7_isCell_6 : decode cX7_isCell 6 = .ok (.getfield 77, 3) := by decide +kernel
theorem dX7_isCell_9 : decode cX7_isCell 9 = .ok (.getfield 190, 3) := by decide +kernel
theorem dX7_isCell_12 : decode cX7_isCell 12 = .ok (.if_icmp .ge 7, 3) := by decide +kernel
theorem dX7_isCell_15 : decode cX7_isCell 15 = .ok (.iconst 1, 1) := by decide +kernel
theorem dX7_isCell_16 : decode cX7_isCell 16 = .ok (.goto 4, 3) := by decide +kernel
theorem dX7_isCell_19 : decode cX7_isCell 19 = .ok (.iconst 0, 1) := by decide +kernel
theorem dX7_isCell_20 : decode cX7_isCell 20 = .ok (.ireturn, 1) := by decide +kernel
theorem dX7_isStep_0 : decode cX7_isStep 0 = .ok (.iload_n 1, 1) := by decide +kernel
theorem dX7_isStep_1 : decode cX7_isStep 1 = .ok (.ifCond .lt 26, 3) := by decide +kernel
theorem dX7_isStep_4 : decode cX7_isStep 4 = .ok (.aload_n 0, 1) := by decide +kernel
theorem dX7_isStep_5 : decode cX7_isStep 5 = .ok (.iload_n 1, 1) := by decide +kernel
theorem dX7_isStep_6 : decode cX7_isStep 6 = .ok (.bipush 10, 2) := by decide +kernel
theorem dX7_isStep_8 : decode cX7_isStep 8 = .ok (.idiv, 1) := by decide +kernel
theorem dX7_isStep_9 : decode cX7_isStep 9 = .ok (.invokevirtual 157, 3) := by decide +kernel
theorem dX7_isStep_12 : decode cX7_isStep 12 = .ok (.ifCond .eq 15, 3) := by decide +kernel
theorem dX7_isStep_15 : decode cX7_isStep 15 = .ok (.iload_n 1, 1) := by decide +kernel
theorem dX7_isStep_16 : decode cX7_isStep 16 = .ok (.bipush 10, 2) := by decide +kernel
theorem dX7_isStep_18 : decode cX7_isStep 18 = .ok (.irem, 1) := by decide +kernel
theorem dX7_isStep_19 : decode cX7_isStep 19 = .ok (.iconst 4, 1) := by decide +kernel
theorem dX7_isStep_20 : decode cX7_isStep 20 = .ok (.if_icmp .ge 7, 3) := by decide +kernel
theorem dX7_isStep_23 : decode cX7_isStep 23 = .ok (.iconst 1, 1) := by decide +kernel
theorem dX7_isStep_24 : decode cX7_isStep 24 = .ok (.goto 4, 3) := by decide +kernel
theorem dX7_isStep_27 : decode cX7_isStep 27 = .ok (.iconst 0, 1) := by decide +kernel
theorem dX7_isStep_28 : decode cX7_isStep 28 = .ok (.ireturn, 1) := by decide +kernel
theorem dX7_found_0 : decode cX7_found 0 = .ok (.aload_n 0, 1) := by decide +kernel
theorem dX7_found_1 : decode cX7_found 1 = .ok (.iload_n 1, 1) := by decide +kernel
theorem dX7_found_2 : decode cX7_found 2 = .ok (.putfield 360, 3) := by decide +kernel
theorem dX7_found_5 : decode cX7_found 5 = .ok (.aload_n 0, 1) := by decide +kernel
theorem dX7_found_6 : decode cX7_found 6 = .ok (.getfield 71, 3) := by decide +kernel
theorem dX7_found_9 : decode cX7_found 9 = .ok (.iload_n 1, 1) := by decide +kernel
theorem dX7_found_10 : decode cX7_found 10 = .ok (.dup2, 1) := by decide +kernel
theorem dX7_found_11 : decode cX7_found 11 = .ok (.iaload, 1) := by decide +kernel
theorem dX7_found_12 : decode cX7_found 12 = .ok (.iconst 1, 1) := by decide +kernel
theorem dX7_found_13 : decode cX7_found 13 = .ok (.iadd, 1) := by decide +kernel
theorem dX7_found_14 : decode cX7_found 14 = .ok (.iastore, 1) := by decide +kernel
theorem dX7_found_15 : decode cX7_found 15 = .ok (.bipush (-3), 2) := by decide +kernel
theorem dX7_found_17 : decode cX7_found 17 = .ok (.ireturn, 1) := by decide +kernel
theorem dX7_made_0 : decode cX7_made 0 = .ok (.aload_n 1, 1) := by decide +kernel
theorem dX7_made_1 : decode cX7_made 1 = .ok (.iload_n 2, 1) := by decide +kernel
theorem dX7_made_2 : decode cX7_made 2 = .ok (.invokevirtual 114, 3) := by decide +kernel
theorem dX7_made_5 : decode cX7_made 5 = .ok (.ifCond .eq 9, 3) := by decide +kernel
theorem dX7_made_8 : decode cX7_made 8 = .ok (.iload_n 3, 1) := by decide +kernel
theorem dX7_made_9 : decode cX7_made 9 = .ok (.bipush 40, 2) := by decide +kernel
theorem dX7_made_11 : decode cX7_made 11 = .ok (.if_icmp .le 5, 3) := by decide +kernel
theorem dX7_made_14 : decode cX7_made 14 = .ok (.iconst (-1), 1) := by decide +kernel
theorem dX7_made_15 : decode cX7_made 15 = .ok (.ireturn, 1) := by decide +kernel
theorem dX7_made_16 : decode cX7_made 16 = .ok (.iload_n 3, 1) := by decide +kernel
theorem dX7_made_17 : decode cX7_made 17 = .ok (.ifCond .ge 9, 3) := by decide +kernel
theorem dX7_made_20 : decode cX7_made 20 = .ok (.aload_n 0, 1) := by decide +kernel
theorem dX7_made_21 : decode cX7_made 21 = .ok (.iconst 5, 1) := by decide +kernel
theorem dX7_made_22 : decode cX7_made 22 = .ok (.invokevirtual 118, 3) := by decide +kernel
theorem dX7_made_25 : decode cX7_made 25 = .ok (.ireturn, 1) := by decide +kernel
theorem dX7_made_26 : decode cX7_made 26 = .ok (.aload_n 1, 1) := by decide +kernel
theorem dX7_made_27 : decode cX7_made 27 = .ok (.iload_n 2, 1) := by decide +kernel
theorem dX7_made_28 : decode cX7_made 28 = .ok (.iload_n 3, 1) := by decide +kernel
theorem dX7_made_29 : decode cX7_made 29 = .ok (.iload 4, 2) := by decide +kernel
theorem dX7_made_31 : decode cX7_made 31 = .ok (.invokevirtual 242, 3) := by decide +kernel
theorem dX7_made_34 : decode cX7_made 34 = .ok (.iload_n 3, 1) := by decide +kernel
theorem dX7_made_35 : decode cX7_made 35 = .ok (.ireturn, 1) := by decide +kernel
theorem dX7_refusedMissing_0 : decode cX7_refusedMissing 0 = .ok (.aload_n 1, 1) := by decide +kernel
theorem dX7_refusedMissing_1 : decode cX7_refusedMissing 1 = .ok (.iload_n 2, 1) := by decide +kernel
theorem dX7_refusedMissing_2 : decode cX7_refusedMissing 2 = .ok (.invokevirtual 114, 3) := by decide +kernel
theorem dX7_refusedMissing_5 : decode cX7_refusedMissing 5 = .ok (.ifCond .ne 5, 3) := by decide +kernel
theorem dX7_refusedMissing_8 : decode cX7_refusedMissing 8 = .ok (.iconst (-1), 1) := by decide +kernel
theorem dX7_refusedMissing_9 : decode cX7_refusedMissing 9 = .ok (.ireturn, 1) := by decide +kernel
theorem dX7_refusedMissing_10 : decode cX7_refusedMissing 10 = .ok (.aload_n 1, 1) := by decide +kernel
theorem dX7_refusedMissing_11 : decode cX7_refusedMissing 11 = .ok (.iload_n 2, 1) := by decide +kernel
theorem dX7_refusedMissing_12 : decode cX7_refusedMissing 12 = .ok (.invokevirtual 122, 3) := by decide +kernel
theorem dX7_refusedMissing_15 : decode cX7_refusedMissing 15 = .ok (.ifCond .eq 7, 3) := by decide +kernel
theorem dX7_refusedMissing_18 : decode cX7_refusedMissing 18 = .ok (.iconst 0, 1) := by decide +kernel
theorem dX7_refusedMissing_19 : decode cX7_refusedMissing 19 = .ok (.goto 8, 3) := by decide +kernel
theorem dX7_refusedMissing_22 : decode cX7_refusedMissing 22 = .ok (.aload_n 0, 1) := by decide +kernel
theorem dX7_refusedMissing_23 : decode cX7_refusedMissing 23 = .ok (.iconst 1, 1) := by decide +kernel
theorem dX7_refusedMissing_24 : decode cX7_refusedMissing 24 = .ok (.invokevirtual 118, 3) := by decide +kernel
theorem dX7_refusedMissing_27 : decode cX7_refusedMissing 27 = .ok (.ireturn, 1) := by decide +kernel
theorem dX7_refusedPlace_0 : decode cX7_refusedPlace 0 = .ok (.aload_n 0, 1) := by decide +kernel
theorem dX7_refusedPlace_1 : decode cX7_refusedPlace 1 = .ok (.aload_n 1, 1) := by decide +kernel
theorem dX7_refusedPlace_2 : decode cX7_refusedPlace 2 = .ok (.iload_n 2, 1) := by decide +kernel
theorem dX7_refusedPlace_3 : decode cX7_refusedPlace 3 = .ok (.invokevirtual 107, 3) := by decide +kernel
theorem dX7_refusedPlace_6 : decode cX7_refusedPlace 6 = .ok (.istore 4, 2) := by decide +kernel
theorem dX7_refusedPlace_8 : decode cX7_refusedPlace 8 = .ok (.iload 4, 2) := by decide +kernel
theorem dX7_refusedPlace_10 : decode cX7_refusedPlace 10 = .ok (.ifCond .eq 6, 3) := by decide +kernel
theorem dX7_refusedPlace_13 : decode cX7_refusedPlace 13 = .ok (.iload 4, 2) := by decide +kernel
theorem dX7_refusedPlace_15 : decode cX7_refusedPlace 15 = .ok (.ireturn, 1) := by decide +kernel
theorem dX7_refusedPlace_16 : decode cX7_refusedPlace 16 = .ok (.aload_n 1, 1) := by decide +kernel
theorem dX7_refusedPlace_17 : decode cX7_refusedPlace 17 = .ok (.iload_n 2, 1) := by decide +kernel
theorem dX7_refusedPlace_18 : decode cX7_refusedPlace 18 = .ok (.iload_n 3, 1) := by decide +kernel
theorem dX7_refusedPlace_19 : decode cX7_refusedPlace 19 = .ok (.iconst 1, 1) := by decide +kernel
theorem dX7_refusedPlace_20 : decode cX7_refusedPlace 20 = .ok (.invokevirtual 125, 3) := by decide +kernel
theorem dX7_refusedPlace_23 : decode cX7_refusedPlace 23 = .ok (.ifCond .eq 7, 3) := by decide +kernel
theorem dX7_refusedPlace_26 : decode cX7_refusedPlace 26 = .ok (.iconst 0, 1) := by decide +kernel
theorem dX7_refusedPlace_27 : decode cX7_refusedPlace 27 = .ok (.goto 8, 3) := by decide +kernel
theorem dX7_refusedPlace_30 : decode cX7_refusedPlace 30 = .ok (.aload_n 0, 1) := by decide +kernel
theorem dX7_refusedPlace_31 : decode cX7_refusedPlace 31 = .ok (.iconst 2, 1) := by decide +kernel
theorem dX7_refusedPlace_32 : decode cX7_refusedPlace 32 = .ok (.invokevirtual 118, 3) := by decide +kernel
theorem dX7_refusedPlace_35 : decode cX7_refusedPlace 35 = .ok (.ireturn, 1) := by decide +kernel
theorem dX7_refusedWithMen_0 : decode cX7_refusedWithMen 0 = .ok (.aload_n 0, 1) := by decide +kernel
theorem dX7_refusedWithMen_1 : decode cX7_refusedWithMen 1 = .ok (.getfield 14, 3) := by decide +kernel
theorem dX7_refusedWithMen_4 : decode cX7_refusedWithMen 4 = .ok (.iload_n 1, 1) := by decide +kernel
theorem dX7_refusedWithMen_5 : decode cX7_refusedWithMen 5 = .ok (.invokevirtual 114, 3) := by decide +kernel
theorem dX7_refusedWithMen_8 : decode cX7_refusedWithMen 8 = .ok (.ifCond .eq 14, 3) := by decide +kernel
theorem dX7_refusedWithMen_11 : decode cX7_refusedWithMen 11 = .ok (.aload_n 0, 1) := by decide +kernel
theorem dX7_refusedWithMen_12 : decode cX7_refusedWithMen 12 = .ok (.getfield 14, 3) := by decide +kernel
theorem dX7_refusedWithMen_15 : decode cX7_refusedWithMen 15 = .ok (.iload_n 2, 1) := by decide +kernel
theorem dX7_refusedWithMen_16 : decode cX7_refusedWithMen 16 = .ok (.invokevirtual 114, 3) := by decide +kernel
theorem dX7_refusedWithMen_19 : decode cX7_refusedWithMen 19 = .ok (.ifCond .ne 5, 3) := by decide +kernel
theorem dX7_refusedWithMen_22 : decode cX7_refusedWithMen 22 = .ok (.iconst (-1), 1) := by decide +kernel
theorem dX7_refusedWithMen_23 : decode cX7_refusedWithMen 23 = .ok (.ireturn, 1) := by decide +kernel
theorem dX7_refusedWithMen_24 : decode cX7_refusedWithMen 24 = .ok (.aload_n 0, 1) := by decide +kernel
theorem dX7_refusedWithMen_25 : decode cX7_refusedWithMen 25 = .ok (.getfield 77, 3) := by decide +kernel
theorem dX7_refusedWithMen_28 : decode cX7_refusedWithMen 28 = .ok (.getfield 154, 3) := by decide +kernel
theorem dX7_refusedWithMen_31 : decode cX7_refusedWithMen 31 = .ok (.ifCond .ne 6, 3) := by decide +kernel
theorem dX7_refusedWithMen_34 : decode cX7_refusedWithMen 34 = .ok (.bipush (-4), 2) := by decide +kernel
theorem dX7_refusedWithMen_36 : decode cX7_refusedWithMen 36 = .ok (.ireturn, 1) := by decide +kernel
theorem dX7_refusedWithMen_37 : decode cX7_refusedWithMen 37 = .ok (.aload_n 0, 1) := by decide +kernel
theorem dX7_refusedWithMen_38 : decode cX7_refusedWithMen 38 = .ok (.getfield 14, 3) := by decide +kernel
theorem dX7_refusedWithMen_41 : decode cX7_refusedWithMen 41 = .ok (.iload_n 1, 1) := by decide +kernel
theorem dX7_refusedWithMen_42 : decode cX7_refusedWithMen 42 = .ok (.invokevirtual 122, 3) := by decide +kernel
theorem dX7_refusedWithMen_45 : decode cX7_refusedWithMen 45 = .ok (.ifCond .eq 7, 3) := by decide +kernel
theorem dX7_refusedWithMen_48 : decode cX7_refusedWithMen 48 = .ok (.iconst 0, 1) := by decide +kernel
theorem dX7_refusedWithMen_49 : decode cX7_refusedWithMen 49 = .ok (.goto 8, 3) := by decide +kernel
theorem dX7_refusedWithMen_52 : decode cX7_refusedWithMen 52 = .ok (.aload_n 0, 1) := by decide +kernel
theorem dX7_refusedWithMen_53 : decode cX7_refusedWithMen 53 = .ok (.iconst 1, 1) := by decide +kernel
theorem dX7_refusedWithMen_54 : decode cX7_refusedWithMen 54 = .ok (.invokevirtual 118, 3) := by decide +kernel
theorem dX7_refusedWithMen_57 : decode cX7_refusedWithMen 57 = .ok (.ireturn, 1) := by decide +kernel
theorem dX7_refusedAim_0 : decode cX7_refusedAim 0 = .ok (.aload_n 0, 1) := by decide +kernel
theorem dX7_refusedAim_1 : decode cX7_refusedAim 1 = .ok (.iload_n 1, 1) := by decide +kernel
theorem dX7_refusedAim_2 : decode cX7_refusedAim 2 = .ok (.iload_n 2, 1) := by decide +kernel
theorem dX7_refusedAim_3 : decode cX7_refusedAim 3 = .ok (.invokevirtual 306, 3) := by decide +kernel
theorem dX7_refusedAim_6 : decode cX7_refusedAim 6 = .ok (.istore_n 3, 1) := by decide +kernel
theorem dX7_refusedAim_7 : decode cX7_refusedAim 7 = .ok (.iload_n 3, 1) := by decide +kernel
theorem dX7_refusedAim_8 : decode cX7_refusedAim 8 = .ok (.ifCond .eq 5, 3) := by decide +kernel
theorem dX7_refusedAim_11 : decode cX7_refusedAim 11 = .ok (.iload_n 3, 1) := by decide +kernel
theorem dX7_refusedAim_12 : decode cX7_refusedAim 12 = .ok (.ireturn, 1) := by decide +kernel
theorem dX7_refusedAim_13 : decode cX7_refusedAim 13 = .ok (.aload_n 0, 1) := by decide +kernel
theorem dX7_refusedAim_14 : decode cX7_refusedAim 14 = .ok (.getfield 14, 3) := by decide +kernel
theorem dX7_refusedAim_17 : decode cX7_refusedAim 17 = .ok (.iload_n 1, 1) := by decide +kernel
theorem dX7_refusedAim_18 : decode cX7_refusedAim 18 = .ok (.invokevirtual 133, 3) := by decide +kernel
theorem dX7_refusedAim_21 : decode cX7_refusedAim 21 = .ok (.aload_n 0, 1) := by decide +kernel
theorem dX7_refusedAim_22 : decode cX7_refusedAim 22 = .ok (.getfield 77, 3) := by decide +kernel
theorem dX7_refusedAim_25 : decode cX7_refusedAim 25 = .ok (.getfield 154, 3) := by decide +kernel
theorem dX7_refusedAim_28 : decode cX7_refusedAim 28 = .ok (.if_icmp .eq 9, 3) := by decide +kernel
theorem dX7_refusedAim_31 : decode cX7_refusedAim 31 = .ok (.aload_n 0, 1) := by decide +kernel
theorem dX7_refusedAim_32 : decode cX7_refusedAim 32 = .ok (.iconst 5, 1) := by decide +kernel
theorem dX7_refusedAim_33 : decode cX7_refusedAim 33 = .ok (.invokevirtual 118, 3) := by decide +kernel
theorem dX7_refusedAim_36 : decode cX7_refusedAim 36 = .ok (.ireturn, 1) := by decide +kernel
theorem dX7_refusedAim_37 : decode cX7_refusedAim 37 = .ok (.iconst 0, 1) := by decide +kernel
theorem dX7_refusedAim_38 : decode cX7_refusedAim 38 = .ok (.istore 4, 2) := by decide +kernel
theorem dX7_refusedAim_40 : decode cX7_refusedAim 40 = .ok (.iload 4, 2) := by decide +kernel
theorem dX7_refusedAim_42 : decode cX7_refusedAim 42 = .ok (.aload_n 0, 1) := by decide +kernel
theorem dX7_refusedAim_43 : decode cX7_refusedAim 43 = .ok (.getfield 77, 3) := by decide +kernel
theorem dX7_refusedAim_46 : decode cX7_refusedAim 46 = .ok (.getfield 154, 3) := by decide +kernel
theorem dX7_refusedAim_49 : decode cX7_refusedAim 49 = .ok (.if_icmp .ge 47, 3) := by decide +kernel
theorem dX7_refusedAim_52 : decode cX7_refusedAim 52 = .ok (.aload_n 0, 1) := by decide +kernel
theorem dX7_refusedAim_53 : decode cX7_refusedAim 53 = .ok (.getfield 14, 3) := by decide +kernel
theorem dX7_refusedAim_56 : decode cX7_refusedAim 56 = .ok (.iload_n 1, 1) := by decide +kernel
theorem dX7_refusedAim_57 : decode cX7_refusedAim 57 = .ok (.iload 4, 2) := by decide +kernel
theorem dX7_refusedAim_59 : decode cX7_refusedAim 59 = .ok (.invokevirtual 95, 3) := by decide +kernel
theorem dX7_refusedAim_62 : decode cX7_refusedAim 62 = .ok (.bipush (-9), 2) := by decide +kernel
theorem dX7_refusedAim_64 : decode cX7_refusedAim 64 = .ok (.if_icmp .eq 26, 3) := by decide +kernel
theorem dX7_refusedAim_67 : decode cX7_refusedAim 67 = .ok (.aload_n 0, 1) := by decide +kernel
theorem dX7_refusedAim_68 : decode cX7_refusedAim 68 = .ok (.aload_n 0, 1) := by decide +kernel
theorem dX7_refusedAim_69 : decode cX7_refusedAim 69 = .ok (.getfield 14, 3) := by decide +kernel
theorem dX7_refusedAim_72 : decode cX7_refusedAim 72 = .ok (.iload_n 1, 1) := by decide +kernel
theorem dX7_refusedAim_73 : decode cX7_refusedAim 73 = .ok (.iload 4, 2) := by decide +kernel
theorem dX7_refusedAim_75 : decode cX7_refusedAim 75 = .ok (.invokevirtual 95, 3) := by decide +kernel
theorem dX7_refusedAim_78 : decode cX7_refusedAim 78 = .ok (.invokevirtual 222, 3) := by decide +kernel
theorem dX7_refusedAim_81 : decode cX7_refusedAim 81 = .ok (.ifCond .ne 9, 3) := by decide +kernel
theorem dX7_refusedAim_84 : decode cX7_refusedAim 84 = .ok (.aload_n 0, 1) := by decide +kernel
theorem dX7_refusedAim_85 : decode cX7_refusedAim 85 = .ok (.iconst 3, 1) := by decide +kernel
theorem dX7_refusedAim_86 : decode cX7_refusedAim 86 = .ok (.invokevirtual 118, 3) := by decide +kernel
theorem dX7_refusedAim_89 : decode cX7_refusedAim 89 = .ok (.ireturn, 1) := by decide +kernel
theorem dX7_refusedAim_90 : decode cX7_refusedAim 90 = .ok (.iinc 4 1, 3) := by decide +kernel
theorem dX7_refusedAim_93 : decode cX7_refusedAim 93 = .ok (.goto (-53), 3) := by decide +kernel
theorem dX7_refusedAim_96 : decode cX7_refusedAim 96 = .ok (.iconst 0, 1) := by decide +kernel
theorem dX7_refusedAim_97 : decode cX7_refusedAim 97 = .ok (.ireturn, 1) := by decide +kernel
theorem dX7_refusedWants_0 : decode cX7_refusedWants 0 = .ok (.aload_n 0, 1) := by decide +kernel
theorem dX7_refusedWants_1 : decode cX7_refusedWants 1 = .ok (.iload_n 1, 1) := by decide +kernel
theorem dX7_refusedWants_2 : decode cX7_refusedWants 2 = .ok (.iload_n 2, 1) := by decide +kernel
theorem dX7_refusedWants_3 : decode cX7_refusedWants 3 = .ok (.invokevirtual 306, 3) := by decide +kernel
theorem dX7_refusedWants_6 : decode cX7_refusedWants 6 = .ok (.istore_n 3, 1) := by decide +kernel
theorem dX7_refusedWants_7 : decode cX7_refusedWants 7 = .ok (.iload_n 3, 1) := by decide +kernel
theorem dX7_refusedWants_8 : decode cX7_refusedWants 8 = .ok (.ifCond .eq 5, 3) := by decide +kernel
theorem dX7_refusedWants_11 : decode cX7_refusedWants 11 = .ok (.iload_n 3, 1) := by decide +kernel
theorem dX7_refusedWants_12 : decode cX7_refusedWants 12 = .ok (.ireturn, 1) := by decide +kernel
theorem dX7_refusedWants_13 : decode cX7_refusedWants 13 = .ok (.aload_n 0, 1) := by decide +kernel
theorem dX7_refusedWants_14 : decode cX7_refusedWants 14 = .ok (.getfield 14, 3) := by decide +kernel
theorem dX7_refusedWants_17 : decode cX7_refusedWants 17 = .ok (.iload_n 1, 1) := by decide +kernel
theorem dX7_refusedWants_18 : decode cX7_refusedWants 18 = .ok (.invokevirtual 133, 3) := by decide +kernel
theorem dX7_refusedWants_21 : decode cX7_refusedWants 21 = .ok (.iconst 5, 1) := by decide +kernel
theorem dX7_refusedWants_22 : decode cX7_refusedWants 22 = .ok (.if_icmp .le 9, 3) := by decide +kernel
theorem dX7_refusedWants_25 : decode cX7_refusedWants 25 = .ok (.aload_n 0, 1) := by decide +kernel
theorem dX7_refusedWants_26 : decode cX7_refusedWants 26 = .ok (.iconst 5, 1) := by decide +kernel
theorem dX7_refusedWants_27 : decode cX7_refusedWants 27 = .ok (.invokevirtual 118, 3) := by decide +kernel
theorem dX7_refusedWants_30 : decode cX7_refusedWants 30 = .ok (.ireturn, 1) := by decide +kernel
theorem dX7_refusedWants_31 : decode cX7_refusedWants 31 = .ok (.iconst 0, 1) := by decide +kernel
theorem dX7_refusedWants_32 : decode cX7_refusedWants 32 = .ok (.istore 4, 2) := by decide +kernel
theorem dX7_refusedWants_34 : decode cX7_refusedWants 34 = .ok (.iload 4, 2) := by decide +kernel
theorem dX7_refusedWants_36 : decode cX7_refusedWants 36 = .ok (.aload_n 0, 1) := by decide +kernel
theorem dX7_refusedWants_37 : decode cX7_refusedWants 37 = .ok (.getfield 14, 3) := by decide +kernel
theorem dX7_refusedWants_40 : decode cX7_refusedWants 40 = .ok (.iload_n 1, 1) := by decide +kernel
theorem dX7_refusedWants_41 : decode cX7_refusedWants 41 = .ok (.invokevirtual 133, 3) := by decide +kernel
theorem dX7_refusedWants_44 : decode cX7_refusedWants 44 = .ok (.if_icmp .ge 56, 3) := by decide +kernel
theorem dX7_refusedWants_47 : decode cX7_refusedWants 47 = .ok (.aload_n 0, 1) := by decide +kernel
theorem dX7_refusedWants_48 : decode cX7_refusedWants 48 = .ok (.getfield 14, 3) := by decide +kernel
theorem dX7_refusedWants_51 : decode cX7_refusedWants 51 = .ok (.iload_n 1, 1) := by decide +kernel
theorem dX7_refusedWants_52 : decode cX7_refusedWants 52 = .ok (.iload 4, 2) := by decide +kernel
theorem dX7_refusedWants_54 : decode cX7_refusedWants 54 = .ok (.invokevirtual 95, 3) := by decide +kernel
theorem dX7_refusedWants_57 : decode cX7_refusedWants 57 = .ok (.istore 5, 2) := by decide +kernel
theorem dX7_refusedWants_59 : decode cX7_refusedWants 59 = .ok (.iload 5, 2) := by decide +kernel
theorem dX7_refusedWants_61 : decode cX7_refusedWants 61 = .ok (.ifCond .lt 27, 3) := by decide +kernel
theorem dX7_refusedWants_64 : decode cX7_refusedWants 64 = .ok (.aload_n 0, 1) := by decide +kernel
theorem dX7_refusedWants_65 : decode cX7_refusedWants 65 = .ok (.iload 5, 2) := by decide +kernel
theorem dX7_refusedWants_67 : decode cX7_refusedWants 67 = .ok (.bipush 100, 2) := by decide +kernel
theorem dX7_refusedWants_69 : decode cX7_refusedWants 69 = .ok (.idiv, 1) := by decide +kernel
theorem dX7_refusedWants_70 : decode cX7_refusedWants 70 = .ok (.invokevirtual 157, 3) := by decide +kernel
theorem dX7_refusedWants_73 : decode cX7_refusedWants 73 = .ok (.ifCond .eq 15, 3) := by decide +kernel
theorem dX7_refusedWants_76 : decode cX7_refusedWants 76 = .ok (.aload_n 0, 1) := by decide +kernel
theorem dX7_refusedWants_77 : decode cX7_refusedWants 77 = .ok (.iload 5, 2) := by decide +kernel
theorem dX7_refusedWants_79 : decode cX7_refusedWants 79 = .ok (.bipush 100, 2) := by decide +kernel
theorem dX7_refusedWants_81 : decode cX7_refusedWants 81 = .ok (.irem, 1) := by decide +kernel
theorem dX7_refusedWants_82 : decode cX7_refusedWants 82 = .ok (.invokevirtual 222, 3) := by decide +kernel
theorem dX7_refusedWants_85 : decode cX7_refusedWants 85 = .ok (.ifCond .ne 9, 3) := by decide +kernel
theorem dX7_refusedWants_88 : decode cX7_refusedWants 88 = .ok (.aload_n 0, 1) := by decide +kernel
theorem dX7_refusedWants_89 : decode cX7_refusedWants 89 = .ok (.iconst 3, 1) := by decide +kernel
theorem dX7_refusedWants_90 : decode cX7_refusedWants 90 = .ok (.invokevirtual 118, 3) := by decide +kernel
theorem dX7_refusedWants_93 : decode cX7_refusedWants 93 = .ok (.ireturn, 1) := by decide +kernel
theorem dX7_refusedWants_94 : decode cX7_refusedWants 94 = .ok (.iinc 4 1, 3) := by decide +kernel
theorem dX7_refusedWants_97 : decode cX7_refusedWants 97 = .ok (.goto (-63), 3) := by decide +kernel
theorem dX7_refusedWants_100 : decode cX7_refusedWants 100 = .ok (.iconst 0, 1) := by decide +kernel
theorem dX7_refusedWants_101 : decode cX7_refusedWants 101 = .ok (.ireturn, 1) := by decide +kernel
theorem dX7_refusedKeys_0 : decode cX7_refusedKeys 0 = .ok (.aload_n 0, 1) := by decide +kernel
theorem dX7_refusedKeys_1 : decode cX7_refusedKeys 1 = .ok (.getfield 14, 3) := by decide +kernel
theorem dX7_refusedKeys_4 : decode cX7_refusedKeys 4 = .ok (.iload_n 1, 1) := by decide +kernel
theorem dX7_refusedKeys_5 : decode cX7_refusedKeys 5 = .ok (.invokevirtual 122, 3) := by decide +kernel
theorem dX7_refusedKeys_8 : decode cX7_refusedKeys 8 = .ok (.ifCond .ne 9, 3) := by decide +kernel
theorem dX7_refusedKeys_11 : decode cX7_refusedKeys 11 = .ok (.aload_n 0, 1) := by decide +kernel
theorem dX7_refusedKeys_12 : decode cX7_refusedKeys 12 = .ok (.iconst 1, 1) := by decide +kernel
theorem dX7_refusedKeys_13 : decode cX7_refusedKeys 13 = .ok (.invokevirtual 118, 3) := by decide +kernel
theorem dX7_refusedKeys_16 : decode cX7_refusedKeys 16 = .ok (.ireturn, 1) := by decide +kernel
theorem dX7_refusedKeys_17 : decode cX7_refusedKeys 17 = .ok (.aload_n 0, 1) := by decide +kernel
theorem dX7_refusedKeys_18 : decode cX7_refusedKeys 18 = .ok (.getfield 14, 3) := by decide +kernel
theorem dX7_refusedKeys_21 : decode cX7_refusedKeys 21 = .ok (.iload_n 1, 1) := by decide +kernel
theorem dX7_refusedKeys_22 : decode cX7_refusedKeys 22 = .ok (.invokevirtual 133, 3) := by decide +kernel
theorem dX7_refusedKeys_25 : decode cX7_refusedKeys 25 = .ok (.bipush 8, 2) := by decide +kernel
theorem dX7_refusedKeys_27 : decode cX7_refusedKeys 27 = .ok (.if_icmp .le 9, 3) := by decide +kernel
theorem dX7_refusedKeys_30 : decode cX7_refusedKeys 30 = .ok (.aload_n 0, 1) := by decide +kernel
theorem dX7_refusedKeys_31 : decode cX7_refusedKeys 31 = .ok (.iconst 5, 1) := by decide +kernel
theorem dX7_refusedKeys_32 : decode cX7_refusedKeys 32 = .ok (.invokevirtual 118, 3) := by decide +kernel
theorem dX7_refusedKeys_35 : decode cX7_refusedKeys 35 = .ok (.ireturn, 1) := by decide +kernel
theorem dX7_refusedKeys_36 : decode cX7_refusedKeys 36 = .ok (.iconst 0, 1) := by decide +kernel
theorem dX7_refusedKeys_37 : decode cX7_refusedKeys 37 = .ok (.istore_n 2, 1) := by decide +kernel
theorem dX7_refusedKeys_38 : decode cX7_refusedKeys 38 = .ok (.iload_n 2, 1) := by decide +kernel
theorem dX7_refusedKeys_39 : decode cX7_refusedKeys 39 = .ok (.aload_n 0, 1) := by decide +kernel
theorem dX7_refusedKeys_40 : decode cX7_refusedKeys 40 = .ok (.getfield 14, 3) := by decide +kernel
theorem dX7_refusedKeys_43 : decode cX7_refusedKeys 43 = .ok (.iload_n 1, 1) := by decide +kernel
theorem dX7_refusedKeys_44 : decode cX7_refusedKeys 44 = .ok (.invokevirtual 133, 3) := by decide +kernel
theorem dX7_refusedKeys_47 : decode cX7_refusedKeys 47 = .ok (.if_icmp .ge 42, 3) := by decide +kernel
theorem dX7_refusedKeys_50 : decode cX7_refusedKeys 50 = .ok (.aload_n 0, 1) := by decide +kernel
theorem dX7_refusedKeys_51 : decode cX7_refusedKeys 51 = .ok (.getfield 14, 3) := by decide +kernel
theorem dX7_refusedKeys_54 : decode cX7_refusedKeys 54 = .ok (.iload_n 1, 1) := by decide +kernel
theorem dX7_refusedKeys_55 : decode cX7_refusedKeys 55 = .ok (.iload_n 2, 1) := by decide +kernel
theorem dX7_refusedKeys_56 : decode cX7_refusedKeys 56 = .ok (.invokevirtual 95, 3) := by decide +kernel
theorem dX7_refusedKeys_59 : decode cX7_refusedKeys 59 = .ok (.istore_n 3, 1) := by decide +kernel
theorem dX7_refusedKeys_60 : decode cX7_refusedKeys 60 = .ok (.iload_n 3, 1) := by decide +kernel
theorem dX7_refusedKeys_61 : decode cX7_refusedKeys 61 = .ok (.ifCond .lt 16, 3) := by decide +kernel
theorem dX7_refusedKeys_64 : decode cX7_refusedKeys 64 = .ok (.iload_n 3, 1) := by decide +kernel
theorem dX7_refusedKeys_65 : decode cX7_refusedKeys 65 = .ok (.iconst 1, 1) := by decide +kernel
theorem dX7_refusedKeys_66 : decode cX7_refusedKeys 66 = .ok (.aload_n 0, 1) := by decide +kernel
theorem dX7_refusedKeys_67 : decode cX7_refusedKeys 67 = .ok (.getfield 77, 3) := by decide +kernel
theorem dX7_refusedKeys_70 : decode cX7_refusedKeys 70 = .ok (.getfield 348, 3) := by decide +kernel
theorem dX7_refusedKeys_73 : decode cX7_refusedKeys 73 = .ok (.ishl, 1) := by decide +kernel
theorem dX7_refusedKeys_74 : decode cX7_refusedKeys 74 = .ok (.if_icmp .lt 9, 3) := by decide +kernel
theorem dX7_refusedKeys_77 : decode cX7_refusedKeys 77 = .ok (.aload_n 0, 1) := by decide +kernel
theorem dX7_refusedKeys_78 : decode cX7_refusedKeys 78 = .ok (.iconst 3, 1) := by decide +kernel
theorem dX7_refusedKeys_79 : decode cX7_refusedKeys 79 = .ok (.invokevirtual 118, 3) := by decide +kernel
theorem dX7_refusedKeys_82 : decode cX7_refusedKeys 82 = .ok (.ireturn, 1) := by decide +kernel
theorem dX7_refusedKeys_83 : decode cX7_refusedKeys 83 = .ok (.iinc 2 1, 3) := by decide +kernel
theorem dX7_refusedKeys_86 : decode cX7_refusedKeys 86 = .ok (.goto (-48), 3) := by decide +kernel
theorem dX7_refusedKeys_89 : decode cX7_refusedKeys 89 = .ok (.iconst 0, 1) := by decide +kernel
theorem dX7_refusedKeys_90 : decode cX7_refusedKeys 90 = .ok (.ireturn, 1) := by decide +kernel
theorem dX7_cellOf_0 : decode cX7_cellOf 0 = .ok (.iload_n 1, 1) := by decide +kernel
theorem dX7_cellOf_1 : decode cX7_cellOf 1 = .ok (.ifCond .lt 8, 3) := by decide +kernel
theorem dX7_cellOf_4 : decode cX7_cellOf 4 = .ok (.iload_n 1, 1) := by decide +kernel
theorem dX7_cellOf_5 : decode cX7_cellOf 5 = .ok (.iconst 4, 1) := by decide +kernel
theorem dX7_cellOf_6 : decode cX7_cellOf 6 = .ok (.if_icmp .lt 8, 3) := by decide +kernel
theorem dX7_cellOf_9 : decode cX7_cellOf 9 = .ok (.bipush (-9), 2) := by decide +kernel
theorem dX7_cellOf_11 : decode cX7_cellOf 11 = .ok (.goto 13, 3) := by decide +kernel
theorem dX7_cellOf_14 : decode cX7_cellOf 14 = .ok (.iload_n 0, 1) := by decide +kernel
theorem dX7_cellOf_15 : decode cX7_cellOf 15 = .ok (.getstatic 380, 3) := by decide +kernel
theorem dX7_cellOf_18 : decode cX7_cellOf 18 = .ok (.iload_n 1, 1) := by decide +kernel
theorem dX7_cellOf_19 : decode cX7_cellOf 19 = .ok (.iaload, 1) := by decide +kernel
theorem dX7_cellOf_20 : decode cX7_cellOf 20 = .ok (.idiv, 1) := by decide +kernel
theorem dX7_cellOf_21 : decode cX7_cellOf 21 = .ok (.bipush 12, 2) := by decide +kernel
theorem dX7_cellOf_23 : decode cX7_cellOf 23 = .ok (.irem, 1) := by decide +kernel
theorem dX7_cellOf_24 : decode cX7_cellOf 24 = .ok (.ireturn, 1) := by decide +kernel
theorem dX7_stepOf_0 : decode cX7_stepOf 0 = .ok (.bipush 10, 2) := by decide +kernel
theorem dX7_stepOf_2 : decode cX7_stepOf 2 = .ok (.iload_n 0, 1) := by decide +kernel
theorem dX7_stepOf_3 : decode cX7_stepOf 3 = .ok (.imul, 1) := by decide +kernel
theorem dX7_stepOf_4 : decode cX7_stepOf 4 = .ok (.iload_n 1, 1) := by decide +kernel
theorem dX7_stepOf_5 : decode cX7_stepOf 5 = .ok (.iadd, 1) := by decide +kernel
theorem dX7_stepOf_6 : decode cX7_stepOf 6 = .ok (.ireturn, 1) := by decide +kernel
theorem dX7_changeRules_0 : decode cX7_changeRules 0 = .ok (.aload_n 0, 1) := by decide +kernel
theorem dX7_changeRules_1 : decode cX7_changeRules 1 = .ok (.getfield 42, 3) := by decide +kernel
theorem dX7_changeRules_4 : decode cX7_changeRules 4 = .ok (.aload_n 0, 1) := by decide +kernel
theorem dX7_changeRules_5 : decode cX7_changeRules 5 = .ok (.getfield 77, 3) := by decide +kernel
theorem dX7_changeRules_8 : decode cX7_changeRules 8 = .ok (.aload_n 0, 1) := by decide +kernel
theorem dX7_changeRules_9 : decode cX7_changeRules 9 = .ok (.getfield 31, 3) := by decide +kernel
theorem dX7_changeRules_12 : decode cX7_changeRules 12 = .ok (.getfield 193, 3) := by decide +kernel
theorem dX7_changeRules_15 : decode cX7_changeRules 15 = .ok (.aload_n 0, 1) := by decide +kernel
theorem dX7_changeRules_16 : decode cX7_changeRules 16 = .ok (.getfield 31, 3) := by decide +kernel
theorem dX7_changeRules_19 : decode cX7_changeRules 19 = .ok (.getfield 196, 3) := by decide +kernel
theorem dX7_changeRules_22 : decode cX7_changeRules 22 = .ok (.invokevirtual 383, 3) := by decide +kernel
theorem dX7_changeRules_25 : decode cX7_changeRules 25 = .ok (.aload_n 0, 1) := by decide +kernel
theorem dX7_changeRules_26 : decode cX7_changeRules 26 = .ok (.getfield 51, 3) := by decide +kernel
theorem dX7_changeRules_29 : decode cX7_changeRules 29 = .ok (.invokevirtual 387, 3) := by decide +kernel
theorem dX7_changeRules_32 : decode cX7_changeRules 32 = .ok (.return_, 1) := by decide +kernel
theorem dX7_apart_0 : decode cX7_apart 0 = .ok (.aload_n 0, 1) := by decide +kernel
theorem dX7_apart_1 : decode cX7_apart 1 = .ok (.getfield 77, 3) := by decide +kernel
theorem dX7_apart_4 : decode cX7_apart 4 = .ok (.iload_n 1, 1) := by decide +kernel
theorem dX7_apart_5 : decode cX7_apart 5 = .ok (.iload_n 2, 1) := by decide +kernel
theorem dX7_apart_6 : decode cX7_apart 6 = .ok (.invokestatic 216, 3) := by decide +kernel
theorem dX7_apart_9 : decode cX7_apart 9 = .ok (.iload_n 1, 1) := by decide +kernel
theorem dX7_apart_10 : decode cX7_apart 10 = .ok (.iload_n 3, 1) := by decide +kernel
theorem dX7_apart_11 : decode cX7_apart 11 = .ok (.invokestatic 216, 3) := by decide +kernel
theorem dX7_apart_14 : decode cX7_apart 14 = .ok (.invokevirtual 390, 3) := by decide +kernel
theorem dX7_apart_17 : decode cX7_apart 17 = .ok (.ireturn, 1) := by decide +kernel
theorem dX7_ofMan_0 : decode cX7_ofMan 0 = .ok (.iload_n 2, 1) := by decide +kernel
theorem dX7_ofMan_1 : decode cX7_ofMan 1 = .ok (.tableswitch 66 0 2 #[27, 37, 49], 27) := by decide +kernel
theorem dX7_ofMan_28 : decode cX7_ofMan 28 = .ok (.aload_n 0, 1) := by decide +kernel
theorem dX7_ofMan_29 : decode cX7_ofMan 29 = .ok (.getfield 77, 3) := by decide +kernel
theorem dX7_ofMan_32 : decode cX7_ofMan 32 = .ok (.getfield 393, 3) := by decide +kernel
theorem dX7_ofMan_35 : decode cX7_ofMan 35 = .ok (.iload_n 1, 1) := by decide +kernel
theorem dX7_ofMan_36 : decode cX7_ofMan 36 = .ok (.iaload, 1) := by decide +kernel
theorem dX7_ofMan_37 : decode cX7_ofMan 37 = .ok (.ireturn, 1) := by decide +kernel
theorem dX7_ofMan_38 : decode cX7_ofMan 38 = .ok (.aload_n 0, 1) := by decide +kernel
theorem dX7_ofMan_39 : decode cX7_ofMan 39 = .ok (.getfield 31, 3) := by decide +kernel
theorem dX7_ofMan_42 : decode cX7_ofMan 42 = .ok (.getfield 199, 3) := by decide +kernel
theorem dX7_ofMan_45 : decode cX7_ofMan 45 = .ok (.iload_n 1, 1) := by decide +kernel
theorem dX7_ofMan_46 : decode cX7_ofMan 46 = .ok (.invokestatic 216, 3) := by decide +kernel
theorem dX7_ofMan_49 : decode cX7_ofMan 49 = .ok (.ireturn, 1) := by decide +kernel
theorem dX7_ofMan_50 : decode cX7_ofMan 50 = .ok (.aload_n 0, 1) := by decide +kernel
theorem dX7_ofMan_51 : decode cX7_ofMan 51 = .ok (.invokevirtual 297, 3) := by decide +kernel
theorem dX7_ofMan_54 : decode cX7_ofMan 54 = .ok (.aload_n 0, 1) := by decide +kernel
theorem dX7_ofMan_55 : decode cX7_ofMan 55 = .ok (.getfield 77, 3) := by decide +kernel
theorem dX7_ofMan_58 : decode cX7_ofMan 58 = .ok (.iload_n 1, 1) := by decide +kernel
theorem dX7_ofMan_59 : decode cX7_ofMan 59 = .ok (.invokevirtual 303, 3) := by decide +kernel
theorem dX7_ofMan_62 : decode cX7_ofMan 62 = .ok (.iand, 1) := by decide +kernel
theorem dX7_ofMan_63 : decode cX7_ofMan 63 = .ok (.invokestatic 179, 3) := by decide +kernel
theorem dX7_ofMan_66 : decode cX7_ofMan 66 = .ok (.ireturn, 1) := by decide +kernel
theorem dX7_ofMan_67 : decode cX7_ofMan 67 = .ok (.aload_n 0, 1) := by decide +kernel
theorem dX7_ofMan_68 : decode cX7_ofMan 68 = .ok (.getfield 31, 3) := by decide +kernel
theorem dX7_ofMan_71 : decode cX7_ofMan 71 = .ok (.iload_n 1, 1) := by decide +kernel
theorem dX7_ofMan_72 : decode cX7_ofMan 72 = .ok (.invokevirtual 396, 3) := by decide +kernel
theorem dX7_ofMan_75 : decode cX7_ofMan 75 = .ok (.ireturn, 1) := by decide +kernel
theorem dX7_ofChain_0 : decode cX7_ofChain 0 = .ok (.iload_n 2, 1) := by decide +kernel
theorem dX7_ofChain_1 : decode cX7_ofChain 1 = .ok (.tableswitch 68 0 2 #[27, 37, 47], 27) := by decide +kernel
theorem dX7_ofChain_28 : decode cX7_ofChain 28 = .ok (.aload_n 0, 1) := by decide +kernel
theorem dX7_ofChain_29 : decode cX7_ofChain 29 = .ok (.getfield 77, 3) := by decide +kernel
theorem dX7_ofChain_32 : decode cX7_ofChain 32 = .ok (.getfield 399, 3) := by decide +kernel
theorem dX7_ofChain_35 : decode cX7_ofChain 35 = .ok (.iload_n 1, 1) := by decide +kernel
theorem dX7_ofChain_36 : decode cX7_ofChain 36 = .ok (.iaload, 1) := by decide +kernel
theorem dX7_ofChain_37 : decode cX7_ofChain 37 = .ok (.ireturn, 1) := by decide +kernel
theorem dX7_ofChain_38 : decode cX7_ofChain 38 = .ok (.aload_n 0, 1) := by decide +kernel
theorem dX7_ofChain_39 : decode cX7_ofChain 39 = .ok (.getfield 77, 3) := by decide +kernel
theorem dX7_ofChain_42 : decode cX7_ofChain 42 = .ok (.getfield 402, 3) := by decide +kernel
theorem dX7_ofChain_45 : decode cX7_ofChain 45 = .ok (.iload_n 1, 1) := by decide +kernel
theorem dX7_ofChain_46 : decode cX7_ofChain 46 = .ok (.iaload, 1) := by decide +kernel
theorem dX7_ofChain_47 : decode cX7_ofChain 47 = .ok (.ireturn, 1) := by decide +kernel
theorem dX7_ofChain_48 : decode cX7_ofChain 48 = .ok (.aload_n 0, 1) := by decide +kernel
theorem dX7_ofChain_49 : decode cX7_ofChain 49 = .ok (.aload_n 0, 1) := by decide +kernel
theorem dX7_ofChain_50 : decode cX7_ofChain 50 = .ok (.getfield 31, 3) := by decide +kernel
theorem dX7_ofChain_53 : decode cX7_ofChain 53 = .ok (.getfield 199, 3) := by decide +kernel
theorem dX7_ofChain_56 : decode cX7_ofChain 56 = .ok (.iload_n 1, 1) := by decide +kernel
theorem dX7_ofChain_57 : decode cX7_ofChain 57 = .ok (.aload_n 0, 1) := by decide +kernel
theorem dX7_ofChain_58 : decode cX7_ofChain 58 = .ok (.getfield 77, 3) := by decide +kernel
theorem dX7_ofChain_61 : decode cX7_ofChain 61 = .ok (.iload_n 1, 1) := by decide +kernel
theorem dX7_ofChain_62 : decode cX7_ofChain 62 = .ok (.invokevirtual 405, 3) := by decide +kernel
theorem dX7_ofChain_65 : decode cX7_ofChain 65 = .ok (.invokevirtual 253, 3) := by decide +kernel
theorem dX7_ofChain_68 : decode cX7_ofChain 68 = .ok (.ireturn, 1) := by decide +kernel
theorem dX7_ofChain_69 : decode cX7_ofChain 69 = .ok (.aload_n 0, 1) := by decide +kernel
theorem dX7_ofChain_70 : decode cX7_ofChain 70 = .ok (.getfield 31, 3) := by decide +kernel
theorem dX7_ofChain_73 : decode cX7_ofChain 73 = .ok (.getfield 196, 3) := by decide +kernel
theorem dX7_ofChain_76 : decode cX7_ofChain 76 = .ok (.iload_n 1, 1) := by decide +kernel
theorem dX7_ofChain_77 : decode cX7_ofChain 77 = .ok (.ishr, 1) := by decide +kernel
theorem dX7_ofChain_78 : decode cX7_ofChain 78 = .ok (.iconst 1, 1) := by decide +kernel
theorem dX7_ofChain_79 : decode cX7_ofChain 79 = .ok (.iand, 1) := by decide +kernel
theorem dX7_ofChain_80 : decode cX7_ofChain 80 = .ok (.ireturn, 1) := by decide +kernel
theorem dX7_closedChains_0 : decode cX7_closedChains 0 = .ok (.iconst 1, 1) := by decide +kernel
theorem dX7_closedChains_1 : decode cX7_closedChains 1 = .ok (.aload_n 0, 1) := by decide +kernel
theorem dX7_closedChains_2 : decode cX7_closedChains 2 = .ok (.getfield 77, 3) := by decide +kernel
theorem dX7_closedChains_5 : decode cX7_closedChains 5 = .ok (.getfield 348, 3) := by decide +kernel
theorem dX7_closedChains_8 : decode cX7_closedChains 8 = .ok (.ishl, 1) := by decide +kernel
theorem dX7_closedChains_9 : decode cX7_closedChains 9 = .ok (.iconst 1, 1) := by decide +kernel
theorem dX7_closedChains_10 : decode cX7_closedChains 10 = .ok (.isub, 1) := by decide +kernel
theorem dX7_closedChains_11 : decode cX7_closedChains 11 = .ok (.aload_n 0, 1) := by decide +kernel
theorem dX7_closedChains_12 : decode cX7_closedChains 12 = .ok (.getfield 31, 3) := by decide +kernel
theorem dX7_closedChains_15 : decode cX7_closedChains 15 = .ok (.getfield 196, 3) := by decide +kernel
theorem dX7_closedChains_18 : decode cX7_closedChains 18 = .ok (.iconst (-1), 1) := by decide +kernel
theorem dX7_closedChains_19 : decode cX7_closedChains 19 = .ok (.ixor, 1) := by decide +kernel
theorem dX7_closedChains_20 : decode cX7_closedChains 20 = .ok (.iand, 1) := by decide +kernel
theorem dX7_closedChains_21 : decode cX7_closedChains 21 = .ok (.ireturn, 1) := by decide +kernel
theorem dX7_chainedTo_0 : decode cX7_chainedTo 0 = .ok (.iconst 0, 1) := by decide +kernel
theorem dX7_chainedTo_1 : decode cX7_chainedTo 1 = .ok (.istore_n 3, 1) := by decide +kernel
theorem dX7_chainedTo_2 : decode cX7_chainedTo 2 = .ok (.iconst 0, 1) := by decide +kernel
theorem dX7_chainedTo_3 : decode cX7_chainedTo 3 = .ok (.istore 4, 2) := by decide +kernel
theorem dX7_chainedTo_5 : decode cX7_chainedTo 5 = .ok (.iload 4, 2) := by decide +kernel
theorem dX7_chainedTo_7 : decode cX7_chainedTo 7 = .ok (.aload_n 0, 1) := by decide +kernel
theorem dX7_chainedTo_8 : decode cX7_chainedTo 8 = .ok (.getfield 77, 3) := by decide +kernel
theorem dX7_chainedTo_11 : decode cX7_chainedTo 11 = .ok (.getfield 348, 3) := by decide +kernel
theorem dX7_chainedTo_14 : decode cX7_chainedTo 14 = .ok (.if_icmp .ge 64, 3) := by decide +kernel
theorem dX7_chainedTo_17 : decode cX7_chainedTo 17 = .ok (.aload_n 0, 1) := by decide +kernel
theorem dX7_chainedTo_18 : decode cX7_chainedTo 18 = .ok (.getfield 77, 3) := by decide +kernel
theorem dX7_chainedTo_21 : decode cX7_chainedTo 21 = .ok (.getfield 408, 3) := by decide +kernel
theorem dX7_chainedTo_24 : decode cX7_chainedTo 24 = .ok (.iload 4, 2) := by decide +kernel
theorem dX7_chainedTo_26 : decode cX7_chainedTo 26 = .ok (.iconst 4, 1) := by decide +kernel
theorem dX7_chainedTo_27 : decode cX7_chainedTo 27 = .ok (.imul, 1) := by decide +kernel
theorem dX7_chainedTo_28 : decode cX7_chainedTo 28 = .ok (.iload_n 1, 1) := by decide +kernel
theorem dX7_chainedTo_29 : decode cX7_chainedTo 29 = .ok (.iadd, 1) := by decide +kernel
theorem dX7_chainedTo_30 : decode cX7_chainedTo 30 = .ok (.iaload, 1) := by decide +kernel
theorem dX7_chainedTo_31 : decode cX7_chainedTo 31 = .ok (.istore 5, 2) := by decide +kernel
theorem dX7_chainedTo_33 : decode cX7_chainedTo 33 = .ok (.aload_n 0, 1) := by decide +kernel
theorem dX7_chainedTo_34 : decode cX7_chainedTo 34 = .ok (.getfield 31, 3) := by decide +kernel
theorem dX7_chainedTo_37 : decode cX7_chainedTo 37 = .ok (.getfield 196, 3) := by decide +kernel
theorem dX7_chainedTo_40 : decode cX7_chainedTo 40 = .ok (.iload 4, 2) := by decide +kernel
theorem dX7_chainedTo_42 : decode cX7_chainedTo 42 = .ok (.ishr, 1) := by decide +kernel
theorem dX7_chainedTo_43 : decode cX7_chainedTo 43 = .ok (.iconst 1, 1) := by decide +kernel
theorem dX7_chainedTo_44 : decode cX7_chainedTo 44 = .ok (.iand, 1) := by decide +kernel
theorem dX7_chainedTo_45 : decode cX7_chainedTo 45 = .ok (.ifCond .ne 27, 3) := by decide +kernel
theorem dX7_chainedTo_48 : decode cX7_chainedTo 48 = .ok (.iload 5, 2) := by decide +kernel
theorem dX7_chainedTo_50 : decode cX7_chainedTo 50 = .ok (.bipush (-9), 2) := by decide +kernel
theorem dX7_chainedTo_52 : decode cX7_chainedTo 52 = .ok (.if_icmp .eq 20, 3) := by decide +kernel
theorem dX7_chainedTo_55 : decode cX7_chainedTo 55 = .ok (.aload_n 0, 1) := by decide +kernel
theorem dX7_chainedTo_56 : decode cX7_chainedTo 56 = .ok (.getfield 77, 3) := by decide +kernel
theorem dX7_chainedTo_59 : decode cX7_chainedTo 59 = .ok (.getfield 393, 3) := by decide +kernel
theorem dX7_chainedTo_62 : decode cX7_chainedTo 62 = .ok (.iload 5, 2) := by decide +kernel
theorem dX7_chainedTo_64 : decode cX7_chainedTo 64 = .ok (.iaload, 1) := by decide +kernel
theorem dX7_chainedTo_65 : decode cX7_chainedTo 65 = .ok (.iload_n 2, 1) := by decide +kernel
theorem dX7_chainedTo_66 : decode cX7_chainedTo 66 = .ok (.if_icmp .ne 6, 3) := by decide +kernel
theorem dX7_chainedTo_69 : decode cX7_chainedTo 69 = .ok (.iinc 3 1, 3) := by decide +kernel
theorem dX7_chainedTo_72 : decode cX7_chainedTo 72 = .ok (.iinc 4 1, 3) := by decide +kernel
theorem dX7_chainedTo_75 : decode cX7_chainedTo 75 = .ok (.goto (-70), 3) := by decide +kernel
theorem dX7_chainedTo_78 : decode cX7_chainedTo 78 = .ok (.iload_n 3, 1) := by decide +kernel
theorem dX7_chainedTo_79 : decode cX7_chainedTo 79 = .ok (.ireturn, 1) := by decide +kernel
theorem dX7_waysOpenTo_0 : decode cX7_waysOpenTo 0 = .ok (.iconst 0, 1) := by decide +kernel
theorem dX7_waysOpenTo_1 : decode cX7_waysOpenTo 1 = .ok (.istore_n 2, 1) := by decide +kernel
theorem dX7_waysOpenTo_2 : decode cX7_waysOpenTo 2 = .ok (.iconst 0, 1) := by decide +kernel
theorem dX7_waysOpenTo_3 : decode cX7_waysOpenTo 3 = .ok (.istore_n 3, 1) := by decide +kernel
theorem dX7_waysOpenTo_4 : decode cX7_waysOpenTo 4 = .ok (.iload_n 3, 1) := by decide +kernel
theorem dX7_waysOpenTo_5 : decode cX7_waysOpenTo 5 = .ok (.iconst 4, 1) := by decide +kernel
theorem dX7_waysOpenTo_6 : decode cX7_waysOpenTo 6 = .ok (.if_icmp .ge 36, 3) := by decide +kernel
theorem dX7_waysOpenTo_9 : decode cX7_waysOpenTo 9 = .ok (.aload_n 0, 1) := by decide +kernel
theorem dX7_waysOpenTo_10 : decode cX7_waysOpenTo 10 = .ok (.getfield 42, 3) := by decide +kernel
theorem dX7_waysOpenTo_13 : decode cX7_waysOpenTo 13 = .ok (.aload_n 0, 1) := by decide +kernel
theorem dX7_waysOpenTo_14 : decode cX7_waysOpenTo 14 = .ok (.getfield 31, 3) := by decide +kernel
theorem dX7_waysOpenTo_17 : decode cX7_waysOpenTo 17 = .ok (.getfield 199, 3) := by decide +kernel
theorem dX7_waysOpenTo_20 : decode cX7_waysOpenTo 20 = .ok (.iload_n 1, 1) := by decide +kernel
theorem dX7_waysOpenTo_21 : decode cX7_waysOpenTo 21 = .ok (.iload_n 3, 1) := by decide +kernel
theorem dX7_waysOpenTo_22 : decode cX7_waysOpenTo 22 = .ok (.invokevirtual 202, 3) := by decide +kernel
theorem dX7_waysOpenTo_25 : decode cX7_waysOpenTo 25 = .ok (.bipush (-9), 2) := by decide +kernel
theorem dX7_waysOpenTo_27 : decode cX7_waysOpenTo 27 = .ok (.if_icmp .eq 9, 3) := by decide +kernel
theorem dX7_waysOpenTo_30 : decode cX7_waysOpenTo 30 = .ok (.iload_n 2, 1) := by decide +kernel
theorem dX7_waysOpenTo_31 : decode cX7_waysOpenTo 31 = .ok (.iconst 1, 1) := by decide +kernel
theorem dX7_waysOpenTo_32 : decode cX7_waysOpenTo 32 = .ok (.iload_n 3, 1) := by decide +kernel
theorem dX7_waysOpenTo_33 : decode cX7_waysOpenTo 33 = .ok (.ishl, 1) := by decide +kernel
theorem dX7_waysOpenTo_34 : decode cX7_waysOpenTo 34 = .ok (.ior, 1) := by decide +kernel
theorem dX7_waysOpenTo_35 : decode cX7_waysOpenTo 35 = .ok (.istore_n 2, 1) := by decide +kernel
theorem dX7_waysOpenTo_36 : decode cX7_waysOpenTo 36 = .ok (.iinc 3 1, 3) := by decide +kernel
theorem dX7_waysOpenTo_39 : decode cX7_waysOpenTo 39 = .ok (.goto (-35), 3) := by decide +kernel
theorem dX7_waysOpenTo_42 : decode cX7_waysOpenTo 42 = .ok (.iload_n 2, 1) := by decide +kernel
theorem dX7_waysOpenTo_43 : decode cX7_waysOpenTo 43 = .ok (.ireturn, 1) := by decide +kernel
theorem dX7_fartherThanTwo_0 : decode cX7_fartherThanTwo 0 = .ok (.iconst 0, 1) := by decide +kernel
theorem dX7_fartherThanTwo_1 : decode cX7_fartherThanTwo 1 = .ok (.istore_n 2, 1) := by decide +kernel
theorem dX7_fartherThanTwo_2 : decode cX7_fartherThanTwo 2 = .ok (.iconst 0, 1) := by decide +kernel
theorem dX7_fartherThanTwo_3 : decode cX7_fartherThanTwo 3 = .ok (.istore_n 3, 1) := by decide +kernel
theorem dX7_fartherThanTwo_4 : decode cX7_fartherThanTwo 4 = .ok (.iload_n 3, 1) := by decide +kernel
theorem dX7_fartherThanTwo_5 : decode cX7_fartherThanTwo 5 = .ok (.aload_n 0, 1) := by decide +kernel
theorem dX7_fartherThanTwo_6 : decode cX7_fartherThanTwo 6 = .ok (.getfield 77, 3) := by decide +kernel
theorem dX7_fartherThanTwo_9 : decode cX7_fartherThanTwo 9 = .ok (.getfield 154, 3) := by decide +kernel
theorem dX7_fartherThanTwo_12 : decode cX7_fartherThanTwo 12 = .ok (.if_icmp .ge 29, 3) := by decide +kernel
theorem dX7_fartherThanTwo_15 : decode cX7_fartherThanTwo 15 = .ok (.aload_n 0, 1) := by decide +kernel
theorem dX7_fartherThanTwo_16 : decode cX7_fartherThanTwo 16 = .ok (.aload_n 0, 1) := by decide +kernel
theorem dX7_fartherThanTwo_17 : decode cX7_fartherThanTwo 17 = .ok (.getfield 31, 3) := by decide +kernel
theorem dX7_fartherThanTwo_20 : decode cX7_fartherThanTwo 20 = .ok (.getfield 199, 3) := by decide +kernel
theorem dX7_fartherThanTwo_23 : decode cX7_fartherThanTwo 23 = .ok (.iload_n 1, 1) := by decide +kernel
theorem dX7_fartherThanTwo_24 : decode cX7_fartherThanTwo 24 = .ok (.iload_n 3, 1) := by decide +kernel
theorem dX7_fartherThanTwo_25 : decode cX7_fartherThanTwo 25 = .ok (.invokevirtual 253, 3) := by decide +kernel
theorem dX7_fartherThanTwo_28 : decode cX7_fartherThanTwo 28 = .ok (.iconst 2, 1) := by decide +kernel
theorem dX7_fartherThanTwo_29 : decode cX7_fartherThanTwo 29 = .ok (.if_icmp .le 6, 3) := by decide +kernel
theorem dX7_fartherThanTwo_32 : decode cX7_fartherThanTwo 32 = .ok (.iinc 2 1, 3) := by decide +kernel
theorem dX7_fartherThanTwo_35 : decode cX7_fartherThanTwo 35 = .ok (.iinc 3 1, 3) := by decide +kernel
theorem dX7_fartherThanTwo_38 : decode cX7_fartherThanTwo 38 = .ok (.goto (-34), 3) := by decide +kernel
theorem dX7_fartherThanTwo_41 : decode cX7_fartherThanTwo 41 = .ok (.iload_n 2, 1) := by decide +kernel
theorem dX7_fartherThanTwo_42 : decode cX7_fartherThanTwo 42 = .ok (.ireturn, 1) := by decide +kernel
theorem dX7_leastReach_0 : decode cX7_leastReach 0 = .ok (.bipush (-9), 2) := by decide +kernel
theorem dX7_leastReach_2 : decode cX7_leastReach 2 = .ok (.istore_n 2, 1) := by decide +kernel
theorem dX7_leastReach_3 : decode cX7_leastReach 3 = .ok (.iconst 0, 1) := by decide +kernel
theorem dX7_leastReach_4 : decode cX7_leastReach 4 = .ok (.istore_n 3, 1) := by decide +kernel
theorem dX7_leastReach_5 : decode cX7_leastReach 5 = .ok (.iload_n 3, 1) := by decide +kernel
theorem dX7_leastReach_6 : decode cX7_leastReach 6 = .ok (.aload_n 0, 1) := by decide +kernel
theorem dX7_leastReach_7 : decode cX7_leastReach 7 = .ok (.getfield 77, 3) := by decide +kernel
theorem dX7_leastReach_10 : decode cX7_leastReach 10 = .ok (.getfield 348, 3) := by decide +kernel
theorem dX7_leastReach_13 : decode cX7_leastReach 13 = .ok (.if_icmp .ge 56, 3) := by decide +kernel
theorem dX7_leastReach_16 : decode cX7_leastReach 16 = .ok (.aload_n 0, 1) := by decide +kernel
theorem dX7_leastReach_17 : decode cX7_leastReach 17 = .ok (.getfield 77, 3) := by decide +kernel
theorem dX7_leastReach_20 : decode cX7_leastReach 20 = .ok (.getfield 408, 3) := by decide +kernel
theorem dX7_leastReach_23 : decode cX7_leastReach 23 = .ok (.iload_n 3, 1) := by decide +kernel
theorem dX7_leastReach_24 : decode cX7_leastReach 24 = .ok (.iconst 4, 1) := by decide +kernel
theorem dX7_leastReach_25 : decode cX7_leastReach 25 = .ok (.imul, 1) := by decide +kernel
theorem dX7_leastReach_26 : decode cX7_leastReach 26 = .ok (.iload_n 1, 1) := by decide +kernel
theorem dX7_leastReach_27 : decode cX7_leastReach 27 = .ok (.iadd, 1) := by decide +kernel
theorem dX7_leastReach_28 : decode cX7_leastReach 28 = .ok (.iaload, 1) := by decide +kernel
theorem dX7_leastReach_29 : decode cX7_leastReach 29 = .ok (.bipush (-9), 2) := by decide +kernel
theorem dX7_leastReach_31 : decode cX7_leastReach 31 = .ok (.if_icmp .eq 32, 3) := by decide +kernel
theorem dX7_leastReach_34 : decode cX7_leastReach 34 = .ok (.iload_n 2, 1) := by decide +kernel
theorem dX7_leastReach_35 : decode cX7_leastReach 35 = .ok (.bipush (-9), 2) := by decide +kernel
theorem dX7_leastReach_37 : decode cX7_leastReach 37 = .ok (.if_icmp .eq 16, 3) := by decide +kernel
theorem dX7_leastReach_40 : decode cX7_leastReach 40 = .ok (.aload_n 0, 1) := by decide +kernel
theorem dX7_leastReach_41 : decode cX7_leastReach 41 = .ok (.getfield 77, 3) := by decide +kernel
theorem dX7_leastReach_44 : decode cX7_leastReach 44 = .ok (.getfield 402, 3) := by decide +kernel
theorem dX7_leastReach_47 : decode cX7_leastReach 47 = .ok (.iload_n 3, 1) := by decide +kernel
theorem dX7_leastReach_48 : decode cX7_leastReach 48 = .ok (.iaload, 1) := by decide +kernel
theorem dX7_leastReach_49 : decode cX7_leastReach 49 = .ok (.iload_n 2, 1) := by decide +kernel
theorem dX7_leastReach_50 : decode cX7_leastReach 50 = .ok (.if_icmp .ge 13, 3) := by decide +kernel
theorem dX7_leastReach_53 : decode cX7_leastReach 53 = .ok (.aload_n 0, 1) := by decide +kernel
theorem dX7_leastReach_54 : decode cX7_leastReach 54 = .ok (.getfield 77, 3) := by decide +kernel
theorem dX7_leastReach_57 : decode cX7_leastReach 57 = .ok (.getfield 402, 3) := by decide +kernel
theorem dX7_leastReach_60 : decode cX7_leastReach 60 = .ok (.iload_n 3, 1) := by decide +kernel
theorem dX7_leastReach_61 : decode cX7_leastReach 61 = .ok (.iaload, 1) := by decide +kernel
theorem dX7_leastReach_62 : decode cX7_leastReach 62 = .ok (.istore_n 2, 1) := by decide +kernel
theorem dX7_leastReach_63 : decode cX7_leastReach 63 = .ok (.iinc 3 1, 3) := by decide +kernel
theorem dX7_leastReach_66 : decode cX7_leastReach 66 = .ok (.goto (-61), 3) := by decide +kernel
theorem dX7_leastReach_69 : decode cX7_leastReach 69 = .ok (.iload_n 2, 1) := by decide +kernel
theorem dX7_leastReach_70 : decode cX7_leastReach 70 = .ok (.ireturn, 1) := by decide +kernel
theorem dX7_stretch_0 : decode cX7_stretch 0 = .ok (.iconst 0, 1) := by decide +kernel
theorem dX7_stretch_1 : decode cX7_stretch 1 = .ok (.istore_n 2, 1) := by decide +kernel
theorem dX7_stretch_2 : decode cX7_stretch 2 = .ok (.iconst 0, 1) := by decide +kernel
theorem dX7_stretch_3 : decode cX7_stretch 3 = .ok (.istore_n 3, 1) := by decide +kernel
theorem dX7_stretch_4 : decode cX7_stretch 4 = .ok (.iload_n 3, 1) := by decide +kernel
theorem dX7_stretch_5 : decode cX7_stretch 5 = .ok (.aload_n 0, 1) := by decide +kernel
theorem dX7_stretch_6 : decode cX7_stretch 6 = .ok (.getfield 77, 3) := by decide +kernel
theorem dX7_stretch_9 : decode cX7_stretch 9 = .ok (.getfield 348, 3) := by decide +kernel
theorem dX7_stretch_12 : decode cX7_stretch 12 = .ok (.if_icmp .ge 26, 3) := by decide +kernel
theorem dX7_stretch_15 : decode cX7_stretch 15 = .ok (.iload_n 2, 1) := by decide +kernel
theorem dX7_stretch_16 : decode cX7_stretch 16 = .ok (.aload_n 0, 1) := by decide +kernel
theorem dX7_stretch_17 : decode cX7_stretch 17 = .ok (.iload_n 1, 1) := by decide +kernel
theorem dX7_stretch_18 : decode cX7_stretch 18 = .ok (.iload_n 3, 1) := by decide +kernel
theorem dX7_stretch_19 : decode cX7_stretch 19 = .ok (.aload_n 0, 1) := by decide +kernel
theorem dX7_stretch_20 : decode cX7_stretch 20 = .ok (.getfield 77, 3) := by decide +kernel
theorem dX7_stretch_23 : decode cX7_stretch 23 = .ok (.iload_n 3, 1) := by decide +kernel
theorem dX7_stretch_24 : decode cX7_stretch 24 = .ok (.invokevirtual 405, 3) := by decide +kernel
theorem dX7_stretch_27 : decode cX7_stretch 27 = .ok (.invokevirtual 253, 3) := by decide +kernel
theorem dX7_stretch_30 : decode cX7_stretch 30 = .ok (.iadd, 1) := by decide +kernel
theorem dX7_stretch_31 : decode cX7_stretch 31 = .ok (.istore_n 2, 1) := by decide +kernel
theorem dX7_stretch_32 : decode cX7_stretch 32 = .ok (.iinc 3 1, 3) := by decide +kernel
theorem dX7_stretch_35 : decode cX7_stretch 35 = .ok (.goto (-31), 3) := by decide +kernel
theorem dX7_stretch_38 : decode cX7_stretch 38 = .ok (.iload_n 2, 1) := by decide +kernel
theorem dX7_stretch_39 : decode cX7_stretch 39 = .ok (.ireturn, 1) := by decide +kernel
theorem dX7_sleepers_0 : decode cX7_sleepers 0 = .ok (.iconst 0, 1) := by decide +kernel
theorem dX7_sleepers_1 : decode cX7_sleepers 1 = .ok (.istore_n 1, 1) := by decide +kernel
theorem dX7_sleepers_2 : decode cX7_sleepers 2 = .ok (.iconst 0, 1) := by decide +kernel
theorem dX7_sleepers_3 : decode cX7_sleepers 3 = .ok (.istore_n 2, 1) := by decide +kernel
theorem dX7_sleepers_4 : decode cX7_sleepers 4 = .ok (.iload_n 2, 1) := by decide +kernel
theorem dX7_sleepers_5 : decode cX7_sleepers 5 = .ok (.aload_n 0, 1) := by decide +kernel
theorem dX7_sleepers_6 : decode cX7_sleepers 6 = .ok (.getfield 77, 3) := by decide +kernel
theorem dX7_sleepers_9 : decode cX7_sleepers 9 = .ok (.getfield 154, 3) := by decide +kernel
theorem dX7_sleepers_12 : decode cX7_sleepers 12 = .ok (.if_icmp .ge 24, 3) := by decide +kernel
theorem dX7_sleepers_15 : decode cX7_sleepers 15 = .ok (.aload_n 0, 1) := by decide +kernel
theorem dX7_sleepers_16 : decode cX7_sleepers 16 = .ok (.getfield 77, 3) := by decide +kernel
theorem dX7_sleepers_19 : decode cX7_sleepers 19 = .ok (.iload_n 2, 1) := by decide +kernel
theorem dX7_sleepers_20 : decode cX7_sleepers 20 = .ok (.iconst 2, 1) := by decide +kernel
theorem dX7_sleepers_21 : decode cX7_sleepers 21 = .ok (.invokevirtual 169, 3) := by decide +kernel
theorem dX7_sleepers_24 : decode cX7_sleepers 24 = .ok (.ifCond .eq 6, 3) := by decide +kernel
theorem dX7_sleepers_27 : decode cX7_sleepers 27 = .ok (.iinc 1 1, 3) := by decide +kernel
theorem dX7_sleepers_30 : decode cX7_sleepers 30 = .ok (.iinc 2 1, 3) := by decide +kernel
theorem dX7_sleepers_33 : decode cX7_sleepers 33 = .ok (.goto (-29), 3) := by decide +kernel
theorem dX7_sleepers_36 : decode cX7_sleepers 36 = .ok (.iload_n 1, 1) := by decide +kernel
theorem dX7_sleepers_37 : decode cX7_sleepers 37 = .ok (.ireturn, 1) := by decide +kernel
theorem dX7_yardsKept_0 : decode cX7_yardsKept 0 = .ok (.iconst 0, 1) := by decide +kernel
theorem dX7_yardsKept_1 : decode cX7_yardsKept 1 = .ok (.istore_n 1, 1) := by decide +kernel
theorem dX7_yardsKept_2 : decode cX7_yardsKept 2 = .ok (.iconst 0, 1) := by decide +kernel
theorem dX7_yardsKept_3 : decode cX7_yardsKept 3 = .ok (.istore_n 2, 1) := by decide +kernel
theorem dX7_yardsKept_4 : decode cX7_yardsKept 4 = .ok (.iload_n 2, 1) := by decide +kernel
theorem dX7_yardsKept_5 : decode cX7_yardsKept 5 = .ok (.iconst 3, 1) := by decide +kernel
theorem dX7_yardsKept_6 : decode cX7_yardsKept 6 = .ok (.if_icmp .ge 24, 3) := by decide +kernel
theorem dX7_yardsKept_9 : decode cX7_yardsKept 9 = .ok (.aload_n 0, 1) := by decide +kernel
theorem dX7_yardsKept_10 : decode cX7_yardsKept 10 = .ok (.getfield 35, 3) := by decide +kernel
theorem dX7_yardsKept_13 : decode cX7_yardsKept 13 = .ok (.iload_n 2, 1) := by decide +kernel
theorem dX7_yardsKept_14 : decode cX7_yardsKept 14 = .ok (.aaload, 1) := by decide +kernel
theorem dX7_yardsKept_15 : decode cX7_yardsKept 15 = .ok (.getfield 147, 3) := by decide +kernel
theorem dX7_yardsKept_18 : decode cX7_yardsKept 18 = .ok (.ifCond .eq 6, 3) := by decide +kernel
theorem dX7_yardsKept_21 : decode cX7_yardsKept 21 = .ok (.iinc 1 1, 3) := by decide +kernel
theorem dX7_yardsKept_24 : decode cX7_yardsKept 24 = .ok (.iinc 2 1, 3) := by decide +kernel
theorem dX7_yardsKept_27 : decode cX7_yardsKept 27 = .ok (.goto (-23), 3) := by decide +kernel
theorem dX7_yardsKept_30 : decode cX7_yardsKept 30 = .ok (.iload_n 1, 1) := by decide +kernel
theorem dX7_yardsKept_31 : decode cX7_yardsKept 31 = .ok (.ireturn, 1) := by decide +kernel
theorem dX7_possibleSteps_0 : decode cX7_possibleSteps 0 = .ok (.iconst 0, 1) := by decide +kernel
theorem dX7_possibleSteps_1 : decode cX7_possibleSteps 1 = .ok (.istore_n 1, 1) := by decide +kernel
theorem dX7_possibleSteps_2 : decode cX7_possibleSteps 2 = .ok (.iconst 0, 1) := by decide +kernel
theorem dX7_possibleSteps_3 : decode cX7_possibleSteps 3 = .ok (.istore_n 2, 1) := by decide +kernel
theorem dX7_possibleSteps_4 : decode cX7_possibleSteps 4 = .ok (.iload_n 2, 1) := by decide +kernel
theorem dX7_possibleSteps_5 : decode cX7_possibleSteps 5 = .ok (.aload_n 0, 1) := by decide +kernel
theorem dX7_possibleSteps_6 : decode cX7_possibleSteps 6 = .ok (.getfield 77, 3) := by decide +kernel
theorem dX7_possibleSteps_9 : decode cX7_possibleSteps 9 = .ok (.getfield 154, 3) := by decide +kernel
theorem dX7_possibleSteps_12 : decode cX7_possibleSteps 12 = .ok (.if_icmp .ge 20, 3) := by decide +kernel
theorem dX7_possibleSteps_15 : decode cX7_possibleSteps 15 = .ok (.iload_n 1, 1) := by decide +kernel
theorem dX7_possibleSteps_16 : decode cX7_possibleSteps 16 = .ok (.aload_n 0, 1) := by decide +kernel
theorem dX7_possibleSteps_17 : decode cX7_possibleSteps 17 = .ok (.iload_n 2, 1) := by decide +kernel
theorem dX7_possibleSteps_18 : decode cX7_possibleSteps 18 = .ok (.invokevirtual 176, 3) := by decide +kernel
theorem dX7_possibleSteps_21 : decode cX7_possibleSteps 21 = .ok (.invokestatic 179, 3) := by decide +kernel
theorem dX7_possibleSteps_24 : decode cX7_possibleSteps 24 = .ok (.iadd, 1) := by decide +kernel
theorem dX7_possibleSteps_25 : decode cX7_possibleSteps 25 = .ok (.istore_n 1, 1) := by decide +kernel
theorem dX7_possibleSteps_26 : decode cX7_possibleSteps 26 = .ok (.iinc 2 1, 3) := by decide +kernel
theorem dX7_possibleSteps_29 : decode cX7_possibleSteps 29 = .ok (.goto (-25), 3) := by decide +kernel
theorem dX7_possibleSteps_32 : decode cX7_possibleSteps 32 = .ok (.iload_n 1, 1) := by decide +kernel
theorem dX7_possibleSteps_33 : decode cX7_possibleSteps 33 = .ok (.ireturn, 1) := by decide +kernel
theorem dX7_commonPart_0 : decode cX7_commonPart 0 = .ok (.iconst 4, 1) := by decide +kernel
theorem dX7_commonPart_1 : decode cX7_commonPart 1 = .ok (.aload_n 0, 1) := by decide +kernel
theorem dX7_commonPart_2 : decode cX7_commonPart 2 = .ok (.getfield 77, 3) := by decide +kernel
theorem dX7_commonPart_5 : decode cX7_commonPart 5 = .ok (.getfield 154, 3) := by decide +kernel
theorem dX7_commonPart_8 : decode cX7_commonPart 8 = .ok (.imul, 1) := by decide +kernel
theorem dX7_commonPart_9 : decode cX7_commonPart 9 = .ok (.istore_n 1, 1) := by decide +kernel
theorem dX7_commonPart_10 : decode cX7_commonPart 10 = .ok (.aload_n 0, 1) := by decide +kernel
theorem dX7_commonPart_11 : decode cX7_commonPart 11 = .ok (.invokevirtual 342, 3) := by decide +kernel
theorem dX7_commonPart_14 : decode cX7_commonPart 14 = .ok (.istore_n 2, 1) := by decide +kernel
theorem dX7_commonPart_15 : decode cX7_commonPart 15 = .ok (.iload_n 1, 1) := by decide +kernel
theorem dX7_commonPart_16 : decode cX7_commonPart 16 = .ok (.istore_n 3, 1) := by decide +kernel
theorem dX7_commonPart_17 : decode cX7_commonPart 17 = .ok (.iload_n 3, 1) := by decide +kernel
theorem dX7_commonPart_18 : decode cX7_commonPart 18 = .ok (.iconst 1, 1) := by decide +kernel
theorem dX7_commonPart_19 : decode cX7_commonPart 19 = .ok (.if_icmp .le 23, 3) := by decide +kernel
theorem dX7_commonPart_22 : decode cX7_commonPart 22 = .ok (.iload_n 1, 1) := by decide +kernel
theorem dX7_commonPart_23 : decode cX7_commonPart 23 = .ok (.iload_n 3, 1) := by decide +kernel
theorem dX7_commonPart_24 : decode cX7_commonPart 24 = .ok (.irem, 1) := by decide +kernel
theorem dX7_commonPart_25 : decode cX7_commonPart 25 = .ok (.ifCond .ne 11, 3) := by decide +kernel
theorem dX7_commonPart_28 : decode cX7_commonPart 28 = .ok (.iload_n 2, 1) := by decide +kernel
theorem dX7_commonPart_29 : decode cX7_commonPart 29 = .ok (.iload_n 3, 1) := by decide +kernel
theorem dX7_commonPart_30 : decode cX7_commonPart 30 = .ok (.irem, 1) := by decide +kernel
theorem dX7_commonPart_31 : decode cX7_commonPart 31 = .ok (.ifCond .ne 5, 3) := by decide +kernel
theorem dX7_commonPart_34 : decode cX7_commonPart 34 = .ok (.iload_n 3, 1) := by decide +kernel
theorem dX7_commonPart_35 : decode cX7_commonPart 35 = .ok (.ireturn, 1) := by decide +kernel
theorem dX7_commonPart_36 : decode cX7_commonPart 36 = .ok (.iinc 3 (-1), 3) := by decide +kernel
theorem dX7_commonPart_39 : decode cX7_commonPart 39 = .ok (.goto (-22), 3) := by decide +kernel
theorem dX7_commonPart_42 : decode cX7_commonPart 42 = .ok (.iconst 1, 1) := by decide +kernel
theorem dX7_commonPart_43 : decode cX7_commonPart 43 = .ok (.ireturn, 1) := by decide +kernel
theorem dX7_firstLike_0 : decode cX7_firstLike 0 = .ok (.aload_n 0, 1) := by decide +kernel
theorem dX7_firstLike_1 : decode cX7_firstLike 1 = .ok (.getfield 51, 3) := by decide +kernel
theorem dX7_firstLike_4 : decode cX7_firstLike 4 = .ok (.aload_n 0, 1) := by decide +kernel
theorem dX7_firstLike_5 : decode cX7_firstLike 5 = .ok (.getfield 31, 3) := by decide +kernel
theorem dX7_firstLike_8 : decode cX7_firstLike 8 = .ok (.getfield 199, 3) := by decide +kernel
theorem dX7_firstLike_11 : decode cX7_firstLike 11 = .ok (.invokevirtual 245, 3) := by decide +kernel
theorem dX7_firstLike_14 : decode cX7_firstLike 14 = .ok (.iconst 0, 1) := by decide +kernel
theorem dX7_firstLike_15 : decode cX7_firstLike 15 = .ok (.istore_n 2, 1) := by decide +kernel
theorem dX7_firstLike_16 : decode cX7_firstLike 16 = .ok (.iload_n 2, 1) := by decide +kernel
theorem dX7_firstLike_17 : decode cX7_firstLike 17 = .ok (.sipush 11880, 3) := by decide +kernel
theorem dX7_firstLike_20 : decode cX7_firstLike 20 = .ok (.if_icmp .ge 38, 3) := by decide +kernel
theorem dX7_firstLike_23 : decode cX7_firstLike 23 = .ok (.aload_n 0, 1) := by decide +kernel
theorem dX7_firstLike_24 : decode cX7_firstLike 24 = .ok (.getfield 51, 3) := by decide +kernel
theorem dX7_firstLike_27 : decode cX7_firstLike 27 = .ok (.iload_n 2, 1) := by decide +kernel
theorem dX7_firstLike_28 : decode cX7_firstLike 28 = .ok (.invokevirtual 248, 3) := by decide +kernel
theorem dX7_firstLike_31 : decode cX7_firstLike 31 = .ok (.ifCond .eq 27, 3) := by decide +kernel
theorem dX7_firstLike_34 : decode cX7_firstLike 34 = .ok (.aload_n 0, 1) := by decide +kernel
theorem dX7_firstLike_35 : decode cX7_firstLike 35 = .ok (.aload_n 0, 1) := by decide +kernel
theorem dX7_firstLike_36 : decode cX7_firstLike 36 = .ok (.getfield 51, 3) := by decide +kernel
theorem dX7_firstLike_39 : decode cX7_firstLike 39 = .ok (.iload_n 2, 1) := by decide +kernel
theorem dX7_firstLike_40 : decode cX7_firstLike 40 = .ok (.invokevirtual 251, 3) := by decide +kernel
theorem dX7_firstLike_43 : decode cX7_firstLike 43 = .ok (.iload_n 1, 1) := by decide +kernel
theorem dX7_firstLike_44 : decode cX7_firstLike 44 = .ok (.invokevirtual 411, 3) := by decide +kernel
theorem dX7_firstLike_47 : decode cX7_firstLike 47 = .ok (.ifCond .eq 5, 3) := by decide +kernel
theorem dX7_firstLike_50 : decode cX7_firstLike 50 = .ok (.iload_n 2, 1) := by decide +kernel
theorem dX7_firstLike_51 : decode cX7_firstLike 51 = .ok (.ireturn, 1) := by decide +kernel
theorem dX7_firstLike_52 : decode cX7_firstLike 52 = .ok (.iinc 2 1, 3) := by decide +kernel
theorem dX7_firstLike_55 : decode cX7_firstLike 55 = .ok (.goto (-39), 3) := by decide +kernel
theorem dX7_firstLike_58 : decode cX7_firstLike 58 = .ok (.bipush (-9), 2) := by decide +kernel
theorem dX7_firstLike_60 : decode cX7_firstLike 60 = .ok (.ireturn, 1) := by decide +kernel
theorem dX7_isLike_0 : decode cX7_isLike 0 = .ok (.iconst 0, 1) := by decide +kernel
theorem dX7_isLike_1 : decode cX7_isLike 1 = .ok (.istore_n 3, 1) := by decide +kernel
theorem dX7_isLike_2 : decode cX7_isLike 2 = .ok (.iload_n 3, 1) := by decide +kernel
theorem dX7_isLike_3 : decode cX7_isLike 3 = .ok (.aload_n 0, 1) := by decide +kernel
theorem dX7_isLike_4 : decode cX7_isLike 4 = .ok (.getfield 77, 3) := by decide +kernel
theorem dX7_isLike_7 : decode cX7_isLike 7 = .ok (.getfield 154, 3) := by decide +kernel
theorem dX7_isLike_10 : decode cX7_isLike 10 = .ok (.if_icmp .ge 39, 3) := by decide +kernel
theorem dX7_isLike_13 : decode cX7_isLike 13 = .ok (.aload_n 0, 1) := by decide +kernel
theorem dX7_isLike_14 : decode cX7_isLike 14 = .ok (.getfield 14, 3) := by decide +kernel
theorem dX7_isLike_17 : decode cX7_isLike 17 = .ok (.iload_n 2, 1) := by decide +kernel
theorem dX7_isLike_18 : decode cX7_isLike 18 = .ok (.iload_n 3, 1) := by decide +kernel
theorem dX7_isLike_19 : decode cX7_isLike 19 = .ok (.invokevirtual 95, 3) := by decide +kernel
theorem dX7_isLike_22 : decode cX7_isLike 22 = .ok (.istore 4, 2) := by decide +kernel
theorem dX7_isLike_24 : decode cX7_isLike 24 = .ok (.iload 4, 2) := by decide +kernel
theorem dX7_isLike_26 : decode cX7_isLike 26 = .ok (.bipush (-9), 2) := by decide +kernel
theorem dX7_isLike_28 : decode cX7_isLike 28 = .ok (.if_icmp .eq 15, 3) := by decide +kernel
theorem dX7_isLike_31 : decode cX7_isLike 31 = .ok (.iload 4, 2) := by decide +kernel
theorem dX7_isLike_33 : decode cX7_isLike 33 = .ok (.iload_n 1, 1) := by decide +kernel
theorem dX7_isLike_34 : decode cX7_isLike 34 = .ok (.iload_n 3, 1) := by decide +kernel
theorem dX7_isLike_35 : decode cX7_isLike 35 = .ok (.invokestatic 216, 3) := by decide +kernel
theorem dX7_isLike_38 : decode cX7_isLike 38 = .ok (.if_icmp .eq 5, 3) := by decide +kernel
theorem dX7_isLike_41 : decode cX7_isLike 41 = .ok (.iconst 0, 1) := by decide +kernel
theorem dX7_isLike_42 : decode cX7_isLike 42 = .ok (.ireturn, 1) := by decide +kernel
theorem dX7_isLike_43 : decode cX7_isLike 43 = .ok (.iinc 3 1, 3) := by decide +kernel
theorem dX7_isLike_46 : decode cX7_isLike 46 = .ok (.goto (-44), 3) := by decide +kernel
theorem dX7_isLike_49 : decode cX7_isLike 49 = .ok (.iconst 1, 1) := by decide +kernel
theorem dX7_isLike_50 : decode cX7_isLike 50 = .ok (.ireturn, 1) := by decide +kernel
theorem dX7_allInColumn_0 : decode cX7_allInColumn 0 = .ok (.iconst 0, 1) := by decide +kernel
theorem dX7_allInColumn_1 : decode cX7_allInColumn 1 = .ok (.istore_n 3, 1) := by decide +kernel
theorem dX7_allInColumn_2 : decode cX7_allInColumn 2 = .ok (.iload_n 3, 1) := by decide +kernel
theorem dX7_allInColumn_3 : decode cX7_allInColumn 3 = .ok (.aload_n 0, 1) := by decide +kernel
theorem dX7_allInColumn_4 : decode cX7_allInColumn 4 = .ok (.getfield 77, 3) := by decide +kernel
theorem dX7_allInColumn_7 : decode cX7_allInColumn 7 = .ok (.getfield 154, 3) := by decide +kernel
theorem dX7_allInColumn_10 : decode cX7_allInColumn 10 = .ok (.if_icmp .ge 27, 3) := by decide +kernel
theorem dX7_allInColumn_13 : decode cX7_allInColumn 13 = .ok (.aload_n 0, 1) := by decide +kernel
theorem dX7_allInColumn_14 : decode cX7_allInColumn 14 = .ok (.getfield 77, 3) := by decide +kernel
theorem dX7_allInColumn_17 : decode cX7_allInColumn 17 = .ok (.iload_n 1, 1) := by decide +kernel
theorem dX7_allInColumn_18 : decode cX7_allInColumn 18 = .ok (.iload_n 3, 1) := by decide +kernel
theorem dX7_allInColumn_19 : decode cX7_allInColumn 19 = .ok (.invokestatic 216, 3) := by decide +kernel
theorem dX7_allInColumn_22 : decode cX7_allInColumn 22 = .ok (.invokevirtual 414, 3) := by decide +kernel
theorem dX7_allInColumn_25 : decode cX7_allInColumn 25 = .ok (.iload_n 2, 1) := by decide +kernel
theorem dX7_allInColumn_26 : decode cX7_allInColumn 26 = .ok (.if_icmp .eq 5, 3) := by decide +kernel
theorem dX7_allInColumn_29 : decode cX7_allInColumn 29 = .ok (.iconst 0, 1) := by decide +kernel
theorem dX7_allInColumn_30 : decode cX7_allInColumn 30 = .ok (.ireturn, 1) := by decide +kernel
theorem dX7_allInColumn_31 : decode cX7_allInColumn 31 = .ok (.iinc 3 1, 3) := by decide +kernel
theorem dX7_allInColumn_34 : decode cX7_allInColumn 34 = .ok (.goto (-32), 3) := by decide +kernel
theorem dX7_allInColumn_37 : decode cX7_allInColumn 37 = .ok (.iconst 1, 1) := by decide +kernel
theorem dX7_allInColumn_38 : decode cX7_allInColumn 38 = .ok (.ireturn, 1) := by decide +kernel
theorem dX7_standFrom_0 : decode cX7_standFrom 0 = .ok (.iconst 0, 1) := by decide +kernel
theorem dX7_standFrom_1 : decode cX7_standFrom 1 = .ok (.istore_n 3, 1) := by decide +kernel
theorem dX7_standFrom_2 : decode cX7_standFrom 2 = .ok (.iconst 0, 1) := by decide +kernel
theorem dX7_standFrom_3 : decode cX7_standFrom 3 = .ok (.istore 4, 2) := by decide +kernel
theorem dX7_standFrom_5 : decode cX7_standFrom 5 = .ok (.iload 4, 2) := by decide +kernel
theorem dX7_standFrom_7 : decode cX7_standFrom 7 = .ok (.aload_n 0, 1) := by decide +kernel
theorem dX7_standFrom_8 : decode cX7_standFrom 8 = .ok (.getfield 77, 3) := by decide +kernel
theorem dX7_standFrom_11 : decode cX7_standFrom 11 = .ok (.getfield 154, 3) := by decide +kernel
theorem dX7_standFrom_14 : decode cX7_standFrom 14 = .ok (.if_icmp .ge 31, 3) := by decide +kernel
theorem dX7_standFrom_17 : decode cX7_standFrom 17 = .ok (.iload_n 3, 1) := by decide +kernel
theorem dX7_standFrom_18 : decode cX7_standFrom 18 = .ok (.aload_n 0, 1) := by decide +kernel
theorem dX7_standFrom_19 : decode cX7_standFrom 19 = .ok (.getfield 14, 3) := by decide +kernel
theorem dX7_standFrom_22 : decode cX7_standFrom 22 = .ok (.iload_n 1, 1) := by decide +kernel
theorem dX7_standFrom_23 : decode cX7_standFrom 23 = .ok (.iload_n 2, 1) := by decide +kernel
theorem dX7_standFrom_24 : decode cX7_standFrom 24 = .ok (.iload 4, 2) := by decide +kernel
theorem dX7_standFrom_26 : decode cX7_standFrom 26 = .ok (.iadd, 1) := by decide +kernel
theorem dX7_standFrom_27 : decode cX7_standFrom 27 = .ok (.invokevirtual 95, 3) := by decide +kernel
theorem dX7_standFrom_30 : decode cX7_standFrom 30 = .ok (.getstatic 380, 3) := by decide +kernel
theorem dX7_standFrom_33 : decode cX7_standFrom 33 = .ok (.iload 4, 2) := by decide +kernel
theorem dX7_standFrom_35 : decode cX7_standFrom 35 = .ok (.iaload, 1) := by decide +kernel
theorem dX7_standFrom_36 : decode cX7_standFrom 36 = .ok (.imul, 1) := by decide +kernel
theorem dX7_standFrom_37 : decode cX7_standFrom 37 = .ok (.iadd, 1) := by decide +kernel
theorem dX7_standFrom_38 : decode cX7_standFrom 38 = .ok (.istore_n 3, 1) := by decide +kernel
theorem dX7_standFrom_39 : decode cX7_standFrom 39 = .ok (.iinc 4 1, 3) := by decide +kernel
theorem dX7_standFrom_42 : decode cX7_standFrom 42 = .ok (.goto (-37), 3) := by decide +kernel
theorem dX7_standFrom_45 : decode cX7_standFrom 45 = .ok (.iload_n 3, 1) := by decide +kernel
theorem dX7_standFrom_46 : decode cX7_standFrom 46 = .ok (.ireturn, 1) := by decide +kernel
theorem dX7_soundStand_0 : decode cX7_soundStand 0 = .ok (.iconst 0, 1) := by decide +kernel
theorem dX7_soundStand_1 : decode cX7_soundStand 1 = .ok (.istore_n 2, 1) := by decide +kernel
theorem dX7_soundStand_2 : decode cX7_soundStand 2 = .ok (.iconst 0, 1) := by decide +kernel
theorem dX7_soundStand_3 : decode cX7_soundStand 3 = .ok (.istore_n 3, 1) := by decide +kernel
theorem dX7_soundStand_4 : decode cX7_soundStand 4 = .ok (.iload_n 3, 1) := by decide +kernel
theorem dX7_soundStand_5 : decode cX7_soundStand 5 = .ok (.aload_n 0, 1) := by decide +kernel
theorem dX7_soundStand_6 : decode cX7_soundStand 6 = .ok (.getfield 77, 3) := by decide +kernel
theorem dX7_soundStand_9 : decode cX7_soundStand 9 = .ok (.getfield 154, 3) := by decide +kernel
theorem dX7_soundStand_12 : decode cX7_soundStand 12 = .ok (.if_icmp .ge 61, 3) := by decide +kernel
theorem dX7_soundStand_15 : decode cX7_soundStand 15 = .ok (.aload_n 0, 1) := by decide +kernel
theorem dX7_soundStand_16 : decode cX7_soundStand 16 = .ok (.getfield 14, 3) := by decide +kernel
theorem dX7_soundStand_19 : decode cX7_soundStand 19 = .ok (.iload_n 1, 1) := by decide +kernel
theorem dX7_soundStand_20 : decode cX7_soundStand 20 = .ok (.iload_n 3, 1) := by decide +kernel
theorem dX7_soundStand_21 : decode cX7_soundStand 21 = .ok (.invokevirtual 95, 3) := by decide +kernel
theorem dX7_soundStand_24 : decode cX7_soundStand 24 = .ok (.istore 4, 2) := by decide +kernel
theorem dX7_soundStand_26 : decode cX7_soundStand 26 = .ok (.aload_n 0, 1) := by decide +kernel
theorem dX7_soundStand_27 : decode cX7_soundStand 27 = .ok (.iload 4, 2) := by decide +kernel
theorem dX7_soundStand_29 : decode cX7_soundStand 29 = .ok (.invokevirtual 222, 3) := by decide +kernel
theorem dX7_soundStand_32 : decode cX7_soundStand 32 = .ok (.ifCond .eq 25, 3) := by decide +kernel
theorem dX7_soundStand_35 : decode cX7_soundStand 35 = .ok (.aload_n 0, 1) := by decide +kernel
theorem dX7_soundStand_36 : decode cX7_soundStand 36 = .ok (.getfield 77, 3) := by decide +kernel
theorem dX7_soundStand_39 : decode cX7_soundStand 39 = .ok (.iload 4, 2) := by decide +kernel
theorem dX7_soundStand_41 : decode cX7_soundStand 41 = .ok (.invokevirtual 370, 3) := by decide +kernel
theorem dX7_soundStand_44 : decode cX7_soundStand 44 = .ok (.ifCond .ne 13, 3) := by decide +kernel
theorem dX7_soundStand_47 : decode cX7_soundStand 47 = .ok (.iload_n 2, 1) := by decide +kernel
theorem dX7_soundStand_48 : decode cX7_soundStand 48 = .ok (.iload 4, 2) := by decide +kernel
theorem dX7_soundStand_50 : decode cX7_soundStand 50 = .ok (.ishr, 1) := by decide +kernel
theorem dX7_soundStand_51 : decode cX7_soundStand 51 = .ok (.iconst 1, 1) := by decide +kernel
theorem dX7_soundStand_52 : decode cX7_soundStand 52 = .ok (.iand, 1) := by decide +kernel
theorem dX7_soundStand_53 : decode cX7_soundStand 53 = .ok (.iconst 1, 1) := by decide +kernel
theorem dX7_soundStand_54 : decode cX7_soundStand 54 = .ok (.if_icmp .ne 6, 3) := by decide +kernel
theorem dX7_soundStand_57 : decode cX7_soundStand 57 = .ok (.bipush (-9), 2) := by decide +kernel
theorem dX7_soundStand_59 : decode cX7_soundStand 59 = .ok (.ireturn, 1) := by decide +kernel
theorem dX7_soundStand_60 : decode cX7_soundStand 60 = .ok (.iload_n 2, 1) := by decide +kernel
theorem dX7_soundStand_61 : decode cX7_soundStand 61 = .ok (.iconst 1, 1) := by decide +kernel
theorem dX7_soundStand_62 : decode cX7_soundStand 62 = .ok (.iload 4, 2) := by decide +kernel
theorem dX7_soundStand_64 : decode cX7_soundStand 64 = .ok (.ishl, 1) := by decide +kernel
theorem dX7_soundStand_65 : decode cX7_soundStand 65 = .ok (.ior, 1) := by decide +kernel
theorem dX7_soundStand_66 : decode cX7_soundStand 66 = .ok (.istore_n 2, 1) := by decide +kernel
theorem dX7_soundStand_67 : decode cX7_soundStand 67 = .ok (.iinc 3 1, 3) := by decide +kernel
theorem dX7_soundStand_70 : decode cX7_soundStand 70 = .ok (.goto (-66), 3) := by decide +kernel
theorem dX7_soundStand_73 : decode cX7_soundStand 73 = .ok (.aload_n 0, 1) := by decide +kernel
theorem dX7_soundStand_74 : decode cX7_soundStand 74 = .ok (.iload_n 1, 1) := by decide +kernel
theorem dX7_soundStand_75 : decode cX7_soundStand 75 = .ok (.iconst 0, 1) := by decide +kernel
theorem dX7_soundStand_76 : decode cX7_soundStand 76 = .ok (.invokevirtual 309, 3) := by decide +kernel
theorem dX7_soundStand_79 : decode cX7_soundStand 79 = .ok (.istore_n 3, 1) := by decide +kernel
theorem dX7_soundStand_80 : decode cX7_soundStand 80 = .ok (.aload_n 0, 1) := by decide +kernel
theorem dX7_soundStand_81 : decode cX7_soundStand 81 = .ok (.getfield 77, 3) := by decide +kernel
theorem dX7_soundStand_84 : decode cX7_soundStand 84 = .ok (.iload_n 3, 1) := by decide +kernel
theorem dX7_soundStand_85 : decode cX7_soundStand 85 = .ok (.aload_n 0, 1) := by decide +kernel
theorem dX7_soundStand_86 : decode cX7_soundStand 86 = .ok (.getfield 31, 3) := by decide +kernel
theorem dX7_soundStand_89 : decode cX7_soundStand 89 = .ok (.getfield 196, 3) := by decide +kernel
theorem dX7_soundStand_92 : decode cX7_soundStand 92 = .ok (.invokevirtual 312, 3) := by decide +kernel
theorem dX7_soundStand_95 : decode cX7_soundStand 95 = .ok (.ifCond .ne 7, 3) := by decide +kernel
theorem dX7_soundStand_98 : decode cX7_soundStand 98 = .ok (.iload_n 3, 1) := by decide +kernel
theorem dX7_soundStand_99 : decode cX7_soundStand 99 = .ok (.goto 5, 3) := by decide +kernel
theorem dX7_soundStand_102 : decode cX7_soundStand 102 = .ok (.bipush (-9), 2) := by decide +kernel
theorem dX7_soundStand_104 : decode cX7_soundStand 104 = .ok (.ireturn, 1) := by decide +kernel
theorem dX7_fewestKeys_0 : decode cX7_fewestKeys 0 = .ok (.bipush (-9), 2) := by decide +kernel
theorem dX7_fewestKeys_2 : decode cX7_fewestKeys 2 = .ok (.istore_n 3, 1) := by decide +kernel
theorem dX7_fewestKeys_3 : decode cX7_fewestKeys 3 = .ok (.iconst 0, 1) := by decide +kernel
theorem dX7_fewestKeys_4 : decode cX7_fewestKeys 4 = .ok (.istore 4, 2) := by decide +kernel
theorem dX7_fewestKeys_6 : decode cX7_fewestKeys 6 = .ok (.iload 4, 2) := by decide +kernel
theorem dX7_fewestKeys_8 : decode cX7_fewestKeys 8 = .ok (.iconst 1, 1) := by decide +kernel
theorem dX7_fewestKeys_9 : decode cX7_fewestKeys 9 = .ok (.aload_n 0, 1) := by decide +kernel
theorem dX7_fewestKeys_10 : decode cX7_fewestKeys 10 = .ok (.getfield 14, 3) := by decide +kernel
theorem dX7_fewestKeys_13 : decode cX7_fewestKeys 13 = .ok (.iload_n 1, 1) := by decide +kernel
theorem dX7_fewestKeys_14 : decode cX7_fewestKeys 14 = .ok (.invokevirtual 133, 3) := by decide +kernel
theorem dX7_fewestKeys_17 : decode cX7_fewestKeys 17 = .ok (.ishl, 1) := by decide +kernel
theorem dX7_fewestKeys_18 : decode cX7_fewestKeys 18 = .ok (.if_icmp .ge 55, 3) := by decide +kernel
theorem dX7_fewestKeys_21 : decode cX7_fewestKeys 21 = .ok (.iload_n 3, 1) := by decide +kernel
theorem dX7_fewestKeys_22 : decode cX7_fewestKeys 22 = .ok (.bipush (-9), 2) := by decide +kernel
theorem dX7_fewestKeys_24 : decode cX7_fewestKeys 24 = .ok (.if_icmp .eq 15, 3) := by decide +kernel
theorem dX7_fewestKeys_27 : decode cX7_fewestKeys 27 = .ok (.iload 4, 2) := by decide +kernel
theorem dX7_fewestKeys_29 : decode cX7_fewestKeys 29 = .ok (.invokestatic 179, 3) := by decide +kernel
theorem dX7_fewestKeys_32 : decode cX7_fewestKeys 32 = .ok (.iload_n 3, 1) := by decide +kernel
theorem dX7_fewestKeys_33 : decode cX7_fewestKeys 33 = .ok (.invokestatic 179, 3) := by decide +kernel
theorem dX7_fewestKeys_36 : decode cX7_fewestKeys 36 = .ok (.if_icmp .ge 7, 3) := by decide +kernel
theorem dX7_fewestKeys_39 : decode cX7_fewestKeys 39 = .ok (.iconst 1, 1) := by decide +kernel
theorem dX7_fewestKeys_40 : decode cX7_fewestKeys 40 = .ok (.goto 4, 3) := by decide +kernel
theorem dX7_fewestKeys_43 : decode cX7_fewestKeys 43 = .ok (.iconst 0, 1) := by decide +kernel
theorem dX7_fewestKeys_44 : decode cX7_fewestKeys 44 = .ok (.istore 5, 2) := by decide +kernel
theorem dX7_fewestKeys_46 : decode cX7_fewestKeys 46 = .ok (.iload 5, 2) := by decide +kernel
theorem dX7_fewestKeys_48 : decode cX7_fewestKeys 48 = .ok (.ifCond .eq 19, 3) := by decide +kernel
theorem dX7_fewestKeys_51 : decode cX7_fewestKeys 51 = .ok (.aload_n 0, 1) := by decide +kernel
theorem dX7_fewestKeys_52 : decode cX7_fewestKeys 52 = .ok (.iload_n 1, 1) := by decide +kernel
theorem dX7_fewestKeys_53 : decode cX7_fewestKeys 53 = .ok (.iload 4, 2) := by decide +kernel
theorem dX7_fewestKeys_55 : decode cX7_fewestKeys 55 = .ok (.invokevirtual 417, 3) := by decide +kernel
theorem dX7_fewestKeys_58 : decode cX7_fewestKeys 58 = .ok (.iload_n 2, 1) := by decide +kernel
theorem dX7_fewestKeys_59 : decode cX7_fewestKeys 59 = .ok (.iand, 1) := by decide +kernel
theorem dX7_fewestKeys_60 : decode cX7_fewestKeys 60 = .ok (.iload_n 2, 1) := by decide +kernel
theorem dX7_fewestKeys_61 : decode cX7_fewestKeys 61 = .ok (.if_icmp .ne 6, 3) := by decide +kernel
theorem dX7_fewestKeys_64 : decode cX7_fewestKeys 64 = .ok (.iload 4, 2) := by decide +kernel
theorem dX7_fewestKeys_66 : decode cX7_fewestKeys 66 = .ok (.istore_n 3, 1) := by decide +kernel
theorem dX7_fewestKeys_67 : decode cX7_fewestKeys 67 = .ok (.iinc 4 1, 3) := by decide +kernel
theorem dX7_fewestKeys_70 : decode cX7_fewestKeys 70 = .ok (.goto (-64), 3) := by decide +kernel
theorem dX7_fewestKeys_73 : decode cX7_fewestKeys 73 = .ok (.iload_n 3, 1) := by decide +kernel
theorem dX7_fewestKeys_74 : decode cX7_fewestKeys 74 = .ok (.bipush (-9), 2) := by decide +kernel
theorem dX7_fewestKeys_76 : decode cX7_fewestKeys 76 = .ok (.if_icmp .ne 6, 3) := by decide +kernel
theorem dX7_fewestKeys_79 : decode cX7_fewestKeys 79 = .ok (.bipush (-9), 2) := by decide +kernel
theorem dX7_fewestKeys_81 : decode cX7_fewestKeys 81 = .ok (.ireturn, 1) := by decide +kernel
theorem dX7_fewestKeys_82 : decode cX7_fewestKeys 82 = .ok (.aload_n 0, 1) := by decide +kernel
theorem dX7_fewestKeys_83 : decode cX7_fewestKeys 83 = .ok (.iload_n 3, 1) := by decide +kernel
theorem dX7_fewestKeys_84 : decode cX7_fewestKeys 84 = .ok (.putfield 99, 3) := by decide +kernel
theorem dX7_fewestKeys_87 : decode cX7_fewestKeys 87 = .ok (.iload_n 3, 1) := by decide +kernel
theorem dX7_fewestKeys_88 : decode cX7_fewestKeys 88 = .ok (.invokestatic 179, 3) := by decide +kernel
theorem dX7_fewestKeys_91 : decode cX7_fewestKeys 91 = .ok (.ireturn, 1) := by decide +kernel
theorem dX7_opened_0 : decode cX7_opened 0 = .ok (.iconst 0, 1) := by decide +kernel
theorem dX7_opened_1 : decode cX7_opened 1 = .ok (.istore_n 3, 1) := by decide +kernel
theorem dX7_opened_2 : decode cX7_opened 2 = .ok (.iconst 0, 1) := by decide +kernel
theorem dX7_opened_3 : decode cX7_opened 3 = .ok (.istore 4, 2) := by decide +kernel
theorem dX7_opened_5 : decode cX7_opened 5 = .ok (.iload 4, 2) := by decide +kernel
theorem dX7_opened_7 : decode cX7_opened 7 = .ok (.aload_n 0, 1) := by decide +kernel
theorem dX7_opened_8 : decode cX7_opened 8 = .ok (.getfield 14, 3) := by decide +kernel
theorem dX7_opened_11 : decode cX7_opened 11 = .ok (.iload_n 1, 1) := by decide +kernel
theorem dX7_opened_12 : decode cX7_opened 12 = .ok (.invokevirtual 133, 3) := by decide +kernel
theorem dX7_opened_15 : decode cX7_opened 15 = .ok (.if_icmp .ge 32, 3) := by decide +kernel
theorem dX7_opened_18 : decode cX7_opened 18 = .ok (.iload_n 2, 1) := by decide +kernel
theorem dX7_opened_19 : decode cX7_opened 19 = .ok (.iload 4, 2) := by decide +kernel
theorem dX7_opened_21 : decode cX7_opened 21 = .ok (.ishr, 1) := by decide +kernel
theorem dX7_opened_22 : decode cX7_opened 22 = .ok (.iconst 1, 1) := by decide +kernel
theorem dX7_opened_23 : decode cX7_opened 23 = .ok (.iand, 1) := by decide +kernel
theorem dX7_opened_24 : decode cX7_opened 24 = .ok (.iconst 1, 1) := by decide +kernel
theorem dX7_opened_25 : decode cX7_opened 25 = .ok (.if_icmp .ne 16, 3) := by decide +kernel
theorem dX7_opened_28 : decode cX7_opened 28 = .ok (.iload_n 3, 1) := by decide +kernel
theorem dX7_opened_29 : decode cX7_opened 29 = .ok (.aload_n 0, 1) := by decide +kernel
theorem dX7_opened_30 : decode cX7_opened 30 = .ok (.getfield 14, 3) := by decide +kernel
theorem dX7_opened_33 : decode cX7_opened 33 = .ok (.iload_n 1, 1) := by decide +kernel
theorem dX7_opened_34 : decode cX7_opened 34 = .ok (.iload 4, 2) := by decide +kernel
theorem dX7_opened_36 : decode cX7_opened 36 = .ok (.invokevirtual 95, 3) := by decide +kernel
theorem dX7_opened_39 : decode cX7_opened 39 = .ok (.ior, 1) := by decide +kernel
theorem dX7_opened_40 : decode cX7_opened 40 = .ok (.istore_n 3, 1) := by decide +kernel
theorem dX7_opened_41 : decode cX7_opened 41 = .ok (.iinc 4 1, 3) := by decide +kernel
theorem dX7_opened_44 : decode cX7_opened 44 = .ok (.goto (-39), 3) := by decide +kernel
theorem dX7_opened_47 : decode cX7_opened 47 = .ok (.iload_n 3, 1) := by decide +kernel
theorem dX7_opened_48 : decode cX7_opened 48 = .ok (.ireturn, 1) := by decide +kernel
theorem dX7_couldBeFiled_0 : decode cX7_couldBeFiled 0 = .ok (.iconst 0, 1) := by decide +kernel
theorem dX7_couldBeFiled_1 : decode cX7_couldBeFiled 1 = .ok (.istore_n 2, 1) := by decide +kernel
theorem dX7_couldBeFiled_2 : decode cX7_couldBeFiled 2 = .ok (.iconst 0, 1) := by decide +kernel
theorem dX7_couldBeFiled_3 : decode cX7_couldBeFiled 3 = .ok (.istore_n 3, 1) := by decide +kernel
theorem dX7_couldBeFiled_4 : decode cX7_couldBeFiled 4 = .ok (.iload_n 3, 1) := by decide +kernel
theorem dX7_couldBeFiled_5 : decode cX7_couldBeFiled 5 = .ok (.aload_n 0, 1) := by decide +kernel
theorem dX7_couldBeFiled_6 : decode cX7_couldBeFiled 6 = .ok (.getfield 77, 3) := by decide +kernel
theorem dX7_couldBeFiled_9 : decode cX7_couldBeFiled 9 = .ok (.getfield 348, 3) := by decide +kernel
theorem dX7_couldBeFiled_12 : decode cX7_couldBeFiled 12 = .ok (.if_icmp .ge 25, 3) := by decide +kernel
theorem dX7_couldBeFiled_15 : decode cX7_couldBeFiled 15 = .ok (.iload_n 1, 1) := by decide +kernel
theorem dX7_couldBeFiled_16 : decode cX7_couldBeFiled 16 = .ok (.iconst 1, 1) := by decide +kernel
theorem dX7_couldBeFiled_17 : decode cX7_couldBeFiled 17 = .ok (.iload_n 3, 1) := by decide +kernel
theorem dX7_couldBeFiled_18 : decode cX7_couldBeFiled 18 = .ok (.ishl, 1) := by decide +kernel
theorem dX7_couldBeFiled_19 : decode cX7_couldBeFiled 19 = .ok (.iconst (-1), 1) := by decide +kernel
theorem dX7_couldBeFiled_20 : decode cX7_couldBeFiled 20 = .ok (.ixor, 1) := by decide +kernel
theorem dX7_couldBeFiled_21 : decode cX7_couldBeFiled 21 = .ok (.iand, 1) := by decide +kernel
theorem dX7_couldBeFiled_22 : decode cX7_couldBeFiled 22 = .ok (.ifCond .ne 9, 3) := by decide +kernel
theorem dX7_couldBeFiled_25 : decode cX7_couldBeFiled 25 = .ok (.iload_n 2, 1) := by decide +kernel
theorem dX7_couldBeFiled_26 : decode cX7_couldBeFiled 26 = .ok (.iconst 1, 1) := by decide +kernel
theorem dX7_couldBeFiled_27 : decode cX7_couldBeFiled 27 = .ok (.iload_n 3, 1) := by decide +kernel
theorem dX7_couldBeFiled_28 : decode cX7_couldBeFiled 28 = .ok (.ishl, 1) := by decide +kernel
theorem dX7_couldBeFiled_29 : decode cX7_couldBeFiled 29 = .ok (.ior, 1) := by decide +kernel
theorem dX7_couldBeFiled_30 : decode cX7_couldBeFiled 30 = .ok (.istore_n 2, 1) := by decide +kernel
theorem dX7_couldBeFiled_31 : decode cX7_couldBeFiled 31 = .ok (.iinc 3 1, 3) := by decide +kernel
theorem dX7_couldBeFiled_34 : decode cX7_couldBeFiled 34 = .ok (.goto (-30), 3) := by decide +kernel
theorem dX7_couldBeFiled_37 : decode cX7_couldBeFiled 37 = .ok (.iload_n 2, 1) := by decide +kernel
theorem dX7_couldBeFiled_38 : decode cX7_couldBeFiled 38 = .ok (.aload_n 0, 1) := by decide +kernel
theorem dX7_couldBeFiled_39 : decode cX7_couldBeFiled 39 = .ok (.invokevirtual 297, 3) := by decide +kernel
theorem dX7_couldBeFiled_42 : decode cX7_couldBeFiled 42 = .ok (.iand, 1) := by decide +kernel
theorem dX7_couldBeFiled_43 : decode cX7_couldBeFiled 43 = .ok (.ireturn, 1) := by decide +kernel
theorem dX7_manAt_0 : decode cX7_manAt 0 = .ok (.iload_n 1, 1) := by decide +kernel
theorem dX7_manAt_1 : decode cX7_manAt 1 = .ok (.iconst 2, 1) := by decide +kernel
theorem dX7_manAt_2 : decode cX7_manAt 2 = .ok (.aload_n 0, 1) := by decide +kernel
theorem dX7_manAt_3 : decode cX7_manAt 3 = .ok (.getfield 77, 3) := by decide +kernel
theorem dX7_manAt_6 : decode cX7_manAt 6 = .ok (.getfield 154, 3) := by decide +kernel
theorem dX7_manAt_9 : decode cX7_manAt 9 = .ok (.iconst 1, 1) := by decide +kernel
theorem dX7_manAt_10 : decode cX7_manAt 10 = .ok (.isub, 1) := by decide +kernel
theorem dX7_manAt_11 : decode cX7_manAt 11 = .ok (.iload_n 2, 1) := by decide +kernel
theorem dX7_manAt_12 : decode cX7_manAt 12 = .ok (.isub, 1) := by decide +kernel
theorem dX7_manAt_13 : decode cX7_manAt 13 = .ok (.imul, 1) := by decide +kernel
theorem dX7_manAt_14 : decode cX7_manAt 14 = .ok (.ishr, 1) := by decide +kernel
theorem dX7_manAt_15 : decode cX7_manAt 15 = .ok (.iconst 3, 1) := by decide +kernel
theorem dX7_manAt_16 : decode cX7_manAt 16 = .ok (.iand, 1) := by decide +kernel
theorem dX7_manAt_17 : decode cX7_manAt 17 = .ok (.ireturn, 1) := by decide +kernel
theorem dX7_isOrderOfMen_0 : decode cX7_isOrderOfMen 0 = .ok (.iconst 0, 1) := by decide +kernel
theorem dX7_isOrderOfMen_1 : decode cX7_isOrderOfMen 1 = .ok (.istore_n 2, 1) := by decide +kernel
theorem dX7_isOrderOfMen_2 : decode cX7_isOrderOfMen 2 = .ok (.iconst 0, 1) := by decide +kernel
theorem dX7_isOrderOfMen_3 : decode cX7_isOrderOfMen 3 = .ok (.istore_n 3, 1) := by decide +kernel
theorem dX7_isOrderOfMen_4 : decode cX7_isOrderOfMen 4 = .ok (.iload_n 3, 1) := by decide +kernel
theorem dX7_isOrderOfMen_5 : decode cX7_isOrderOfMen 5 = .ok (.aload_n 0, 1) := by decide +kernel
theorem dX7_isOrderOfMen_6 : decode cX7_isOrderOfMen 6 = .ok (.getfield 77, 3) := by decide +kernel
theorem dX7_isOrderOfMen_9 : decode cX7_isOrderOfMen 9 = .ok (.getfield 154, 3) := by decide +kernel
theorem dX7_isOrderOfMen_12 : decode cX7_isOrderOfMen 12 = .ok (.if_icmp .ge 20, 3) := by decide +kernel
theorem dX7_isOrderOfMen_15 : decode cX7_isOrderOfMen 15 = .ok (.iload_n 2, 1) := by decide +kernel
theorem dX7_isOrderOfMen_16 : decode cX7_isOrderOfMen 16 = .ok (.iconst 1, 1) := by decide +kernel
theorem dX7_isOrderOfMen_17 : decode cX7_isOrderOfMen 17 = .ok (.aload_n 0, 1) := by decide +kernel
theorem dX7_isOrderOfMen_18 : decode cX7_isOrderOfMen 18 = .ok (.iload_n 1, 1) := by decide +kernel
theorem dX7_isOrderOfMen_19 : decode cX7_isOrderOfMen 19 = .ok (.iload_n 3, 1) := by decide +kernel
theorem dX7_isOrderOfMen_20 : decode cX7_isOrderOfMen 20 = .ok (.invokevirtual 330, 3) := by decide +kernel
theorem dX7_isOrderOfMen_23 : decode cX7_isOrderOfMen 23 = .ok (.ishl, 1) := by decide +kernel
theorem dX7_isOrderOfMen_24 : decode cX7_isOrderOfMen 24 = .ok (.ior, 1) := by decide +kernel
theorem dX7_isOrderOfMen_25 : decode cX7_isOrderOfMen 25 = .ok (.istore_n 2, 1) := by decide +kernel
theorem dX7_isOrderOfMen_26 : decode cX7_isOrderOfMen 26 = .ok (.iinc 3 1, 3) := by decide +kernel
theorem dX7_isOrderOfMen_29 : decode cX7_isOrderOfMen 29 = .ok (.goto (-25), 3) := by decide +kernel
theorem dX7_isOrderOfMen_32 : decode cX7_isOrderOfMen 32 = .ok (.iload_n 2, 1) := by decide +kernel
theorem dX7_isOrderOfMen_33 : decode cX7_isOrderOfMen 33 = .ok (.iconst 1, 1) := by decide +kernel
theorem dX7_isOrderOfMen_34 : decode cX7_isOrderOfMen 34 = .ok (.aload_n 0, 1) := by decide +kernel
theorem dX7_isOrderOfMen_35 : decode cX7_isOrderOfMen 35 = .ok (.getfield 77, 3) := by decide +kernel
theorem dX7_isOrderOfMen_38 : decode cX7_isOrderOfMen 38 = .ok (.getfield 154, 3) := by decide +kernel
theorem dX7_isOrderOfMen_41 : decode cX7_isOrderOfMen 41 = .ok (.ishl, 1) := by decide +kernel
theorem dX7_isOrderOfMen_42 : decode cX7_isOrderOfMen 42 = .ok (.iconst 1, 1) := by decide +kernel
theorem dX7_isOrderOfMen_43 : decode cX7_isOrderOfMen 43 = .ok (.isub, 1) := by decide +kernel
theorem dX7_isOrderOfMen_44 : decode cX7_isOrderOfMen 44 = .ok (.if_icmp .ne 7, 3) := by decide +kernel
theorem dX7_isOrderOfMen_47 : decode cX7_isOrderOfMen 47 = .ok (.iconst 1, 1) := by decide +kernel
theorem dX7_isOrderOfMen_48 : decode cX7_isOrderOfMen 48 = .ok (.goto 4, 3) := by decide +kernel
theorem dX7_isOrderOfMen_51 : decode cX7_isOrderOfMen 51 = .ok (.iconst 0, 1) := by decide +kernel
theorem dX7_isOrderOfMen_52 : decode cX7_isOrderOfMen 52 = .ok (.ireturn, 1) := by decide +kernel
theorem dX7_quarrelsIn_0 : decode cX7_quarrelsIn 0 = .ok (.iconst 0, 1) := by decide +kernel
theorem dX7_quarrelsIn_1 : decode cX7_quarrelsIn 1 = .ok (.istore_n 2, 1) := by decide +kernel
theorem dX7_quarrelsIn_2 : decode cX7_quarrelsIn 2 = .ok (.iconst 0, 1) := by decide +kernel
theorem dX7_quarrelsIn_3 : decode cX7_quarrelsIn 3 = .ok (.istore_n 3, 1) := by decide +kernel
theorem dX7_quarrelsIn_4 : decode cX7_quarrelsIn 4 = .ok (.iload_n 3, 1) := by decide +kernel
theorem dX7_quarrelsIn_5 : decode cX7_quarrelsIn 5 = .ok (.aload_n 0, 1) := by decide +kernel
theorem dX7_quarrelsIn_6 : decode cX7_quarrelsIn 6 = .ok (.getfield 151, 3) := by decide +kernel
theorem dX7_quarrelsIn_9 : decode cX7_quarrelsIn 9 = .ok (.if_icmp .ge 114, 3) := by decide +kernel
theorem dX7_quarrelsIn_12 : decode cX7_quarrelsIn 12 = .ok (.iconst 0, 1) := by decide +kernel
theorem dX7_quarrelsIn_13 : decode cX7_quarrelsIn 13 = .ok (.istore 4, 2) := by decide +kernel
theorem dX7_quarrelsIn_15 : decode cX7_quarrelsIn 15 = .ok (.iload 4, 2) := by decide +kernel
theorem dX7_quarrelsIn_17 : decode cX7_quarrelsIn 17 = .ok (.aload_n 0, 1) := by decide +kernel
theorem dX7_quarrelsIn_18 : decode cX7_quarrelsIn 18 = .ok (.getfield 77, 3) := by decide +kernel
theorem dX7_quarrelsIn_21 : decode cX7_quarrelsIn 21 = .ok (.getfield 348, 3) := by decide +kernel
theorem dX7_quarrelsIn_24 : decode cX7_quarrelsIn 24 = .ok (.if_icmp .ge 93, 3) := by decide +kernel
theorem dX7_quarrelsIn_27 : decode cX7_quarrelsIn 27 = .ok (.aload_n 0, 1) := by decide +kernel
theorem dX7_quarrelsIn_28 : decode cX7_quarrelsIn 28 = .ok (.iload_n 1, 1) := by decide +kernel
theorem dX7_quarrelsIn_29 : decode cX7_quarrelsIn 29 = .ok (.iload 4, 2) := by decide +kernel
theorem dX7_quarrelsIn_31 : decode cX7_quarrelsIn 31 = .ok (.invokevirtual 330, 3) := by decide +kernel
theorem dX7_quarrelsIn_34 : decode cX7_quarrelsIn 34 = .ok (.istore 5, 2) := by decide +kernel
theorem dX7_quarrelsIn_36 : decode cX7_quarrelsIn 36 = .ok (.aload_n 0, 1) := by decide +kernel
theorem dX7_quarrelsIn_37 : decode cX7_quarrelsIn 37 = .ok (.iload_n 1, 1) := by decide +kernel
theorem dX7_quarrelsIn_38 : decode cX7_quarrelsIn 38 = .ok (.aload_n 0, 1) := by decide +kernel
theorem dX7_quarrelsIn_39 : decode cX7_quarrelsIn 39 = .ok (.getfield 77, 3) := by decide +kernel
theorem dX7_quarrelsIn_42 : decode cX7_quarrelsIn 42 = .ok (.iload 4, 2) := by decide +kernel
theorem dX7_quarrelsIn_44 : decode cX7_quarrelsIn 44 = .ok (.invokevirtual 405, 3) := by decide +kernel
theorem dX7_quarrelsIn_47 : decode cX7_quarrelsIn 47 = .ok (.invokevirtual 330, 3) := by decide +kernel
theorem dX7_quarrelsIn_50 : decode cX7_quarrelsIn 50 = .ok (.istore 6, 2) := by decide +kernel
theorem dX7_quarrelsIn_52 : decode cX7_quarrelsIn 52 = .ok (.iload 5, 2) := by decide +kernel
theorem dX7_quarrelsIn_54 : decode cX7_quarrelsIn 54 = .ok (.aload_n 0, 1) := by decide +kernel
theorem dX7_quarrelsIn_55 : decode cX7_quarrelsIn 55 = .ok (.getfield 64, 3) := by decide +kernel
theorem dX7_quarrelsIn_58 : decode cX7_quarrelsIn 58 = .ok (.iload_n 3, 1) := by decide +kernel
theorem dX7_quarrelsIn_59 : decode cX7_quarrelsIn 59 = .ok (.iaload, 1) := by decide +kernel
theorem dX7_quarrelsIn_60 : decode cX7_quarrelsIn 60 = .ok (.if_icmp .ne 18, 3) := by decide +kernel
theorem dX7_quarrelsIn_63 : decode cX7_quarrelsIn 63 = .ok (.iload 6, 2) := by decide +kernel
theorem dX7_quarrelsIn_65 : decode cX7_quarrelsIn 65 = .ok (.aload_n 0, 1) := by decide +kernel
theorem dX7_quarrelsIn_66 : decode cX7_quarrelsIn 66 = .ok (.getfield 68, 3) := by decide +kernel
theorem dX7_quarrelsIn_69 : decode cX7_quarrelsIn 69 = .ok (.iload_n 3, 1) := by decide +kernel
theorem dX7_quarrelsIn_70 : decode cX7_quarrelsIn 70 = .ok (.iaload, 1) := by decide +kernel
theorem dX7_quarrelsIn_71 : decode cX7_quarrelsIn 71 = .ok (.if_icmp .ne 7, 3) := by decide +kernel
theorem dX7_quarrelsIn_74 : decode cX7_quarrelsIn 74 = .ok (.iconst 1, 1) := by decide +kernel
theorem dX7_quarrelsIn_75 : decode cX7_quarrelsIn 75 = .ok (.goto 4, 3) := by decide +kernel
theorem dX7_quarrelsIn_78 : decode cX7_quarrelsIn 78 = .ok (.iconst 0, 1) := by decide +kernel
theorem dX7_quarrelsIn_79 : decode cX7_quarrelsIn 79 = .ok (.istore 7, 2) := by decide +kernel
theorem dX7_quarrelsIn_81 : decode cX7_quarrelsIn 81 = .ok (.iload 7, 2) := by decide +kernel
theorem dX7_quarrelsIn_83 : decode cX7_quarrelsIn 83 = .ok (.ifCond .ne 25, 3) := by decide +kernel
theorem dX7_quarrelsIn_86 : decode cX7_quarrelsIn 86 = .ok (.iload 5, 2) := by decide +kernel
theorem dX7_quarrelsIn_88 : decode cX7_quarrelsIn 88 = .ok (.aload_n 0, 1) := by decide +kernel
theorem dX7_quarrelsIn_89 : decode cX7_quarrelsIn 89 = .ok (.getfield 68, 3) := by decide +kernel
theorem dX7_quarrelsIn_92 : decode cX7_quarrelsIn 92 = .ok (.iload_n 3, 1) := by decide +kernel
theorem dX7_quarrelsIn_93 : decode cX7_quarrelsIn 93 = .ok (.iaload, 1) := by decide +kernel
theorem dX7_quarrelsIn_94 : decode cX7_quarrelsIn 94 = .ok (.if_icmp .ne 17, 3) := by decide +kernel
theorem dX7_quarrelsIn_97 : decode cX7_quarrelsIn 97 = .ok (.iload 6, 2) := by decide +kernel
theorem dX7_quarrelsIn_99 : decode cX7_quarrelsIn 99 = .ok (.aload_n 0, 1) := by decide +kernel
theorem dX7_quarrelsIn_100 : decode cX7_quarrelsIn 100 = .ok (.getfield 64, 3) := by decide +kernel
theorem dX7_quarrelsIn_103 : decode cX7_quarrelsIn 103 = .ok (.iload_n 3, 1) := by decide +kernel
theorem dX7_quarrelsIn_104 : decode cX7_quarrelsIn 104 = .ok (.iaload, 1) := by decide +kernel
theorem dX7_quarrelsIn_105 : decode cX7_quarrelsIn 105 = .ok (.if_icmp .ne 6, 3) := by decide +kernel
theorem dX7_quarrelsIn_108 : decode cX7_quarrelsIn 108 = .ok (.iinc 2 1, 3) := by decide +kernel
theorem dX7_quarrelsIn_111 : decode cX7_quarrelsIn 111 = .ok (.iinc 4 1, 3) := by decide +kernel
theorem dX7_quarrelsIn_114 : decode cX7_quarrelsIn 114 = .ok (.goto (-99), 3) := by decide +kernel
theorem dX7_quarrelsIn_117 : decode cX7_quarrelsIn 117 = .ok (.iinc 3 1, 3) := by decide +kernel
theorem dX7_quarrelsIn_120 : decode cX7_quarrelsIn 120 = .ok (.goto (-116), 3) := by decide +kernel
theorem dX7_quarrelsIn_123 : decode cX7_quarrelsIn 123 = .ok (.iload_n 2, 1) := by decide +kernel
theorem dX7_quarrelsIn_124 : decode cX7_quarrelsIn 124 = .ok (.ireturn, 1) := by decide +kernel
theorem dX8_init_0 : decode cX8_init 0 = .ok (.aload_n 0, 1) := by decide +kernel
theorem dX8_init_1 : decode cX8_init 1 = .ok (.invokespecial 1, 3) := by decide +kernel
theorem dX8_init_4 : decode cX8_init 4 = .ok (.aload_n 0, 1) := by decide +kernel
theorem dX8_init_5 : decode cX8_init 5 = .ok (.bipush 6, 2) := by decide +kernel
theorem dX8_init_7 : decode cX8_init 7 = .ok (.newarray .int, 2) := by decide +kernel
theorem dX8_init_9 : decode cX8_init 9 = .ok (.putfield 7, 3) := by decide +kernel
theorem dX8_init_12 : decode cX8_init 12 = .ok (.aload_n 0, 1) := by decide +kernel
theorem dX8_init_13 : decode cX8_init 13 = .ok (.bipush 6, 2) := by decide +kernel
theorem dX8_init_15 : decode cX8_init 15 = .ok (.newarray .int, 2) := by decide +kernel
theorem dX8_init_17 : decode cX8_init 17 = .ok (.putfield 13, 3) := by decide +kernel
theorem dX8_init_20 : decode cX8_init 20 = .ok (.aload_n 0, 1) := by decide +kernel
theorem dX8_init_21 : decode cX8_init 21 = .ok (.sipush 240, 3) := by decide +kernel
theorem dX8_init_24 : decode cX8_init 24 = .ok (.newarray .int, 2) := by decide +kernel
theorem dX8_init_26 : decode cX8_init 26 = .ok (.putfield 16, 3) := by decide +kernel
theorem dX8_init_29 : decode cX8_init 29 = .ok (.aload_n 0, 1) := by decide +kernel
theorem dX8_init_30 : decode cX8_init 30 = .ok (.bipush 40, 2) := by decide +kernel
theorem dX8_init_32 : decode cX8_init 32 = .ok (.newarray .int, 2) := by decide +kernel
theorem dX8_init_34 : decode cX8_init 34 = .ok (.putfield 19, 3) := by decide +kernel
theorem dX8_init_37 : decode cX8_init 37 = .ok (.aload_n 0, 1) := by decide +kernel
theorem dX8_init_38 : decode cX8_init 38 = .ok (.iconst 4, 1) := by decide +kernel
theorem dX8_init_39 : decode cX8_init 39 = .ok (.newarray .int, 2) := by decide +kernel
theorem dX8_init_41 : decode cX8_init 41 = .ok (.putfield 22, 3) := by decide +kernel
theorem dX8_init_44 : decode cX8_init 44 = .ok (.aload_n 0, 1) := by decide +kernel
theorem dX8_init_45 : decode cX8_init 45 = .ok (.sipush 160, 3) := by decide +kernel
theorem dX8_init_48 : decode cX8_init 48 = .ok (.newarray .byte, 2) := by decide +kernel
theorem dX8_init_50 : decode cX8_init 50 = .ok (.putfield 25, 3) := by decide +kernel
theorem dX8_init_53 : decode cX8_init 53 = .ok (.aload_n 0, 1) := by decide +kernel
theorem dX8_init_54 : decode cX8_init 54 = .ok (.bipush 12, 2) := by decide +kernel
theorem dX8_init_56 : decode cX8_init 56 = .ok (.newarray .int, 2) := by decide +kernel
theorem dX8_init_58 : decode cX8_init 58 = .ok (.putfield 29, 3) := by decide +kernel
theorem dX8_init_61 : decode cX8_init 61 = .ok (.aload_n 0, 1) := by decide +kernel
theorem dX8_init_62 : decode cX8_init 62 = .ok (.iconst 4, 1) := by decide +kernel
theorem dX8_init_63 : decode cX8_init 63 = .ok (.newarray .int, 2) := by decide +kernel
theorem dX8_init_65 : decode cX8_init 65 = .ok (.putfield 32, 3) := by decide +kernel
theorem dX8_init_68 : decode cX8_init 68 = .ok (.aload_n 0, 1) := by decide +kernel
theorem dX8_init_69 : decode cX8_init 69 = .ok (.iconst 4, 1) := by decide +kernel
theorem dX8_init_70 : decode cX8_init 70 = .ok (.newarray .int, 2) := by decide +kernel
theorem dX8_init_72 : decode cX8_init 72 = .ok (.putfield 35, 3) := by decide +kernel
theorem dX8_init_75 : decode cX8_init 75 = .ok (.aload_n 0, 1) := by decide +kernel
theorem dX8_init_76 : decode cX8_init 76 = .ok (.iconst 4, 1) := by decide +kernel
theorem dX8_init_77 : decode cX8_init 77 = .ok (.newarray .int, 2) := by decide +kernel
theorem dX8_init_79 : decode cX8_init 79 = .ok (.putfield 38, 3) := by decide +kernel
theorem dX8_init_82 : decode cX8_init 82 = .ok (.aload_n 0, 1) := by decide +kernel
theorem dX8_init_83 : decode cX8_init 83 = .ok (.iconst 4, 1) := by decide +kernel
theorem dX8_init_84 : decode cX8_init 84 = .ok (.newarray .int, 2) := by decide +kernel
theorem dX8_init_86 : decode cX8_init 86 = .ok (.putfield 41, 3) := by decide +kernel
theorem dX8_init_89 : decode cX8_init 89 = .ok (.aload_n 0, 1) := by decide +kernel
theorem dX8_init_90 : decode cX8_init 90 = .ok (.bipush 12, 2) := by decide +kernel
theorem dX8_init_92 : decode cX8_init 92 = .ok (.newarray .int, 2) := by decide +kernel
theorem dX8_init_94 : decode cX8_init 94 = .ok (.putfield 44, 3) := by decide +kernel
theorem dX8_init_97 : decode cX8_init 97 = .ok (.aload_n 0, 1) := by decide +kernel
theorem dX8_init_98 : decode cX8_init 98 = .ok (.iconst 4, 1) := by decide +kernel
theorem dX8_init_99 : decode cX8_init 99 = .ok (.newarray .int, 2) := by decide +kernel
theorem dX8_init_101 : decode cX8_init 101 = .ok (.putfield 47, 3) := by decide +kernel
theorem dX8_init_104 : decode cX8_init 104 = .ok (.aload_n 0, 1) := by decide +kernel
theorem dX8_init_105 : decode cX8_init 105 = .ok (.iconst 4, 1) := by decide +kernel
theorem dX8_init_106 : decode cX8_init 106 = .ok (.newarray .int, 2) := by decide +kernel
theorem dX8_init_108 : decode cX8_init 108 = .ok (.putfield 50, 3) := by decide +kernel
theorem dX8_init_111 : decode cX8_init 111 = .ok (.aload_n 0, 1) := by decide +kernel
theorem dX8_init_112 : decode cX8_init 112 = .ok (.iconst 4, 1) := by decide +kernel
theorem dX8_init_113 : decode cX8_init 113 = .ok (.newarray .int, 2) := by decide +kernel
theorem dX8_init_115 : decode cX8_init 115 = .ok (.putfield 53, 3) := by decide +kernel
theorem dX8_init_118 : decode cX8_init 118 = .ok (.aload_n 0, 1) := by decide +kernel
theorem dX8_init_119 : decode cX8_init 119 = .ok (.iconst 4, 1) := by decide +kernel
theorem dX8_init_120 : decode cX8_init 120 = .ok (.newarray .int, 2) := by decide +kernel
theorem dX8_init_122 : decode cX8_init 122 = .ok (.putfield 56, 3) := by decide +kernel
theorem dX8_init_125 : decode cX8_init 125 = .ok (.aload_n 0, 1) := by decide +kernel
theorem dX8_init_126 : decode cX8_init 126 = .ok (.bipush 60, 2) := by decide +kernel
theorem dX8_init_128 : decode cX8_init 128 = .ok (.newarray .int, 2) := by decide +kernel
theorem dX8_init_130 : decode cX8_init 130 = .ok (.putfield 59, 3) := by decide +kernel
theorem dX8_init_133 : decode cX8_init 133 = .ok (.aload_n 0, 1) := by decide +kernel
theorem dX8_init_134 : decode cX8_init 134 = .ok (.sipush 240, 3) := by decide +kernel
theorem dX8_init_137 : decode cX8_init 137 = .ok (.newarray .int, 2) := by decide +kernel
theorem dX8_init_139 : decode cX8_init 139 = .ok (.putfield 62, 3) := by decide +kernel
theorem dX8_init_142 : decode cX8_init 142 = .ok (.aload_n 0, 1) := by decide +kernel
theorem dX8_init_143 : decode cX8_init 143 = .ok (.iconst 3, 1) := by decide +kernel
theorem dX8_init_144 : decode cX8_init 144 = .ok (.newarray .boolean, 2) := by decide +kernel
theorem dX8_init_146 : decode cX8_init 146 = .ok (.putfield 65, 3) := by decide +kernel
theorem dX8_init_149 : decode cX8_init 149 = .ok (.aload_n 0, 1) := by decide +kernel
theorem dX8_init_150 : decode cX8_init 150 = .ok (.iconst 3, 1) := by decide +kernel
theorem dX8_init_151 : decode cX8_init 151 = .ok (.newarray .int, 2) := by decide +kernel
theorem dX8_init_153 : decode cX8_init 153 = .ok (.putfield 69, 3) := by decide +kernel
theorem dX8_init_156 : decode cX8_init 156 = .ok (.aload_n 0, 1) := by decide +kernel
theorem dX8_init_157 : decode cX8_init 157 = .ok (.iconst 3, 1) := by decide +kernel
theorem dX8_init_158 : decode cX8_init 158 = .ok (.newarray .int, 2) := by decide +kernel
theorem dX8_init_160 : decode cX8_init 160 = .ok (.putfield 72, 3) := by decide +kernel
theorem dX8_init_163 : decode cX8_init 163 = .ok (.aload_n 0, 1) := by decide +kernel
theorem dX8_init_164 : decode cX8_init 164 = .ok (.bipush 12, 2) := by decide +kernel
theorem dX8_init_166 : decode cX8_init 166 = .ok (.newarray .int, 2) := by decide +kernel
theorem dX8_init_168 : decode cX8_init 168 = .ok (.putfield 75, 3) := by decide +kernel
theorem dX8_init_171 : decode cX8_init 171 = .ok (.aload_n 0, 1) := by decide +kernel
theorem dX8_init_172 : decode cX8_init 172 = .ok (.bipush 12, 2) := by decide +kernel
theorem dX8_init_174 : decode cX8_init 174 = .ok (.newarray .int, 2) := by decide +kernel
theorem dX8_init_176 : decode cX8_init 176 = .ok (.putfield 78, 3) := by decide +kernel
theorem dX8_init_179 : decode cX8_init 179 = .ok (.aload_n 0, 1) := by decide +kernel
theorem dX8_init_180 : decode cX8_init 180 = .ok (.sipush 180, 3) := by decide +kernel
theorem dX8_init_183 : decode cX8_init 183 = .ok (.newarray .int, 2) := by decide +kernel
theorem dX8_init_185 : decode cX8_init 185 = .ok (.putfield 81, 3) := by decide +kernel
theorem dX8_init_188 : decode cX8_init 188 = .ok (.aload_n 0, 1) := by decide +kernel
theorem dX8_init_189 : decode cX8_init 189 = .ok (.sipush 720, 3) := by decide +kernel
theorem dX8_init_192 : decode cX8_init 192 = .ok (.newarray .int, 2) := by decide +kernel
theorem dX8_init_194 : decode cX8_init 194 = .ok (.putfield 84, 3) := by decide +kernel
theorem dX8_init_197 : decode cX8_init 197 = .ok (.aload_n 0, 1) := by decide +kernel
theorem dX8_init_198 : decode cX8_init 198 = .ok (.sipush 20736, 3) := by decide +kernel
theorem dX8_init_201 : decode cX8_init 201 = .ok (.newarray .int, 2) := by decide +kernel
theorem dX8_init_203 : decode cX8_init 203 = .ok (.putfield 87, 3) := by decide +kernel
theorem dX8_init_206 : decode cX8_init 206 = .ok (.aload_n 0, 1) := by decide +kernel
theorem dX8_init_207 : decode cX8_init 207 = .ok (.sipush 20736, 3) := by decide +kernel
theorem dX8_init_210 : decode cX8_init 210 = .ok (.newarray .int, 2) := by decide +kernel
theorem dX8_init_212 : decode cX8_init 212 = .ok (.putfield 90, 3) := by decide +kernel
theorem dX8_init_215 : decode cX8_init 215 = .ok (.aload_n 0, 1) := by decide +kernel
theorem dX8_init_216 : decode cX8_init 216 = .ok (.sipush 20736, 3) := by decide +kernel
theorem dX8_init_219 : decode cX8_init 219 = .ok (.newarray .int, 2) := by decide +kernel
theorem dX8_init_221 : decode cX8_init 221 = .ok (.putfield 93, 3) := by decide +kernel
theorem dX8_init_224 : decode cX8_init 224 = .ok (.aload_n 0, 1) := by decide +kernel
theorem dX8_init_225 : decode cX8_init 225 = .ok (.sipush 20736, 3) := by decide +kernel
theorem dX8_init_228 : decode cX8_init 228 = .ok (.newarray .int, 2) := by decide +kernel
theorem dX8_init_230 : decode cX8_init 230 = .ok (.putfield 96, 3) := by decide +kernel
theorem dX8_init_233 : decode cX8_init 233 = .ok (.aload_n 0, 1) := by decide +kernel
theorem dX8_init_234 : decode cX8_init 234 = .ok (.iconst 4, 1) := by decide +kernel
theorem dX8_init_235 : decode cX8_init 235 = .ok (.newarray .int, 2) := by decide +kernel
theorem dX8_init_237 : decode cX8_init 237 = .ok (.putfield 99, 3) := by decide +kernel
theorem dX8_init_240 : decode cX8_init 240 = .ok (.aload_n 0, 1) := by decide +kernel
theorem dX8_init_241 : decode cX8_init 241 = .ok (.iconst 5, 1) := by decide +kernel
theorem dX8_init_242 : decode cX8_init 242 = .ok (.newarray .int, 2) := by decide +kernel
theorem dX8_init_244 : decode cX8_init 244 = .ok (.putfield 102, 3) := by decide +kernel
theorem dX8_init_247 : decode cX8_init 247 = .ok (.aload_n 0, 1) := by decide +kernel
theorem dX8_init_248 : decode cX8_init 248 = .ok (.bipush 6, 2) := by decide +kernel
theorem dX8_init_250 : decode cX8_init 250 = .ok (.newarray .int, 2) := by decide +kernel
theorem dX8_init_252 : decode cX8_init 252 = .ok (.putfield 105, 3) := by decide +kernel
theorem dX8_init_255 : decode cX8_init 255 = .ok (.aload_n 0, 1) := by decide +kernel
theorem dX8_init_256 : decode cX8_init 256 = .ok (.bipush 6, 2) := by decide +kernel
theorem dX8_init_258 : decode cX8_init 258 = .ok (.newarray .int, 2) := by decide +kernel
theorem dX8_init_260 : decode cX8_init 260 = .ok (.putfield 108, 3) := by decide +kernel
theorem dX8_init_263 : decode cX8_init 263 = .ok (.aload_n 0, 1) := by decide +kernel
theorem dX8_init_264 : decode cX8_init 264 = .ok (.iconst 5, 1) := by decide +kernel
theorem dX8_init_265 : decode cX8_init 265 = .ok (.newarray .int, 2) := by decide +kernel
theorem dX8_init_267 : decode cX8_init 267 = .ok (.putfield 111, 3) := by decide +kernel
theorem dX8_init_270 : decode cX8_init 270 = .ok (.aload_n 0, 1) := by decide +kernel
theorem dX8_init_271 : decode cX8_init 271 = .ok (.iconst 5, 1) := by decide +kernel
theorem dX8_init_272 : decode cX8_init 272 = .ok (.newarray .int, 2) := by decide +kernel
theorem dX8_init_274 : decode cX8_init 274 = .ok (.putfield 114, 3) := by decide +kernel
theorem dX8_init_277 : decode cX8_init 277 = .ok (.aload_n 0, 1) := by decide +kernel
theorem dX8_init_278 : decode cX8_init 278 = .ok (.bipush 8, 2) := by decide +kernel
theorem dX8_init_280 : decode cX8_init 280 = .ok (.newarray .int, 2) := by decide +kernel
theorem dX8_init_282 : decode cX8_init 282 = .ok (.putfield 117, 3) := by decide +kernel
theorem dX8_init_285 : decode cX8_init 285 = .ok (.aload_n 0, 1) := by decide +kernel
theorem dX8_init_286 : decode cX8_init 286 = .ok (.bipush 8, 2) := by decide +kernel
theorem dX8_init_288 : decode cX8_init 288 = .ok (.newarray .int, 2) := by decide +kernel
theorem dX8_init_290 : decode cX8_init 290 = .ok (.putfield 120, 3) := by decide +kernel
theorem dX8_init_293 : decode cX8_init 293 = .ok (.aload_n 0, 1) := by decide +kernel
theorem dX8_init_294 : decode cX8_init 294 = .ok (.iconst 4, 1) := by decide +kernel
theorem dX8_init_295 : decode cX8_init 295 = .ok (.newarray .int, 2) := by decide +kernel
theorem dX8_init_297 : decode cX8_init 297 = .ok (.putfield 123, 3) := by decide +kernel
theorem dX8_init_300 : decode cX8_init 300 = .ok (.aload_n 0, 1) := by decide +kernel
theorem dX8_init_301 : decode cX8_init 301 = .ok (.iconst 4, 1) := by decide +kernel
theorem dX8_init_302 : decode cX8_init 302 = .ok (.newarray .int, 2) := by decide +kernel
theorem dX8_init_304 : decode cX8_init 304 = .ok (.putfield 126, 3) := by decide +kernel
theorem dX8_init_307 : decode cX8_init 307 = .ok (.iconst 0, 1) := by decide +kernel
theorem dX8_init_308 : decode cX8_init 308 = .ok (.istore_n 1, 1) := by decide +kernel
theorem dX8_init_309 : decode cX8_init 309 = .ok (.iload_n 1, 1) := by decide +kernel
theorem dX8_init_310 : decode cX8_init 310 = .ok (.bipush 6, 2) := by decide +kernel
theorem dX8_init_312 : decode cX8_init 312 = .ok (.if_icmp .ge 16, 3) := by decide +kernel
theorem dX8_init_315 : decode cX8_init 315 = .ok (.aload_n 0, 1) := by decide +kernel
theorem dX8_init_316 : decode cX8_init 316 = .ok (.getfield 13, 3) := by decide +kernel
theorem dX8_init_319 : decode cX8_init 319 = .ok (.iload_n 1, 1) := by decide +kernel
theorem dX8_init_320 : decode cX8_init 320 = .ok (.iconst (-1), 1) := by decide +kernel
theorem dX8_init_321 : decode cX8_init 321 = .ok (.iastore, 1) := by decide +kernel
theorem dX8_init_322 : decode cX8_init 322 = .ok (.iinc 1 1, 3) := by decide +kernel
theorem dX8_init_325 : decode cX8_init 325 = .ok (.goto (-16), 3) := by decide +kernel
theorem dX8_init_328 : decode cX8_init 328 = .ok (.iconst 0, 1) := by decide +kernel
theorem dX8_init_329 : decode cX8_init 329 = .ok (.istore_n 1, 1) := by decide +kernel
theorem dX8_init_330 : decode cX8_init 330 = .ok (.iload_n 1, 1) := by decide +kernel
theorem dX8_init_331 : decode cX8_init 331 = .ok (.iconst 4, 1) := by decide +kernel
theorem dX8_init_332 : decode cX8_init 332 = .ok (.if_icmp .ge 16, 3) := by decide +kernel
theorem dX8_init_335 : decode cX8_init 335 = .ok (.aload_n 0, 1) := by decide +kernel
theorem dX8_init_336 : decode cX8_init 336 = .ok (.getfield 22, 3) := by decide +kernel
theorem dX8_init_339 : decode cX8_init 339 = .ok (.iload_n 1, 1) := by decide +kernel
theorem dX8_init_340 : decode cX8_init 340 = .ok (.iconst (-1), 1) := by decide +kernel
theorem dX8_init_341 : decode cX8_init 341 = .ok (.iastore, 1) := by decide +kernel
theorem dX8_init_342 : decode cX8_init 342 = .ok (.iinc 1 1, 3) := by decide +kernel
theorem dX8_init_345 : decode cX8_init 345 = .ok (.goto (-15), 3) := by decide +kernel
theorem dX8_init_348 : decode cX8_init 348 = .ok (.return_, 1) := by decide +kernel
theorem dX8_in_0 : decode cX8_in 0 = .ok (.iload_n 0, 1) := by decide +kernel
theorem dX8_in_1 : decode cX8_in 1 = .ok (.iload_n 1, 1) := by decide +kernel
theorem dX8_in_2 : decode cX8_in 2 = .ok (.if_icmp .lt 12, 3) := by decide +kernel
theorem dX8_in_5 : decode cX8_in 5 = .ok (.iload_n 0, 1) := by decide +kernel
theorem dX8_in_6 : decode cX8_in 6 = .ok (.iload_n 2, 1) := by decide +kernel
theorem dX8_in_7 : decode cX8_in 7 = .ok (.if_icmp .gt 7, 3) := by decide +kernel
theorem dX8_in_10 : decode cX8_in 10 = .ok (.iconst 1, 1) := by decide +kernel
theorem dX8_in_11 : decode cX8_in 11 = .ok (.goto 4, 3) := by decide +kernel
theorem dX8_in_14 : decode cX8_in 14 = .ok (.iconst 0, 1) := by decide +kernel
theorem dX8_in_15 : decode cX8_in 15 = .ok (.ireturn, 1) := by decide +kernel
theorem dX8_has_0 : decode cX8_has 0 = .ok (.iload_n 0, 1) := by decide +kernel
theorem dX8_has_1 : decode cX8_has 1 = .ok (.iload_n 1, 1) := by decide +kernel
theorem dX8_has_2 : decode cX8_has 2 = .ok (.ishr, 1) := by decide +kernel
theorem dX8_has_3 : decode cX8_has 3 = .ok (.iconst 1, 1) := by decide +kernel
theorem dX8_has_4 : decode cX8_has 4 = .ok (.iand, 1) := by decide +kernel
theorem dX8_has_5 : decode cX8_has 5 = .ok (.iconst 1, 1) := by decide +kernel
theorem dX8_has_6 : decode cX8_has 6 = .ok (.if_icmp .ne 7, 3) := by decide +kernel
theorem dX8_has_9 : decode cX8_has 9 = .ok (.iconst 1, 1) := by decide +kernel
theorem dX8_has_10 : decode cX8_has 10 = .ok (.goto 4, 3) := by decide +kernel
theorem dX8_has_13 : decode cX8_has 13 = .ok (.iconst 0, 1) := by decide +kernel
theorem dX8_has_14 : decode cX8_has 14 = .ok (.ireturn, 1) := by decide +kernel
theorem dX8_bits_0 : decode cX8_bits 0 = .ok (.iconst 0, 1) := by decide +kernel
theorem dX8_bits_1 : decode cX8_bits 1 = .ok (.istore_n 1, 1) := by decide +kernel
theorem dX8_bits_2 : decode cX8_bits 2 = .ok (.iload_n 0, 1) := by decide +kernel
theorem dX8_bits_3 : decode cX8_bits 3 = .ok (.istore_n 2, 1) := by decide +kernel
theorem dX8_bits_4 : decode cX8_bits 4 = .ok (.iload_n 2, 1) := by decide +kernel
theorem dX8_bits_5 : decode cX8_bits 5 = .ok (.ifCond .eq 15, 3) := by decide +kernel
theorem dX8_bits_8 : decode cX8_bits 8 = .ok (.iinc 1 1, 3) := by decide +kernel
theorem dX8_bits_11 : decode cX8_bits 11 = .ok (.iload_n 2, 1) := by decide +kernel
theorem dX8_bits_12 : decode cX8_bits 12 = .ok (.iload_n 2, 1) := by decide +kernel
theorem dX8_bits_13 : decode cX8_bits 13 = .ok (.iconst 1, 1) := by decide +kernel
theorem dX8_bits_14 : decode cX8_bits 14 = .ok (.isub, 1) := by decide +kernel
theorem dX8_bits_15 : decode cX8_bits 15 = .ok (.iand, 1) := by decide +kernel
theorem dX8_bits_16 : decode cX8_bits 16 = .ok (.istore_n 2, 1) := by decide +kernel
theorem dX8_bits_17 : decode cX8_bits 17 = .ok (.goto (-13), 3) := by decide +kernel
theorem dX8_bits_20 : decode cX8_bits 20 = .ok (.iload_n 1, 1) := by decide +kernel
theorem dX8_bits_21 : decode cX8_bits 21 = .ok (.ireturn, 1) := by decide +kernel
theorem dX8_sizeOf_0 : decode cX8_sizeOf 0 = .ok (.iload_n 0, 1) := by decide +kernel
theorem dX8_sizeOf_1 : decode cX8_sizeOf 1 = .ok (.ifCond .ge 8, 3) := by decide +kernel
theorem dX8_sizeOf_4 : decode cX8_sizeOf 4 = .ok (.iload_n 0, 1) := by decide +kernel
theorem dX8_sizeOf_5 : decode cX8_sizeOf 5 = .ok (.ineg, 1) := by decide +kernel
theorem dX8_sizeOf_6 : decode cX8_sizeOf 6 = .ok (.goto 4, 3) := by decide +kernel
theorem dX8_sizeOf_9 : decode cX8_sizeOf 9 = .ok (.iload_n 0, 1) := by decide +kernel
theorem dX8_sizeOf_10 : decode cX8_sizeOf 10 = .ok (.ireturn, 1) := by decide +kernel
theorem dX8_greater_0 : decode cX8_greater 0 = .ok (.iload_n 0, 1) := by decide +kernel
theorem dX8_greater_1 : decode cX8_greater 1 = .ok (.iload_n 1, 1) := by decide +kernel
theorem dX8_greater_2 : decode cX8_greater 2 = .ok (.if_icmp .le 7, 3) := by decide +kernel
theorem dX8_greater_5 : decode cX8_greater 5 = .ok (.iload_n 0, 1) := by decide +kernel
theorem dX8_greater_6 : decode cX8_greater 6 = .ok (.goto 4, 3) := by decide +kernel
theorem dX8_greater_9 : decode cX8_greater 9 = .ok (.iload_n 1, 1) := by decide +kernel
theorem dX8_greater_10 : decode cX8_greater 10 = .ok (.ireturn, 1) := by decide +kernel
theorem dX8_meets_0 : decode cX8_meets 0 = .ok (.aload_n 0, 1) := by decide +kernel
theorem dX8_meets_1 : decode cX8_meets 1 = .ok (.iload_n 1, 1) := by decide +kernel
theorem dX8_meets_2 : decode cX8_meets 2 = .ok (.putfield 129, 3) := by decide +kernel
theorem dX8_meets_5 : decode cX8_meets 5 = .ok (.aload_n 0, 1) := by decide +kernel
theorem dX8_meets_6 : decode cX8_meets 6 = .ok (.getfield 7, 3) := by decide +kernel
theorem dX8_meets_9 : decode cX8_meets 9 = .ok (.iload_n 1, 1) := by decide +kernel
theorem dX8_meets_10 : decode cX8_meets 10 = .ok (.dup2, 1) := by decide +kernel
theorem dX8_meets_11 : decode cX8_meets 11 = .ok (.iaload, 1) := by decide +kernel
theorem dX8_meets_12 : decode cX8_meets 12 = .ok (.iconst 1, 1) := by decide +kernel
theorem dX8_meets_13 : decode cX8_meets 13 = .ok (.iadd, 1) := by decide +kernel
theorem dX8_meets_14 : decode cX8_meets 14 = .ok (.iastore, 1) := by decide +kernel
theorem dX8_meets_15 : decode cX8_meets 15 = .ok (.bipush (-3), 2) := by decide +kernel
theorem dX8_meets_17 : decode cX8_meets 17 = .ok (.ireturn, 1) := by decide +kernel
theorem dX8_finding_0 : decode cX8_finding 0 = .ok (.aload_n 0, 1) := by decide +kernel
theorem dX8_finding_1 : decode cX8_finding 1 = .ok (.getfield 129, 3) := by decide +kernel
theorem dX8_finding_4 : decode cX8_finding 4 = .ok (.ireturn, 1) := by decide +kernel
theorem dX8_findings_0 : decode cX8_findings 0 = .ok (.iload_n 1, 1) := by decide +kernel
theorem dX8_findings_1 : decode cX8_findings 1 = .ok (.iconst 1, 1) := by decide +kernel
theorem dX8_findings_2 : decode cX8_findings 2 = .ok (.iconst 5, 1) := by decide +kernel
theorem dX8_findings_3 : decode cX8_findings 3 = .ok (.invokestatic 133, 3) := by decide +kernel
theorem dX8_findings_6 : decode cX8_findings 6 = .ok (.ifCond .eq 12, 3) := by decide +kernel
theorem dX8_findings_9 : decode cX8_findings 9 = .ok (.aload_n 0, 1) := by decide +kernel
theorem dX8_findings_10 : decode cX8_findings 10 = .ok (.getfield 7, 3) := by decide +kernel
theorem dX8_findings_13 : decode cX8_findings 13 = .ok (.iload_n 1, 1) := by decide +kernel
theorem dX8_findings_14 : decode cX8_findings 14 = .ok (.iaload, 1) := by decide +kernel
theorem dX8_findings_15 : decode cX8_findings 15 = .ok (.goto 4, 3) := by decide +kernel
theorem dX8_findings_18 : decode cX8_findings 18 = .ok (.iconst (-1), 1) := by decide +kernel
theorem dX8_findings_19 : decode cX8_findings 19 = .ok (.ireturn, 1) := by decide +kernel
theorem dX8_tells_0 : decode cX8_tells 0 = .ok (.aload_n 0, 1) := by decide +kernel
theorem dX8_tells_1 : decode cX8_tells 1 = .ok (.iload_n 1, 1) := by decide +kernel
theorem dX8_tells_2 : decode cX8_tells 2 = .ok (.putfield 137, 3) := by decide +kernel
theorem dX8_tells_5 : decode cX8_tells 5 = .ok (.iload_n 2, 1) := by decide +kernel
theorem dX8_tells_6 : decode cX8_tells 6 = .ok (.ireturn, 1) := by decide +kernel
theorem dX8_asked_0 : decode cX8_asked 0 = .ok (.aload_n 0, 1) := by decide +kernel
theorem dX8_asked_1 : decode cX8_asked 1 = .ok (.getfield 137, 3) := by decide +kernel
theorem dX8_asked_4 : decode cX8_asked 4 = .ok (.ireturn, 1) := by decide +kernel
theorem dX8_isRow_0 : decode cX8_isRow 0 = .ok (.iload_n 0, 1) := by decide +kernel
theorem dX8_isRow_1 : decode cX8_isRow 1 = .ok (.iconst 0, 1) := by decide +kernel
theorem dX8_isRow_2 : decode cX8_isRow 2 = .ok (.iconst 5, 1) := by decide +kernel
theorem dX8_isRow_3 : decode cX8_isRow 3 = .ok (.invokestatic 133, 3) := by decide +kernel
theorem dX8_isRow_6 : decode cX8_isRow 6 = .ok (.ireturn, 1) := by decide +kernel
theorem dX8_rowAt_0 : decode cX8_rowAt 0 = .ok (.aload_n 0, 1) := by decide +kernel
theorem dX8_rowAt_1 : decode cX8_rowAt 1 = .ok (.getfield 16, 3) := by decide +kernel
theorem dX8_rowAt_4 : decode cX8_rowAt 4 = .ok (.bipush 40, 2) := by decide +kernel
theorem dX8_rowAt_6 : decode cX8_rowAt 6 = .ok (.iload_n 1, 1) := by decide +kernel
theorem dX8_rowAt_7 : decode cX8_rowAt 7 = .ok (.imul, 1) := by decide +kernel
theorem dX8_rowAt_8 : decode cX8_rowAt 8 = .ok (.iload_n 2, 1) := by decide +kernel
theorem dX8_rowAt_9 : decode cX8_rowAt 9 = .ok (.iadd, 1) := by decide +kernel
theorem dX8_rowAt_10 : decode cX8_rowAt 10 = .ok (.iaload, 1) := by decide +kernel
theorem dX8_rowAt_11 : decode cX8_rowAt 11 = .ok (.ireturn, 1) := by decide +kernel
theorem dX8_row_0 : decode cX8_row 0 = .ok (.iload_n 1, 1) := by decide +kernel
theorem dX8_row_1 : decode cX8_row 1 = .ok (.invokestatic 140, 3) := by decide +kernel
theorem dX8_row_4 : decode cX8_row 4 = .ok (.ifCond .eq 9, 3) := by decide +kernel
theorem dX8_row_7 : decode cX8_row 7 = .ok (.iload_n 2, 1) := by decide +kernel
theorem dX8_row_8 : decode cX8_row 8 = .ok (.bipush 40, 2) := by decide +kernel
theorem dX8_row_10 : decode cX8_row 10 = .ok (.if_icmp .le 5, 3) := by decide +kernel
theorem dX8_row_13 : decode cX8_row 13 = .ok (.iconst (-1), 1) := by decide +kernel
theorem dX8_row_14 : decode cX8_row 14 = .ok (.ireturn, 1) := by decide +kernel
theorem dX8_row_15 : decode cX8_row 15 = .ok (.iload_n 2, 1) := by decide +kernel
theorem dX8_row_16 : decode cX8_row 16 = .ok (.ifCond .ge 9, 3) := by decide +kernel
theorem dX8_row_19 : decode cX8_row 19 = .ok (.aload_n 0, 1) := by decide +kernel
theorem dX8_row_20 : decode cX8_row 20 = .ok (.iconst 5, 1) := by decide +kernel
theorem dX8_row_21 : decode cX8_row 21 = .ok (.invokevirtual 144, 3) := by decide +kernel
theorem dX8_row_24 : decode cX8_row 24 = .ok (.ireturn, 1) := by decide +kernel
theorem dX8_row_25 : decode cX8_row 25 = .ok (.aload_n 0, 1) := by decide +kernel
theorem dX8_row_26 : decode cX8_row 26 = .ok (.getfield 13, 3) := by decide +kernel
theorem dX8_row_29 : decode cX8_row 29 = .ok (.iload_n 1, 1) := by decide +kernel
theorem dX8_row_30 : decode cX8_row 30 = .ok (.iload_n 2, 1) := by decide +kernel
theorem dX8_row_31 : decode cX8_row 31 = .ok (.iastore, 1) := by decide +kernel
theorem dX8_row_32 : decode cX8_row 32 = .ok (.iconst 0, 1) := by decide +kernel
theorem dX8_row_33 : decode cX8_row 33 = .ok (.istore_n 3, 1) := by decide +kernel
theorem dX8_row_34 : decode cX8_row 34 = .ok (.iload_n 3, 1) := by decide +kernel
theorem dX8_row_35 : decode cX8_row 35 = .ok (.bipush 40, 2) := by decide +kernel
theorem dX8_row_37 : decode cX8_row 37 = .ok (.if_icmp .ge 21, 3) := by decide +kernel
theorem dX8_row_40 : decode cX8_row 40 = .ok (.aload_n 0, 1) := by decide +kernel
theorem dX8_row_41 : decode cX8_row 41 = .ok (.getfield 16, 3) := by decide +kernel
theorem dX8_row_44 : decode cX8_row 44 = .ok (.bipush 40, 2) := by decide +kernel
theorem dX8_row_46 : decode cX8_row 46 = .ok (.iload_n 1, 1) := by decide +kernel
theorem dX8_row_47 : decode cX8_row 47 = .ok (.imul, 1) := by decide +kernel
theorem dX8_row_48 : decode cX8_row 48 = .ok (.iload_n 3, 1) := by decide +kernel
theorem dX8_row_49 : decode cX8_row 49 = .ok (.iadd, 1) := by decide +kernel
theorem dX8_row_50 : decode cX8_row 50 = .ok (.iconst 0, 1) := by decide +kernel
theorem dX8_row_51 : decode cX8_row 51 = .ok (.iastore, 1) := by decide +kernel
theorem dX8_row_52 : decode cX8_row 52 = .ok (.iinc 3 1, 3) := by decide +kernel
theorem dX8_row_55 : decode cX8_row 55 = .ok (.goto (-21), 3) := by decide +kernel
theorem dX8_row_58 : decode cX8_row 58 = .ok (.iload_n 2, 1) := by decide +kernel
theorem dX8_row_59 : decode cX8_row 59 = .ok (.ireturn, 1) := by decide +kernel
theorem dX8_lay_0 : decode cX8_lay 0 = .ok (.iload_n 1, 1) := by decide +kernel
theorem dX8_lay_1 : decode cX8_lay 1 = .ok (.invokestatic 140, 3) := by decide +kernel
theorem dX8_lay_4 : decode cX8_lay 4 = .ok (.ifCond .ne 5, 3) := by decide +kernel
theorem dX8_lay_7 : decode cX8_lay 7 = .ok (.iconst (-1), 1) := by decide +kernel
theorem dX8_lay_8 : decode cX8_lay 8 = .ok (.ireturn, 1) := by decide +kernel
theorem dX8_lay_9 : decode cX8_lay 9 = .ok (.aload_n 0, 1) := by decide +kernel
theorem dX8_lay_10 : decode cX8_lay 10 = .ok (.getfield 13, 3) := by decide +kernel
theorem dX8_lay_13 : decode cX8_lay 13 = .ok (.iload_n 1, 1) := by decide +kernel
theorem dX8_lay_14 : decode cX8_lay 14 = .ok (.iaload, 1) := by decide +kernel
theorem dX8_lay_15 : decode cX8_lay 15 = .ok (.ifCond .ge 9, 3) := by decide +kernel
theorem dX8_lay_18 : decode cX8_lay 18 = .ok (.aload_n 0, 1) := by decide +kernel
theorem dX8_lay_19 : decode cX8_lay 19 = .ok (.iconst 1, 1) := by decide +kernel
theorem dX8_lay_20 : decode cX8_lay 20 = .ok (.invokevirtual 144, 3) := by decide +kernel
theorem dX8_lay_23 : decode cX8_lay 23 = .ok (.ireturn, 1) := by decide +kernel
theorem dX8_lay_24 : decode cX8_lay 24 = .ok (.iload_n 2, 1) := by decide +kernel
theorem dX8_lay_25 : decode cX8_lay 25 = .ok (.iconst 0, 1) := by decide +kernel
theorem dX8_lay_26 : decode cX8_lay 26 = .ok (.aload_n 0, 1) := by decide +kernel
theorem dX8_lay_27 : decode cX8_lay 27 = .ok (.getfield 13, 3) := by decide +kernel
theorem dX8_lay_30 : decode cX8_lay 30 = .ok (.iload_n 1, 1) := by decide +kernel
theorem dX8_lay_31 : decode cX8_lay 31 = .ok (.iaload, 1) := by decide +kernel
theorem dX8_lay_32 : decode cX8_lay 32 = .ok (.iconst 1, 1) := by decide +kernel
theorem dX8_lay_33 : decode cX8_lay 33 = .ok (.isub, 1) := by decide +kernel
theorem dX8_lay_34 : decode cX8_lay 34 = .ok (.invokestatic 133, 3) := by decide +kernel
theorem dX8_lay_37 : decode cX8_lay 37 = .ok (.ifCond .ne 9, 3) := by decide +kernel
theorem dX8_lay_40 : decode cX8_lay 40 = .ok (.aload_n 0, 1) := by decide +kernel
theorem dX8_lay_41 : decode cX8_lay 41 = .ok (.iconst 2, 1) := by decide +kernel
theorem dX8_lay_42 : decode cX8_lay 42 = .ok (.invokevirtual 144, 3) := by decide +kernel
theorem dX8_lay_45 : decode cX8_lay 45 = .ok (.ireturn, 1) := by decide +kernel
theorem dX8_lay_46 : decode cX8_lay 46 = .ok (.aload_n 0, 1) := by decide +kernel
theorem dX8_lay_47 : decode cX8_lay 47 = .ok (.iload_n 1, 1) := by decide +kernel
theorem dX8_lay_48 : decode cX8_lay 48 = .ok (.iload_n 2, 1) := by decide +kernel
theorem dX8_lay_49 : decode cX8_lay 49 = .ok (.invokevirtual 148, 3) := by decide +kernel
theorem dX8_lay_52 : decode cX8_lay 52 = .ok (.istore 4, 2) := by decide +kernel
theorem dX8_lay_54 : decode cX8_lay 54 = .ok (.aload_n 0, 1) := by decide +kernel
theorem dX8_lay_55 : decode cX8_lay 55 = .ok (.getfield 16, 3) := by decide +kernel
theorem dX8_lay_58 : decode cX8_lay 58 = .ok (.bipush 40, 2) := by decide +kernel
theorem dX8_lay_60 : decode cX8_lay 60 = .ok (.iload_n 1, 1) := by decide +kernel
theorem dX8_lay_61 : decode cX8_lay 61 = .ok (.imul, 1) := by decide +kernel
theorem dX8_lay_62 : decode cX8_lay 62 = .ok (.iload_n 2, 1) := by decide +kernel
theorem dX8_lay_63 : decode cX8_lay 63 = .ok (.iadd, 1) := by decide +kernel
theorem dX8_lay_64 : decode cX8_lay 64 = .ok (.iload_n 3, 1) := by decide +kernel
theorem dX8_lay_65 : decode cX8_lay 65 = .ok (.iastore, 1) := by decide +kernel
theorem dX8_lay_66 : decode cX8_lay 66 = .ok (.aload_n 0, 1) := by decide +kernel
theorem dX8_lay_67 : decode cX8_lay 67 = .ok (.iload 4, 2) := by decide +kernel
theorem dX8_lay_69 : decode cX8_lay 69 = .ok (.iconst 1, 1) := by decide +kernel
theorem dX8_lay_70 : decode cX8_lay 70 = .ok (.invokevirtual 152, 3) := by decide +kernel
theorem dX8_lay_73 : decode cX8_lay 73 = .ok (.ireturn, 1) := by decide +kernel
theorem dX8_at_0 : decode cX8_at 0 = .ok (.iload_n 1, 1) := by decide +kernel
theorem dX8_at_1 : decode cX8_at 1 = .ok (.invokestatic 140, 3) := by decide +kernel
theorem dX8_at_4 : decode cX8_at 4 = .ok (.ifCond .ne 5, 3) := by decide +kernel
theorem dX8_at_7 : decode cX8_at 7 = .ok (.iconst (-1), 1) := by decide +kernel
theorem dX8_at_8 : decode cX8_at 8 = .ok (.ireturn, 1) := by decide +kernel
theorem dX8_at_9 : decode cX8_at 9 = .ok (.aload_n 0, 1) := by decide +kernel
theorem dX8_at_10 : decode cX8_at 10 = .ok (.getfield 13, 3) := by decide +kernel
theorem dX8_at_13 : decode cX8_at 13 = .ok (.iload_n 1, 1) := by decide +kernel
theorem dX8_at_14 : decode cX8_at 14 = .ok (.iaload, 1) := by decide +kernel
theorem dX8_at_15 : decode cX8_at 15 = .ok (.ifCond .ge 9, 3) := by decide +kernel
theorem dX8_at_18 : decode cX8_at 18 = .ok (.aload_n 0, 1) := by decide +kernel
theorem dX8_at_19 : decode cX8_at 19 = .ok (.iconst 1, 1) := by decide +kernel
theorem dX8_at_20 : decode cX8_at 20 = .ok (.invokevirtual 144, 3) := by decide +kernel
theorem dX8_at_23 : decode cX8_at 23 = .ok (.ireturn, 1) := by decide +kernel
theorem dX8_at_24 : decode cX8_at 24 = .ok (.iload_n 2, 1) := by decide +kernel
theorem dX8_at_25 : decode cX8_at 25 = .ok (.iconst 0, 1) := by decide +kernel
theorem dX8_at_26 : decode cX8_at 26 = .ok (.aload_n 0, 1) := by decide +kernel
theorem dX8_at_27 : decode cX8_at 27 = .ok (.getfield 13, 3) := by decide +kernel
theorem dX8_at_30 : decode cX8_at 30 = .ok (.iload_n 1, 1) := by decide +kernel
theorem dX8_at_31 : decode cX8_at 31 = .ok (.iaload, 1) := by decide +kernel
theorem dX8_at_32 : decode cX8_at 32 = .ok (.iconst 1, 1) := by decide +kernel
theorem dX8_at_33 : decode cX8_at 33 = .ok (.isub, 1) := by decide +kernel
theorem dX8_at_34 : decode cX8_at 34 = .ok (.invokestatic 133, 3) := by decide +kernel
theorem dX8_at_37 : decode cX8_at 37 = .ok (.ifCond .eq 17, 3) := by decide +kernel
theorem dX8_at_40 : decode cX8_at 40 = .ok (.aload_n 0, 1) := by decide +kernel
theorem dX8_at_41 : decode cX8_at 41 = .ok (.aload_n 0, 1) := by decide +kernel
theorem dX8_at_42 : decode cX8_at 42 = .ok (.iload_n 1, 1) := by decide +kernel
theorem dX8_at_43 : decode cX8_at 43 = .ok (.iload_n 2, 1) := by decide +kernel
theorem dX8_at_44 : decode cX8_at 44 = .ok (.invokevirtual 148, 3) := by decide +kernel
theorem dX8_at_47 : decode cX8_at 47 = .ok (.iconst 1, 1) := by decide +kernel
theorem dX8_at_48 : decode cX8_at 48 = .ok (.invokevirtual 152, 3) := by decide +kernel
theorem dX8_at_51 : decode cX8_at 51 = .ok (.goto 8, 3) := by decide +kernel
theorem dX8_at_54 : decode cX8_at 54 = .ok (.aload_n 0, 1) := by decide +kernel
theorem dX8_at_55 : decode cX8_at 55 = .ok (.iconst 2, 1) := by decide +kernel
theorem dX8_at_56 : decode cX8_at 56 = .ok (.invokevirtual 144, 3) := by decide +kernel
theorem dX8_at_59 : decode cX8_at 59 = .ok (.ireturn, 1) := by decide +kernel
theorem dX8_tear_0 : decode cX8_tear 0 = .ok (.iload_n 1, 1) := by decide +kernel
theorem dX8_tear_1 : decode cX8_tear 1 = .ok (.invokestatic 140, 3) := by decide +kernel
theorem dX8_tear_4 : decode cX8_tear 4 = .ok (.ifCond .ne 5, 3) := by decide +kernel
theorem dX8_tear_7 : decode cX8_tear 7 = .ok (.iconst (-1), 1) := by decide +kernel
theorem dX8_tear_8 : decode cX8_tear 8 = .ok (.ireturn, 1) := by decide +kernel
theorem dX8_tear_9 : decode cX8_tear 9 = .ok (.aload_n 0, 1) := by decide +kernel
theorem dX8_tear_10 : decode cX8_tear 10 = .ok (.getfield 13, 3) := by decide +kernel
theorem dX8_tear_13 : decode cX8_tear 13 = .ok (.iload_n 1, 1) := by decide +kernel
theorem dX8_tear_14 : decode cX8_tear 14 = .ok (.iaload, 1) := by decide +kernel
theorem dX8_tear_15 : decode cX8_tear 15 = .ok (.ifCond .ge 9, 3) := by decide +kernel
theorem dX8_tear_18 : decode cX8_tear 18 = .ok (.aload_n 0, 1) := by decide +kernel
theorem dX8_tear_19 : decode cX8_tear 19 = .ok (.iconst 1, 1) := by decide +kernel
theorem dX8_tear_20 : decode cX8_tear 20 = .ok (.invokevirtual 144, 3) := by decide +kernel
theorem dX8_tear_23 : decode cX8_tear 23 = .ok (.ireturn, 1) := by decide +kernel
theorem dX8_tear_24 : decode cX8_tear 24 = .ok (.aload_n 0, 1) := by decide +kernel
theorem dX8_tear_25 : decode cX8_tear 25 = .ok (.getfield 13, 3) := by decide +kernel
theorem dX8_tear_28 : decode cX8_tear 28 = .ok (.iload_n 1, 1) := by decide +kernel
theorem dX8_tear_29 : decode cX8_tear 29 = .ok (.iconst (-1), 1) := by decide +kernel
theorem dX8_tear_30 : decode cX8_tear 30 = .ok (.iastore, 1) := by decide +kernel
theorem dX8_tear_31 : decode cX8_tear 31 = .ok (.iconst 1, 1) := by decide +kernel
theorem dX8_tear_32 : decode cX8_tear 32 = .ok (.ireturn, 1) := by decide +kernel
theorem dX8_copy_0 : decode cX8_copy 0 = .ok (.iload_n 1, 1) := by decide +kernel
theorem dX8_copy_1 : decode cX8_copy 1 = .ok (.invokestatic 140, 3) := by decide +kernel
theorem dX8_copy_4 : decode cX8_copy 4 = .ok (.ifCond .eq 10, 3) := by decide +kernel
theorem dX8_copy_7 : decode cX8_copy 7 = .ok (.iload_n 3, 1) := by decide +kernel
theorem dX8_copy_8 : decode cX8_copy 8 = .ok (.invokestatic 140, 3) := by decide +kernel
theorem dX8_copy_11 : decode cX8_copy 11 = .ok (.ifCond .ne 5, 3) := by decide +kernel
theorem dX8_copy_14 : decode cX8_copy 14 = .ok (.iconst (-1), 1) := by decide +kernel
theorem dX8_copy_15 : decode cX8_copy 15 = .ok (.ireturn, 1) := by decide +kernel
theorem dX8_copy_16 : decode cX8_copy 16 = .ok (.iload 5, 2) := by decide +kernel
theorem dX8_copy_18 : decode cX8_copy 18 = .ok (.ifCond .ge 9, 3) := by decide +kernel
theorem dX8_copy_21 : decode cX8_copy 21 = .ok (.aload_n 0, 1) := by decide +kernel
theorem dX8_copy_22 : decode cX8_copy 22 = .ok (.iconst 5, 1) := by decide +kernel
theorem dX8_copy_23 : decode cX8_copy 23 = .ok (.invokevirtual 144, 3) := by decide +kernel
theorem dX8_copy_26 : decode cX8_copy 26 = .ok (.ireturn, 1) := by decide +kernel
theorem dX8_copy_27 : decode cX8_copy 27 = .ok (.aload_n 0, 1) := by decide +kernel
theorem dX8_copy_28 : decode cX8_copy 28 = .ok (.getfield 13, 3) := by decide +kernel
theorem dX8_copy_31 : decode cX8_copy 31 = .ok (.iload_n 1, 1) := by decide +kernel
theorem dX8_copy_32 : decode cX8_copy 32 = .ok (.iaload, 1) := by decide +kernel
theorem dX8_copy_33 : decode cX8_copy 33 = .ok (.ifCond .lt 12, 3) := by decide +kernel
theorem dX8_copy_36 : decode cX8_copy 36 = .ok (.aload_n 0, 1) := by decide +kernel
theorem dX8_copy_37 : decode cX8_copy 37 = .ok (.getfield 13, 3) := by decide +kernel
theorem dX8_copy_40 : decode cX8_copy 40 = .ok (.iload_n 3, 1) := by decide +kernel
theorem dX8_copy_41 : decode cX8_copy 41 = .ok (.iaload, 1) := by decide +kernel
theorem dX8_copy_42 : decode cX8_copy 42 = .ok (.ifCond .ge 9, 3) := by decide +kernel
theorem dX8_copy_45 : decode cX8_copy 45 = .ok (.aload_n 0, 1) := by decide +kernel
theorem dX8_copy_46 : decode cX8_copy 46 = .ok (.iconst 1, 1) := by decide +kernel
theorem dX8_copy_47 : decode cX8_copy 47 = .ok (.invokevirtual 144, 3) := by decide +kernel
theorem dX8_copy_50 : decode cX8_copy 50 = .ok (.ireturn, 1) := by decide +kernel
theorem dX8_copy_51 : decode cX8_copy 51 = .ok (.iload_n 2, 1) := by decide +kernel
theorem dX8_copy_52 : decode cX8_copy 52 = .ok (.ifCond .lt 43, 3) := by decide +kernel
theorem dX8_copy_55 : decode cX8_copy 55 = .ok (.iload 4, 2) := by decide +kernel
theorem dX8_copy_57 : decode cX8_copy 57 = .ok (.ifCond .lt 38, 3) := by decide +kernel
theorem dX8_copy_60 : decode cX8_copy 60 = .ok (.iload_n 2, 1) := by decide +kernel
theorem dX8_copy_61 : decode cX8_copy 61 = .ok (.i2l, 1) := by decide +kernel
theorem dX8_copy_62 : decode cX8_copy 62 = .ok (.iload 5, 2) := by decide +kernel
theorem dX8_copy_64 : decode cX8_copy 64 = .ok (.i2l, 1) := by decide +kernel
theorem dX8_copy_65 : decode cX8_copy 65 = .ok (.ladd, 1) := by decide +kernel
theorem dX8_copy_66 : decode cX8_copy 66 = .ok (.aload_n 0, 1) := by decide +kernel
theorem dX8_copy_67 : decode cX8_copy 67 = .ok (.getfield 13, 3) := by decide +kernel
theorem dX8_copy_70 : decode cX8_copy 70 = .ok (.iload_n 1, 1) := by decide +kernel
theorem dX8_copy_71 : decode cX8_copy 71 = .ok (.iaload, 1) := by decide +kernel
theorem dX8_copy_72 : decode cX8_copy 72 = .ok (.i2l, 1) := by decide +kernel
theorem dX8_copy_73 : decode cX8_copy 73 = .ok (.lcmp, 1) := by decide +kernel
theorem dX8_copy_74 : decode cX8_copy 74 = .ok (.ifCond .gt 21, 3) := by decide +kernel
theorem dX8_copy_77 : decode cX8_copy 77 = .ok (.iload 4, 2) := by decide +kernel
theorem dX8_copy_79 : decode cX8_copy 79 = .ok (.i2l, 1) := by decide +kernel
theorem dX8_copy_80 : decode cX8_copy 80 = .ok (.iload 5, 2) := by decide +kernel
theorem dX8_copy_82 : decode cX8_copy 82 = .ok (.i2l, 1) := by decide +kernel
theorem dX8_copy_83 : decode cX8_copy 83 = .ok (.ladd, 1) := by decide +kernel
theorem dX8_copy_84 : decode cX8_copy 84 = .ok (.aload_n 0, 1) := by decide +kernel
theorem dX8_copy_85 : decode cX8_copy 85 = .ok (.getfield 13, 3) := by decide +kernel
theorem dX8_copy_88 : decode cX8_copy 88 = .ok (.iload_n 3, 1) := by decide +kernel
theorem dX8_copy_89 : decode cX8_copy 89 = .ok (.iaload, 1) := by decide +kernel
theorem dX8_copy_90 : decode cX8_copy 90 = .ok (.i2l, 1) := by decide +kernel
theorem dX8_copy_91 : decode cX8_copy 91 = .ok (.lcmp, 1) := by decide +kernel
theorem dX8_copy_92 : decode cX8_copy 92 = .ok (.ifCond .le 9, 3) := by decide +kernel
theorem dX8_copy_95 : decode cX8_copy 95 = .ok (.aload_n 0, 1) := by decide +kernel
theorem dX8_copy_96 : decode cX8_copy 96 = .ok (.iconst 2, 1) := by decide +kernel
theorem dX8_copy_97 : decode cX8_copy 97 = .ok (.invokevirtual 144, 3) := by decide +kernel
theorem dX8_copy_100 : decode cX8_copy 100 = .ok (.ireturn, 1) := by decide +kernel
theorem dX8_copy_101 : decode cX8_copy 101 = .ok (.iconst 0, 1) := by decide +kernel
theorem dX8_copy_102 : decode cX8_copy 102 = .ok (.istore 6, 2) := by decide +kernel
theorem dX8_copy_104 : decode cX8_copy 104 = .ok (.iload 6, 2) := by decide +kernel
theorem dX8_copy_106 : decode cX8_copy 106 = .ok (.iload 5, 2) := by decide +kernel
theorem dX8_copy_108 : decode cX8_copy 108 = .ok (.if_icmp .ge 25, 3) := by decide +kernel
theorem dX8_copy_111 : decode cX8_copy 111 = .ok (.aload_n 0, 1) := by decide +kernel
theorem dX8_copy_112 : decode cX8_copy 112 = .ok (.getfield 19, 3) := by decide +kernel
theorem dX8_copy_115 : decode cX8_copy 115 = .ok (.iload 6, 2) := by decide +kernel
theorem dX8_copy_117 : decode cX8_copy 117 = .ok (.aload_n 0, 1) := by decide +kernel
theorem dX8_copy_118 : decode cX8_copy 118 = .ok (.iload_n 1, 1) := by decide +kernel
theorem dX8_copy_119 : decode cX8_copy 119 = .ok (.iload_n 2, 1) := by decide +kernel
