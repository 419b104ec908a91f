theorem dX0_init_0 : decode cX0_init 0 = .ok (.aload_n 0, 1) := by decide +kernel
theorem dX0_init_1 : decode cX0_init 1 = .ok (.invokespecial 3, 3) := by decide +kernel
theorem dX0_init_4 : decode cX0_init 4 = .ok (.aload_n 0, 1) := by decide +kernel
theorem dX0_init_5 : decode cX0_init 5 = .ok (.bipush 60, 2) := by decide +kernel
theorem dX0_init_7 : decode cX0_init 7 = .ok (.newarray .int, 2) := by decide +kernel
theorem dX0_init_9 : decode cX0_init 9 = .ok (.putfield 9, 3) := by decide +kernel
theorem dX0_init_12 : decode cX0_init 12 = .ok (.aload_n 0, 1) := by decide +kernel
theorem dX0_init_13 : decode cX0_init 13 = .ok (.bipush 60, 2) := by decide +kernel
theorem dX0_init_15 : decode cX0_init 15 = .ok (.newarray .int, 2) := by decide +kernel
theorem dX0_init_17 : decode cX0_init 17 = .ok (.putfield 15, 3) := by decide +kernel
theorem dX0_init_20 : decode cX0_init 20 = .ok (.return_, 1) := by decide +kernel
theorem dX0_restart_0 : decode cX0_restart 0 = .ok (.aload_n 0, 1) := by decide +kernel
theorem dX0_restart_1 : decode cX0_restart 1 = .ok (.iload_n 1, 1) := by decide +kernel
theorem dX0_restart_2 : decode cX0_restart 2 = .ok (.putfield 18, 3) := by decide +kernel
theorem dX0_restart_5 : decode cX0_restart 5 = .ok (.aload_n 0, 1) := by decide +kernel
theorem dX0_restart_6 : decode cX0_restart 6 = .ok (.iconst 0, 1) := by decide +kernel
theorem dX0_restart_7 : decode cX0_restart 7 = .ok (.putfield 22, 3) := by decide +kernel
theorem dX0_restart_10 : decode cX0_restart 10 = .ok (.aload_n 0, 1) := by decide +kernel
theorem dX0_restart_11 : decode cX0_restart 11 = .ok (.iconst 0, 1) := by decide +kernel
theorem dX0_restart_12 : decode cX0_restart 12 = .ok (.putfield 25, 3) := by decide +kernel
theorem dX0_restart_15 : decode cX0_restart 15 = .ok (.aload_n 0, 1) := by decide +kernel
theorem dX0_restart_16 : decode cX0_restart 16 = .ok (.iconst 0, 1) := by decide +kernel
theorem dX0_restart_17 : decode cX0_restart 17 = .ok (.putfield 28, 3) := by decide +kernel
theorem dX0_restart_20 : decode cX0_restart 20 = .ok (.return_, 1) := by decide +kernel
theorem dX0_become_0 : decode cX0_become 0 = .ok (.aload_n 0, 1) := by decide +kernel
theorem dX0_become_1 : decode cX0_become 1 = .ok (.aload_n 1, 1) := by decide +kernel
theorem dX0_become_2 : decode cX0_become 2 = .ok (.getfield 18, 3) := by decide +kernel
theorem dX0_become_5 : decode cX0_become 5 = .ok (.putfield 18, 3) := by decide +kernel
theorem dX0_become_8 : decode cX0_become 8 = .ok (.aload_n 0, 1) := by decide +kernel
theorem dX0_become_9 : decode cX0_become 9 = .ok (.aload_n 1, 1) := by decide +kernel
theorem dX0_become_10 : decode cX0_become 10 = .ok (.getfield 22, 3) := by decide +kernel
theorem dX0_become_13 : decode cX0_become 13 = .ok (.putfield 22, 3) := by decide +kernel
theorem dX0_become_16 : decode cX0_become 16 = .ok (.aload_n 0, 1) := by decide +kernel
theorem dX0_become_17 : decode cX0_become 17 = .ok (.aload_n 1, 1) := by decide +kernel
theorem dX0_become_18 : decode cX0_become 18 = .ok (.getfield 25, 3) := by decide +kernel
theorem dX0_become_21 : decode cX0_become 21 = .ok (.putfield 25, 3) := by decide +kernel
theorem dX0_become_24 : decode cX0_become 24 = .ok (.aload_n 0, 1) := by decide +kernel
theorem dX0_become_25 : decode cX0_become 25 = .ok (.aload_n 1, 1) := by decide +kernel
theorem dX0_become_26 : decode cX0_become 26 = .ok (.getfield 28, 3) := by decide +kernel
theorem dX0_become_29 : decode cX0_become 29 = .ok (.putfield 28, 3) := by decide +kernel
theorem dX0_become_32 : decode cX0_become 32 = .ok (.aload_n 1, 1) := by decide +kernel
theorem dX0_become_33 : decode cX0_become 33 = .ok (.getfield 9, 3) := by decide +kernel
theorem dX0_become_36 : decode cX0_become 36 = .ok (.iconst 0, 1) := by decide +kernel
theorem dX0_become_37 : decode cX0_become 37 = .ok (.aload_n 0, 1) := by decide +kernel
theorem dX0_become_38 : decode cX0_become 38 = .ok (.getfield 9, 3) := by decide +kernel
theorem dX0_become_41 : decode cX0_become 41 = .ok (.iconst 0, 1) := by decide +kernel
theorem dX0_become_42 : decode cX0_become 42 = .ok (.bipush 60, 2) := by decide +kernel
theorem dX0_become_44 : decode cX0_become 44 = .ok (.invokestatic 31, 3) := by decide +kernel
theorem dX0_become_47 : decode cX0_become 47 = .ok (.aload_n 1, 1) := by decide +kernel
theorem dX0_become_48 : decode cX0_become 48 = .ok (.getfield 15, 3) := by decide +kernel
theorem dX0_become_51 : decode cX0_become 51 = .ok (.iconst 0, 1) := by decide +kernel
theorem dX0_become_52 : decode cX0_become 52 = .ok (.aload_n 0, 1) := by decide +kernel
theorem dX0_become_53 : decode cX0_become 53 = .ok (.getfield 15, 3) := by decide +kernel
theorem dX0_become_56 : decode cX0_become 56 = .ok (.iconst 0, 1) := by decide +kernel
theorem dX0_become_57 : decode cX0_become 57 = .ok (.bipush 60, 2) := by decide +kernel
theorem dX0_become_59 : decode cX0_become 59 = .ok (.invokestatic 31, 3) := by decide +kernel
theorem dX0_become_62 : decode cX0_become 62 = .ok (.return_, 1) := by decide +kernel
theorem dX0_go_0 : decode cX0_go 0 = .ok (.aload_n 0, 1) := by decide +kernel
theorem dX0_go_1 : decode cX0_go 1 = .ok (.getfield 28, 3) := by decide +kernel
theorem dX0_go_4 : decode cX0_go 4 = .ok (.bipush 60, 2) := by decide +kernel
theorem dX0_go_6 : decode cX0_go 6 = .ok (.if_icmp .ge 41, 3) := by decide +kernel
theorem dX0_go_9 : decode cX0_go 9 = .ok (.aload_n 0, 1) := by decide +kernel
theorem dX0_go_10 : decode cX0_go 10 = .ok (.getfield 9, 3) := by decide +kernel
theorem dX0_go_13 : decode cX0_go 13 = .ok (.aload_n 0, 1) := by decide +kernel
theorem dX0_go_14 : decode cX0_go 14 = .ok (.getfield 28, 3) := by decide +kernel
theorem dX0_go_17 : decode cX0_go 17 = .ok (.iload_n 1, 1) := by decide +kernel
theorem dX0_go_18 : decode cX0_go 18 = .ok (.iastore, 1) := by decide +kernel
theorem dX0_go_19 : decode cX0_go 19 = .ok (.aload_n 0, 1) := by decide +kernel
theorem dX0_go_20 : decode cX0_go 20 = .ok (.getfield 15, 3) := by decide +kernel
theorem dX0_go_23 : decode cX0_go 23 = .ok (.aload_n 0, 1) := by decide +kernel
theorem dX0_go_24 : decode cX0_go 24 = .ok (.getfield 28, 3) := by decide +kernel
theorem dX0_go_27 : decode cX0_go 27 = .ok (.aload_n 0, 1) := by decide +kernel
theorem dX0_go_28 : decode cX0_go 28 = .ok (.getfield 18, 3) := by decide +kernel
theorem dX0_go_31 : decode cX0_go 31 = .ok (.iastore, 1) := by decide +kernel
theorem dX0_go_32 : decode cX0_go 32 = .ok (.aload_n 0, 1) := by decide +kernel
theorem dX0_go_33 : decode cX0_go 33 = .ok (.dup, 1) := by decide +kernel
theorem dX0_go_34 : decode cX0_go 34 = .ok (.getfield 28, 3) := by decide +kernel
theorem dX0_go_37 : decode cX0_go 37 = .ok (.iconst 1, 1) := by decide +kernel
theorem dX0_go_38 : decode cX0_go 38 = .ok (.iadd, 1) := by decide +kernel
theorem dX0_go_39 : decode cX0_go 39 = .ok (.putfield 28, 3) := by decide +kernel
theorem dX0_go_42 : decode cX0_go 42 = .ok (.aload_n 0, 1) := by decide +kernel
theorem dX0_go_43 : decode cX0_go 43 = .ok (.iload_n 2, 1) := by decide +kernel
theorem dX0_go_44 : decode cX0_go 44 = .ok (.putfield 18, 3) := by decide +kernel
theorem dX0_go_47 : decode cX0_go 47 = .ok (.return_, 1) := by decide +kernel
theorem dX0_goBack_0 : decode cX0_goBack 0 = .ok (.iload_n 1, 1) := by decide +kernel
theorem dX0_goBack_1 : decode cX0_goBack 1 = .ok (.ifCond .lt 26, 3) := by decide +kernel
theorem dX0_goBack_4 : decode cX0_goBack 4 = .ok (.iload_n 1, 1) := by decide +kernel
theorem dX0_goBack_5 : decode cX0_goBack 5 = .ok (.aload_n 0, 1) := by decide +kernel
theorem dX0_goBack_6 : decode cX0_goBack 6 = .ok (.getfield 28, 3) := by decide +kernel
theorem dX0_goBack_9 : decode cX0_goBack 9 = .ok (.if_icmp .ge 18, 3) := by decide +kernel
theorem dX0_goBack_12 : decode cX0_goBack 12 = .ok (.aload_n 0, 1) := by decide +kernel
theorem dX0_goBack_13 : decode cX0_goBack 13 = .ok (.aload_n 0, 1) := by decide +kernel
theorem dX0_goBack_14 : decode cX0_goBack 14 = .ok (.getfield 15, 3) := by decide +kernel
theorem dX0_goBack_17 : decode cX0_goBack 17 = .ok (.iload_n 1, 1) := by decide +kernel
theorem dX0_goBack_18 : decode cX0_goBack 18 = .ok (.iaload, 1) := by decide +kernel
theorem dX0_goBack_19 : decode cX0_goBack 19 = .ok (.putfield 18, 3) := by decide +kernel
theorem dX0_goBack_22 : decode cX0_goBack 22 = .ok (.aload_n 0, 1) := by decide +kernel
theorem dX0_goBack_23 : decode cX0_goBack 23 = .ok (.iload_n 1, 1) := by decide +kernel
theorem dX0_goBack_24 : decode cX0_goBack 24 = .ok (.putfield 28, 3) := by decide +kernel
theorem dX0_goBack_27 : decode cX0_goBack 27 = .ok (.return_, 1) := by decide +kernel
theorem dX0_stepsOf_0 : decode cX0_stepsOf 0 = .ok (.iconst 0, 1) := by decide +kernel
theorem dX0_stepsOf_1 : decode cX0_stepsOf 1 = .ok (.istore_n 2, 1) := by decide +kernel
theorem dX0_stepsOf_2 : decode cX0_stepsOf 2 = .ok (.iconst 0, 1) := by decide +kernel
theorem dX0_stepsOf_3 : decode cX0_stepsOf 3 = .ok (.istore_n 3, 1) := by decide +kernel
theorem dX0_stepsOf_4 : decode cX0_stepsOf 4 = .ok (.iload_n 3, 1) := by decide +kernel
theorem dX0_stepsOf_5 : decode cX0_stepsOf 5 = .ok (.aload_n 0, 1) := by decide +kernel
theorem dX0_stepsOf_6 : decode cX0_stepsOf 6 = .ok (.getfield 28, 3) := by decide +kernel
theorem dX0_stepsOf_9 : decode cX0_stepsOf 9 = .ok (.if_icmp .ge 25, 3) := by decide +kernel
theorem dX0_stepsOf_12 : decode cX0_stepsOf 12 = .ok (.aload_n 0, 1) := by decide +kernel
theorem dX0_stepsOf_13 : decode cX0_stepsOf 13 = .ok (.getfield 9, 3) := by decide +kernel
theorem dX0_stepsOf_16 : decode cX0_stepsOf 16 = .ok (.iload_n 3, 1) := by decide +kernel
theorem dX0_stepsOf_17 : decode cX0_stepsOf 17 = .ok (.iaload, 1) := by decide +kernel
theorem dX0_stepsOf_18 : decode cX0_stepsOf 18 = .ok (.bipush 10, 2) := by decide +kernel
theorem dX0_stepsOf_20 : decode cX0_stepsOf 20 = .ok (.idiv, 1) := by decide +kernel
theorem dX0_stepsOf_21 : decode cX0_stepsOf 21 = .ok (.iload_n 1, 1) := by decide +kernel
theorem dX0_stepsOf_22 : decode cX0_stepsOf 22 = .ok (.if_icmp .ne 6, 3) := by decide +kernel
theorem dX0_stepsOf_25 : decode cX0_stepsOf 25 = .ok (.iinc 2 1, 3) := by decide +kernel
theorem dX0_stepsOf_28 : decode cX0_stepsOf 28 = .ok (.iinc 3 1, 3) := by decide +kernel
theorem dX0_stepsOf_31 : decode cX0_stepsOf 31 = .ok (.goto (-27), 3) := by decide +kernel
theorem dX0_stepsOf_34 : decode cX0_stepsOf 34 = .ok (.iload_n 2, 1) := by decide +kernel
theorem dX0_stepsOf_35 : decode cX0_stepsOf 35 = .ok (.ireturn, 1) := by decide +kernel
theorem dX1_init_0 : decode cX1_init 0 = .ok (.aload_n 0, 1) := by decide +kernel
theorem dX1_init_1 : decode cX1_init 1 = .ok (.invokespecial 3, 3) := by decide +kernel
theorem dX1_init_4 : decode cX1_init 4 = .ok (.return_, 1) := by decide +kernel
theorem dX1_read_0 : decode cX1_read 0 = .ok (.aload_n 0, 1) := by decide +kernel
theorem dX1_read_1 : decode cX1_read 1 = .ok (.aload_n 1, 1) := by decide +kernel
theorem dX1_read_2 : decode cX1_read 2 = .ok (.putfield 9, 3) := by decide +kernel
theorem dX1_read_5 : decode cX1_read 5 = .ok (.aload_n 0, 1) := by decide +kernel
theorem dX1_read_6 : decode cX1_read 6 = .ok (.iload_n 2, 1) := by decide +kernel
theorem dX1_read_7 : decode cX1_read 7 = .ok (.putfield 15, 3) := by decide +kernel
theorem dX1_read_10 : decode cX1_read 10 = .ok (.aload_n 0, 1) := by decide +kernel
theorem dX1_read_11 : decode cX1_read 11 = .ok (.aload_n 1, 1) := by decide +kernel
theorem dX1_read_12 : decode cX1_read 12 = .ok (.iload_n 2, 1) := by decide +kernel
theorem dX1_read_13 : decode cX1_read 13 = .ok (.invokevirtual 19, 3) := by decide +kernel
theorem dX1_read_16 : decode cX1_read 16 = .ok (.putfield 25, 3) := by decide +kernel
theorem dX1_read_19 : decode cX1_read 19 = .ok (.aload_n 0, 1) := by decide +kernel
theorem dX1_read_20 : decode cX1_read 20 = .ok (.iconst 0, 1) := by decide +kernel
theorem dX1_read_21 : decode cX1_read 21 = .ok (.putfield 27, 3) := by decide +kernel
theorem dX1_read_24 : decode cX1_read 24 = .ok (.aload_n 0, 1) := by decide +kernel
theorem dX1_read_25 : decode cX1_read 25 = .ok (.aload_n 3, 1) := by decide +kernel
theorem dX1_read_26 : decode cX1_read 26 = .ok (.putfield 30, 3) := by decide +kernel
theorem dX1_read_29 : decode cX1_read 29 = .ok (.aload_n 0, 1) := by decide +kernel
theorem dX1_read_30 : decode cX1_read 30 = .ok (.getfield 30, 3) := by decide +kernel
theorem dX1_read_33 : decode cX1_read 33 = .ok (.invokevirtual 34, 3) := by decide +kernel
theorem dX1_read_36 : decode cX1_read 36 = .ok (.aload_n 0, 1) := by decide +kernel
theorem dX1_read_37 : decode cX1_read 37 = .ok (.invokevirtual 39, 3) := by decide +kernel
theorem dX1_read_40 : decode cX1_read 40 = .ok (.aload_n 0, 1) := by decide +kernel
theorem dX1_read_41 : decode cX1_read 41 = .ok (.invokevirtual 42, 3) := by decide +kernel
theorem dX1_read_44 : decode cX1_read 44 = .ok (.ifCond .eq 17, 3) := by decide +kernel
theorem dX1_read_47 : decode cX1_read 47 = .ok (.aload_n 0, 1) := by decide +kernel
theorem dX1_read_48 : decode cX1_read 48 = .ok (.invokevirtual 46, 3) := by decide +kernel
theorem dX1_read_51 : decode cX1_read 51 = .ok (.ifCond .eq 10, 3) := by decide +kernel
theorem dX1_read_54 : decode cX1_read 54 = .ok (.aload_n 0, 1) := by decide +kernel
theorem dX1_read_55 : decode cX1_read 55 = .ok (.invokevirtual 49, 3) := by decide +kernel
theorem dX1_read_58 : decode cX1_read 58 = .ok (.ifCond .ne 8, 3) := by decide +kernel
theorem dX1_read_61 : decode cX1_read 61 = .ok (.aload_n 0, 1) := by decide +kernel
theorem dX1_read_62 : decode cX1_read 62 = .ok (.getfield 27, 3) := by decide +kernel
theorem dX1_read_65 : decode cX1_read 65 = .ok (.ireturn, 1) := by decide +kernel
theorem dX1_read_66 : decode cX1_read 66 = .ok (.aload_n 0, 1) := by decide +kernel
theorem dX1_read_67 : decode cX1_read 67 = .ok (.invokevirtual 39, 3) := by decide +kernel
theorem dX1_read_70 : decode cX1_read 70 = .ok (.aload_n 0, 1) := by decide +kernel
theorem dX1_read_71 : decode cX1_read 71 = .ok (.getfield 27, 3) := by decide +kernel
theorem dX1_read_74 : decode cX1_read 74 = .ok (.aload_n 0, 1) := by decide +kernel
theorem dX1_read_75 : decode cX1_read 75 = .ok (.getfield 25, 3) := by decide +kernel
theorem dX1_read_78 : decode cX1_read 78 = .ok (.if_icmp .ge 10, 3) := by decide +kernel
theorem dX1_read_81 : decode cX1_read 81 = .ok (.aload_n 0, 1) := by decide +kernel
theorem dX1_read_82 : decode cX1_read 82 = .ok (.getfield 27, 3) := by decide +kernel
theorem dX1_read_85 : decode cX1_read 85 = .ok (.goto 5, 3) := by decide +kernel
theorem dX1_read_88 : decode cX1_read 88 = .ok (.bipush (-9), 2) := by decide +kernel
theorem dX1_read_90 : decode cX1_read 90 = .ok (.ireturn, 1) := by decide +kernel
theorem dX1_sign_0 : decode cX1_sign 0 = .ok (.aload_n 0, 1) := by decide +kernel
theorem dX1_sign_1 : decode cX1_sign 1 = .ok (.getfield 9, 3) := by decide +kernel
theorem dX1_sign_4 : decode cX1_sign 4 = .ok (.aload_n 0, 1) := by decide +kernel
theorem dX1_sign_5 : decode cX1_sign 5 = .ok (.getfield 15, 3) := by decide +kernel
theorem dX1_sign_8 : decode cX1_sign 8 = .ok (.aload_n 0, 1) := by decide +kernel
theorem dX1_sign_9 : decode cX1_sign 9 = .ok (.getfield 27, 3) := by decide +kernel
theorem dX1_sign_12 : decode cX1_sign 12 = .ok (.invokevirtual 52, 3) := by decide +kernel
theorem dX1_sign_15 : decode cX1_sign 15 = .ok (.ireturn, 1) := by decide +kernel
theorem dX1_skipBlanks_0 : decode cX1_skipBlanks 0 = .ok (.aload_n 0, 1) := by decide +kernel
theorem dX1_skipBlanks_1 : decode cX1_skipBlanks 1 = .ok (.getfield 27, 3) := by decide +kernel
theorem dX1_skipBlanks_4 : decode cX1_skipBlanks 4 = .ok (.aload_n 0, 1) := by decide +kernel
theorem dX1_skipBlanks_5 : decode cX1_skipBlanks 5 = .ok (.getfield 25, 3) := by decide +kernel
theorem dX1_skipBlanks_8 : decode cX1_skipBlanks 8 = .ok (.if_icmp .ge 26, 3) := by decide +kernel
theorem dX1_skipBlanks_11 : decode cX1_skipBlanks 11 = .ok (.aload_n 0, 1) := by decide +kernel
theorem dX1_skipBlanks_12 : decode cX1_skipBlanks 12 = .ok (.invokevirtual 56, 3) := by decide +kernel
theorem dX1_skipBlanks_15 : decode cX1_skipBlanks 15 = .ok (.bipush 32, 2) := by decide +kernel
theorem dX1_skipBlanks_17 : decode cX1_skipBlanks 17 = .ok (.if_icmp .eq 4, 3) := by decide +kernel
theorem dX1_skipBlanks_20 : decode cX1_skipBlanks 20 = .ok (.return_, 1) := by decide +kernel
theorem dX1_skipBlanks_21 : decode cX1_skipBlanks 21 = .ok (.aload_n 0, 1) := by decide +kernel
theorem dX1_skipBlanks_22 : decode cX1_skipBlanks 22 = .ok (.dup, 1) := by decide +kernel
theorem dX1_skipBlanks_23 : decode cX1_skipBlanks 23 = .ok (.getfield 27, 3) := by decide +kernel
theorem dX1_skipBlanks_26 : decode cX1_skipBlanks 26 = .ok (.iconst 1, 1) := by decide +kernel
theorem dX1_skipBlanks_27 : decode cX1_skipBlanks 27 = .ok (.iadd, 1) := by decide +kernel
theorem dX1_skipBlanks_28 : decode cX1_skipBlanks 28 = .ok (.putfield 27, 3) := by decide +kernel
theorem dX1_skipBlanks_31 : decode cX1_skipBlanks 31 = .ok (.goto (-31), 3) := by decide +kernel
theorem dX1_skipBlanks_34 : decode cX1_skipBlanks 34 = .ok (.return_, 1) := by decide +kernel
theorem dX1_readCells_0 : decode cX1_readCells 0 = .ok (.iconst 0, 1) := by decide +kernel
theorem dX1_readCells_1 : decode cX1_readCells 1 = .ok (.istore_n 1, 1) := by decide +kernel
theorem dX1_readCells_2 : decode cX1_readCells 2 = .ok (.aload_n 0, 1) := by decide +kernel
theorem dX1_readCells_3 : decode cX1_readCells 3 = .ok (.getfield 27, 3) := by decide +kernel
theorem dX1_readCells_6 : decode cX1_readCells 6 = .ok (.aload_n 0, 1) := by decide +kernel
theorem dX1_readCells_7 : decode cX1_readCells 7 = .ok (.getfield 25, 3) := by decide +kernel
theorem dX1_readCells_10 : decode cX1_readCells 10 = .ok (.if_icmp .ge 121, 3) := by decide +kernel
theorem dX1_readCells_13 : decode cX1_readCells 13 = .ok (.aload_n 0, 1) := by decide +kernel
theorem dX1_readCells_14 : decode cX1_readCells 14 = .ok (.invokevirtual 56, 3) := by decide +kernel
theorem dX1_readCells_17 : decode cX1_readCells 17 = .ok (.istore_n 2, 1) := by decide +kernel
theorem dX1_readCells_18 : decode cX1_readCells 18 = .ok (.iload_n 2, 1) := by decide +kernel
theorem dX1_readCells_19 : decode cX1_readCells 19 = .ok (.bipush 47, 2) := by decide +kernel
theorem dX1_readCells_21 : decode cX1_readCells 21 = .ok (.if_icmp .eq 50, 3) := by decide +kernel
theorem dX1_readCells_24 : decode cX1_readCells 24 = .ok (.iload_n 2, 1) := by decide +kernel
theorem dX1_readCells_25 : decode cX1_readCells 25 = .ok (.bipush 61, 2) := by decide +kernel
theorem dX1_readCells_27 : decode cX1_readCells 27 = .ok (.if_icmp .eq 44, 3) := by decide +kernel
theorem dX1_readCells_30 : decode cX1_readCells 30 = .ok (.iload_n 1, 1) := by decide +kernel
theorem dX1_readCells_31 : decode cX1_readCells 31 = .ok (.aload_n 0, 1) := by decide +kernel
theorem dX1_readCells_32 : decode cX1_readCells 32 = .ok (.getfield 30, 3) := by decide +kernel
theorem dX1_readCells_35 : decode cX1_readCells 35 = .ok (.getfield 60, 3) := by decide +kernel
theorem dX1_readCells_38 : decode cX1_readCells 38 = .ok (.ifCond .ne 7, 3) := by decide +kernel
theorem dX1_readCells_41 : decode cX1_readCells 41 = .ok (.iconst 4, 1) := by decide +kernel
theorem dX1_readCells_42 : decode cX1_readCells 42 = .ok (.goto 10, 3) := by decide +kernel
theorem dX1_readCells_45 : decode cX1_readCells 45 = .ok (.aload_n 0, 1) := by decide +kernel
theorem dX1_readCells_46 : decode cX1_readCells 46 = .ok (.getfield 30, 3) := by decide +kernel
theorem dX1_readCells_49 : decode cX1_readCells 49 = .ok (.getfield 63, 3) := by decide +kernel
theorem dX1_readCells_52 : decode cX1_readCells 52 = .ok (.if_icmp .ge 11, 3) := by decide +kernel
theorem dX1_readCells_55 : decode cX1_readCells 55 = .ok (.aload_n 0, 1) := by decide +kernel
theorem dX1_readCells_56 : decode cX1_readCells 56 = .ok (.iload_n 2, 1) := by decide +kernel
theorem dX1_readCells_57 : decode cX1_readCells 57 = .ok (.invokevirtual 66, 3) := by decide +kernel
theorem dX1_readCells_60 : decode cX1_readCells 60 = .ok (.ifCond .ne 5, 3) := by decide +kernel
theorem dX1_readCells_63 : decode cX1_readCells 63 = .ok (.iconst 0, 1) := by decide +kernel
theorem dX1_readCells_64 : decode cX1_readCells 64 = .ok (.ireturn, 1) := by decide +kernel
theorem dX1_readCells_65 : decode cX1_readCells 65 = .ok (.iinc 1 1, 3) := by decide +kernel
theorem dX1_readCells_68 : decode cX1_readCells 68 = .ok (.goto 50, 3) := by decide +kernel
theorem dX1_readCells_71 : decode cX1_readCells 71 = .ok (.aload_n 0, 1) := by decide +kernel
theorem dX1_readCells_72 : decode cX1_readCells 72 = .ok (.iload_n 1, 1) := by decide +kernel
theorem dX1_readCells_73 : decode cX1_readCells 73 = .ok (.invokevirtual 70, 3) := by decide +kernel
theorem dX1_readCells_76 : decode cX1_readCells 76 = .ok (.ifCond .eq 20, 3) := by decide +kernel
theorem dX1_readCells_79 : decode cX1_readCells 79 = .ok (.iload_n 2, 1) := by decide +kernel
theorem dX1_readCells_80 : decode cX1_readCells 80 = .ok (.bipush 47, 2) := by decide +kernel
theorem dX1_readCells_82 : decode cX1_readCells 82 = .ok (.if_icmp .ne 16, 3) := by decide +kernel
theorem dX1_readCells_85 : decode cX1_readCells 85 = .ok (.aload_n 0, 1) := by decide +kernel
theorem dX1_readCells_86 : decode cX1_readCells 86 = .ok (.getfield 30, 3) := by decide +kernel
theorem dX1_readCells_89 : decode cX1_readCells 89 = .ok (.getfield 60, 3) := by decide +kernel
theorem dX1_readCells_92 : decode cX1_readCells 92 = .ok (.iconst 3, 1) := by decide +kernel
theorem dX1_readCells_93 : decode cX1_readCells 93 = .ok (.if_icmp .ne 5, 3) := by decide +kernel
theorem dX1_readCells_96 : decode cX1_readCells 96 = .ok (.iconst 0, 1) := by decide +kernel
theorem dX1_readCells_97 : decode cX1_readCells 97 = .ok (.ireturn, 1) := by decide +kernel
theorem dX1_readCells_98 : decode cX1_readCells 98 = .ok (.iconst 0, 1) := by decide +kernel
theorem dX1_readCells_99 : decode cX1_readCells 99 = .ok (.istore_n 1, 1) := by decide +kernel
theorem dX1_readCells_100 : decode cX1_readCells 100 = .ok (.iload_n 2, 1) := by decide +kernel
theorem dX1_readCells_101 : decode cX1_readCells 101 = .ok (.bipush 61, 2) := by decide +kernel
theorem dX1_readCells_103 : decode cX1_readCells 103 = .ok (.if_icmp .ne 15, 3) := by decide +kernel
theorem dX1_readCells_106 : decode cX1_readCells 106 = .ok (.aload_n 0, 1) := by decide +kernel
theorem dX1_readCells_107 : decode cX1_readCells 107 = .ok (.dup, 1) := by decide +kernel
theorem dX1_readCells_108 : decode cX1_readCells 108 = .ok (.getfield 27, 3) := by decide +kernel
theorem dX1_readCells_111 : decode cX1_readCells 111 = .ok (.iconst 1, 1) := by decide +kernel
theorem dX1_readCells_112 : decode cX1_readCells 112 = .ok (.iadd, 1) := by decide +kernel
theorem dX1_readCells_113 : decode cX1_readCells 113 = .ok (.putfield 27, 3) := by decide +kernel
theorem dX1_readCells_116 : decode cX1_readCells 116 = .ok (.iconst 1, 1) := by decide +kernel
theorem dX1_readCells_117 : decode cX1_readCells 117 = .ok (.ireturn, 1) := by decide +kernel
theorem dX1_readCells_118 : decode cX1_readCells 118 = .ok (.aload_n 0, 1) := by decide +kernel
theorem dX1_readCells_119 : decode cX1_readCells 119 = .ok (.dup, 1) := by decide +kernel
theorem dX1_readCells_120 : decode cX1_readCells 120 = .ok (.getfield 27, 3) := by decide +kernel
theorem dX1_readCells_123 : decode cX1_readCells 123 = .ok (.iconst 1, 1) := by decide +kernel
theorem dX1_readCells_124 : decode cX1_readCells 124 = .ok (.iadd, 1) := by decide +kernel
theorem dX1_readCells_125 : decode cX1_readCells 125 = .ok (.putfield 27, 3) := by decide +kernel
theorem dX1_readCells_128 : decode cX1_readCells 128 = .ok (.goto (-126), 3) := by decide +kernel
theorem dX1_readCells_131 : decode cX1_readCells 131 = .ok (.iconst 0, 1) := by decide +kernel
theorem dX1_readCells_132 : decode cX1_readCells 132 = .ok (.ireturn, 1) := by decide +kernel
theorem dX1_endLine_0 : decode cX1_endLine 0 = .ok (.iload_n 1, 1) := by decide +kernel
theorem dX1_endLine_1 : decode cX1_endLine 1 = .ok (.ifCond .eq 24, 3) := by decide +kernel
theorem dX1_endLine_4 : decode cX1_endLine 4 = .ok (.aload_n 0, 1) := by decide +kernel
theorem dX1_endLine_5 : decode cX1_endLine 5 = .ok (.getfield 30, 3) := by decide +kernel
theorem dX1_endLine_8 : decode cX1_endLine 8 = .ok (.getfield 60, 3) := by decide +kernel
theorem dX1_endLine_11 : decode cX1_endLine 11 = .ok (.ifCond .le 16, 3) := by decide +kernel
theorem dX1_endLine_14 : decode cX1_endLine 14 = .ok (.iload_n 1, 1) := by decide +kernel
theorem dX1_endLine_15 : decode cX1_endLine 15 = .ok (.aload_n 0, 1) := by decide +kernel
theorem dX1_endLine_16 : decode cX1_endLine 16 = .ok (.getfield 30, 3) := by decide +kernel
theorem dX1_endLine_19 : decode cX1_endLine 19 = .ok (.getfield 63, 3) := by decide +kernel
theorem dX1_endLine_22 : decode cX1_endLine 22 = .ok (.if_icmp .eq 5, 3) := by decide +kernel
theorem dX1_endLine_25 : decode cX1_endLine 25 = .ok (.iconst 0, 1) := by decide +kernel
theorem dX1_endLine_26 : decode cX1_endLine 26 = .ok (.ireturn, 1) := by decide +kernel
theorem dX1_endLine_27 : decode cX1_endLine 27 = .ok (.aload_n 0, 1) := by decide +kernel
theorem dX1_endLine_28 : decode cX1_endLine 28 = .ok (.getfield 30, 3) := by decide +kernel
theorem dX1_endLine_31 : decode cX1_endLine 31 = .ok (.iload_n 1, 1) := by decide +kernel
theorem dX1_endLine_32 : decode cX1_endLine 32 = .ok (.putfield 63, 3) := by decide +kernel
theorem dX1_endLine_35 : decode cX1_endLine 35 = .ok (.aload_n 0, 1) := by decide +kernel
theorem dX1_endLine_36 : decode cX1_endLine 36 = .ok (.getfield 30, 3) := by decide +kernel
theorem dX1_endLine_39 : decode cX1_endLine 39 = .ok (.dup, 1) := by decide +kernel
theorem dX1_endLine_40 : decode cX1_endLine 40 = .ok (.getfield 60, 3) := by decide +kernel
theorem dX1_endLine_43 : decode cX1_endLine 43 = .ok (.iconst 1, 1) := by decide +kernel
theorem dX1_endLine_44 : decode cX1_endLine 44 = .ok (.iadd, 1) := by decide +kernel
theorem dX1_endLine_45 : decode cX1_endLine 45 = .ok (.putfield 60, 3) := by decide +kernel
theorem dX1_endLine_48 : decode cX1_endLine 48 = .ok (.iconst 1, 1) := by decide +kernel
theorem dX1_endLine_49 : decode cX1_endLine 49 = .ok (.ireturn, 1) := by decide +kernel
theorem dX1_addCell_0 : decode cX1_addCell 0 = .ok (.iload_n 1, 1) := by decide +kernel
theorem dX1_addCell_1 : decode cX1_addCell 1 = .ok (.invokestatic 73, 3) := by decide +kernel
theorem dX1_addCell_4 : decode cX1_addCell 4 = .ok (.istore_n 2, 1) := by decide +kernel
theorem dX1_addCell_5 : decode cX1_addCell 5 = .ok (.iload_n 2, 1) := by decide +kernel
theorem dX1_addCell_6 : decode cX1_addCell 6 = .ok (.bipush (-9), 2) := by decide +kernel
theorem dX1_addCell_8 : decode cX1_addCell 8 = .ok (.if_icmp .ne 15, 3) := by decide +kernel
theorem dX1_addCell_11 : decode cX1_addCell 11 = .ok (.iload_n 1, 1) := by decide +kernel
theorem dX1_addCell_12 : decode cX1_addCell 12 = .ok (.bipush 46, 2) := by decide +kernel
theorem dX1_addCell_14 : decode cX1_addCell 14 = .ok (.if_icmp .eq 9, 3) := by decide +kernel
theorem dX1_addCell_17 : decode cX1_addCell 17 = .ok (.iload_n 1, 1) := by decide +kernel
theorem dX1_addCell_18 : decode cX1_addCell 18 = .ok (.bipush 35, 2) := by decide +kernel
theorem dX1_addCell_20 : decode cX1_addCell 20 = .ok (.if_icmp .ne 20, 3) := by decide +kernel
theorem dX1_addCell_23 : decode cX1_addCell 23 = .ok (.iload_n 2, 1) := by decide +kernel
theorem dX1_addCell_24 : decode cX1_addCell 24 = .ok (.bipush (-9), 2) := by decide +kernel
theorem dX1_addCell_26 : decode cX1_addCell 26 = .ok (.if_icmp .eq 16, 3) := by decide +kernel
theorem dX1_addCell_29 : decode cX1_addCell 29 = .ok (.aload_n 0, 1) := by decide +kernel
theorem dX1_addCell_30 : decode cX1_addCell 30 = .ok (.getfield 30, 3) := by decide +kernel
theorem dX1_addCell_33 : decode cX1_addCell 33 = .ok (.getfield 76, 3) := by decide +kernel
theorem dX1_addCell_36 : decode cX1_addCell 36 = .ok (.iconst 4, 1) := by decide +kernel
theorem dX1_addCell_37 : decode cX1_addCell 37 = .ok (.if_icmp .ne 5, 3) := by decide +kernel
theorem dX1_addCell_40 : decode cX1_addCell 40 = .ok (.iconst 0, 1) := by decide +kernel
theorem dX1_addCell_41 : decode cX1_addCell 41 = .ok (.ireturn, 1) := by decide +kernel
theorem dX1_addCell_42 : decode cX1_addCell 42 = .ok (.iload_n 1, 1) := by decide +kernel
theorem dX1_addCell_43 : decode cX1_addCell 43 = .ok (.bipush 35, 2) := by decide +kernel
theorem dX1_addCell_45 : decode cX1_addCell 45 = .ok (.if_icmp .ne 24, 3) := by decide +kernel
theorem dX1_addCell_48 : decode cX1_addCell 48 = .ok (.aload_n 0, 1) := by decide +kernel
theorem dX1_addCell_49 : decode cX1_addCell 49 = .ok (.getfield 30, 3) := by decide +kernel
theorem dX1_addCell_52 : decode cX1_addCell 52 = .ok (.dup, 1) := by decide +kernel
theorem dX1_addCell_53 : decode cX1_addCell 53 = .ok (.getfield 79, 3) := by decide +kernel
theorem dX1_addCell_56 : decode cX1_addCell 56 = .ok (.iconst 1, 1) := by decide +kernel
theorem dX1_addCell_57 : decode cX1_addCell 57 = .ok (.aload_n 0, 1) := by decide +kernel
theorem dX1_addCell_58 : decode cX1_addCell 58 = .ok (.getfield 30, 3) := by decide +kernel
theorem dX1_addCell_61 : decode cX1_addCell 61 = .ok (.getfield 82, 3) := by decide +kernel
theorem dX1_addCell_64 : decode cX1_addCell 64 = .ok (.ishl, 1) := by decide +kernel
theorem dX1_addCell_65 : decode cX1_addCell 65 = .ok (.ior, 1) := by decide +kernel
theorem dX1_addCell_66 : decode cX1_addCell 66 = .ok (.putfield 79, 3) := by decide +kernel
theorem dX1_addCell_69 : decode cX1_addCell 69 = .ok (.iload_n 2, 1) := by decide +kernel
theorem dX1_addCell_70 : decode cX1_addCell 70 = .ok (.bipush (-9), 2) := by decide +kernel
theorem dX1_addCell_72 : decode cX1_addCell 72 = .ok (.if_icmp .eq 54, 3) := by decide +kernel
theorem dX1_addCell_75 : decode cX1_addCell 75 = .ok (.aload_n 0, 1) := by decide +kernel
theorem dX1_addCell_76 : decode cX1_addCell 76 = .ok (.getfield 30, 3) := by decide +kernel
theorem dX1_addCell_79 : decode cX1_addCell 79 = .ok (.getfield 85, 3) := by decide +kernel
theorem dX1_addCell_82 : decode cX1_addCell 82 = .ok (.aload_n 0, 1) := by decide +kernel
theorem dX1_addCell_83 : decode cX1_addCell 83 = .ok (.getfield 30, 3) := by decide +kernel
theorem dX1_addCell_86 : decode cX1_addCell 86 = .ok (.getfield 76, 3) := by decide +kernel
theorem dX1_addCell_89 : decode cX1_addCell 89 = .ok (.iload_n 2, 1) := by decide +kernel
theorem dX1_addCell_90 : decode cX1_addCell 90 = .ok (.iastore, 1) := by decide +kernel
theorem dX1_addCell_91 : decode cX1_addCell 91 = .ok (.aload_n 0, 1) := by decide +kernel
theorem dX1_addCell_92 : decode cX1_addCell 92 = .ok (.getfield 30, 3) := by decide +kernel
theorem dX1_addCell_95 : decode cX1_addCell 95 = .ok (.getfield 89, 3) := by decide +kernel
theorem dX1_addCell_98 : decode cX1_addCell 98 = .ok (.aload_n 0, 1) := by decide +kernel
theorem dX1_addCell_99 : decode cX1_addCell 99 = .ok (.getfield 30, 3) := by decide +kernel
theorem dX1_addCell_102 : decode cX1_addCell 102 = .ok (.getfield 76, 3) := by decide +kernel
theorem dX1_addCell_105 : decode cX1_addCell 105 = .ok (.aload_n 0, 1) := by decide +kernel
theorem dX1_addCell_106 : decode cX1_addCell 106 = .ok (.getfield 30, 3) := by decide +kernel
theorem dX1_addCell_109 : decode cX1_addCell 109 = .ok (.getfield 82, 3) := by decide +kernel
theorem dX1_addCell_112 : decode cX1_addCell 112 = .ok (.iastore, 1) := by decide +kernel
theorem dX1_addCell_113 : decode cX1_addCell 113 = .ok (.aload_n 0, 1) := by decide +kernel
theorem dX1_addCell_114 : decode cX1_addCell 114 = .ok (.getfield 30, 3) := by decide +kernel
theorem dX1_addCell_117 : decode cX1_addCell 117 = .ok (.dup, 1) := by decide +kernel
theorem dX1_addCell_118 : decode cX1_addCell 118 = .ok (.getfield 76, 3) := by decide +kernel
theorem dX1_addCell_121 : decode cX1_addCell 121 = .ok (.iconst 1, 1) := by decide +kernel
theorem dX1_addCell_122 : decode cX1_addCell 122 = .ok (.iadd, 1) := by decide +kernel
theorem dX1_addCell_123 : decode cX1_addCell 123 = .ok (.putfield 76, 3) := by decide +kernel
theorem dX1_addCell_126 : decode cX1_addCell 126 = .ok (.aload_n 0, 1) := by decide +kernel
theorem dX1_addCell_127 : decode cX1_addCell 127 = .ok (.getfield 30, 3) := by decide +kernel
theorem dX1_addCell_130 : decode cX1_addCell 130 = .ok (.dup, 1) := by decide +kernel
theorem dX1_addCell_131 : decode cX1_addCell 131 = .ok (.getfield 82, 3) := by decide +kernel
theorem dX1_addCell_134 : decode cX1_addCell 134 = .ok (.iconst 1, 1) := by decide +kernel
theorem dX1_addCell_135 : decode cX1_addCell 135 = .ok (.iadd, 1) := by decide +kernel
theorem dX1_addCell_136 : decode cX1_addCell 136 = .ok (.putfield 82, 3) := by decide +kernel
theorem dX1_addCell_139 : decode cX1_addCell 139 = .ok (.iconst 1, 1) := by decide +kernel
theorem dX1_addCell_140 : decode cX1_addCell 140 = .ok (.ireturn, 1) := by decide +kernel
theorem dX1_kindBySign_0 : decode cX1_kindBySign 0 = .ok (.iload_n 0, 1) := by decide +kernel
theorem dX1_kindBySign_1 : decode cX1_kindBySign 1 = .ok (.tableswitch 107 97 116 #[99, 107, 107, 103, 107, 107, 107, 107, 107, 107, 107, 101, 95, 107, 107, 107, 107, 107, 105, 97], 95) := by decide +kernel
theorem dX1_kindBySign_96 : decode cX1_kindBySign 96 = .ok (.iconst 0, 1) := by decide +kernel
theorem dX1_kindBySign_97 : decode cX1_kindBySign 97 = .ok (.ireturn, 1) := by decide +kernel
theorem dX1_kindBySign_98 : decode cX1_kindBySign 98 = .ok (.iconst 1, 1) := by decide +kernel
theorem dX1_kindBySign_99 : decode cX1_kindBySign 99 = .ok (.ireturn, 1) := by decide +kernel
theorem dX1_kindBySign_100 : decode cX1_kindBySign 100 = .ok (.iconst 2, 1) := by decide +kernel
theorem dX1_kindBySign_101 : decode cX1_kindBySign 101 = .ok (.ireturn, 1) := by decide +kernel
theorem dX1_kindBySign_102 : decode cX1_kindBySign 102 = .ok (.iconst 3, 1) := by decide +kernel
theorem dX1_kindBySign_103 : decode cX1_kindBySign 103 = .ok (.ireturn, 1) := by decide +kernel
theorem dX1_kindBySign_104 : decode cX1_kindBySign 104 = .ok (.iconst 4, 1) := by decide +kernel
theorem dX1_kindBySign_105 : decode cX1_kindBySign 105 = .ok (.ireturn, 1) := by decide +kernel
theorem dX1_kindBySign_106 : decode cX1_kindBySign 106 = .ok (.iconst 5, 1) := by decide +kernel
theorem dX1_kindBySign_107 : decode cX1_kindBySign 107 = .ok (.ireturn, 1) := by decide +kernel
theorem dX1_kindBySign_108 : decode cX1_kindBySign 108 = .ok (.bipush (-9), 2) := by decide +kernel
theorem dX1_kindBySign_110 : decode cX1_kindBySign 110 = .ok (.ireturn, 1) := by decide +kernel
theorem dX1_readForm_0 : decode cX1_readForm 0 = .ok (.aload_n 0, 1) := by decide +kernel
theorem dX1_readForm_1 : decode cX1_readForm 1 = .ok (.getfield 27, 3) := by decide +kernel
theorem dX1_readForm_4 : decode cX1_readForm 4 = .ok (.aload_n 0, 1) := by decide +kernel
theorem dX1_readForm_5 : decode cX1_readForm 5 = .ok (.getfield 25, 3) := by decide +kernel
theorem dX1_readForm_8 : decode cX1_readForm 8 = .ok (.if_icmp .ge 21, 3) := by decide +kernel
theorem dX1_readForm_11 : decode cX1_readForm 11 = .ok (.aload_n 0, 1) := by decide +kernel
theorem dX1_readForm_12 : decode cX1_readForm 12 = .ok (.invokevirtual 56, 3) := by decide +kernel
theorem dX1_readForm_15 : decode cX1_readForm 15 = .ok (.bipush 119, 2) := by decide +kernel
theorem dX1_readForm_17 : decode cX1_readForm 17 = .ok (.if_icmp .eq 14, 3) := by decide +kernel
theorem dX1_readForm_20 : decode cX1_readForm 20 = .ok (.aload_n 0, 1) := by decide +kernel
theorem dX1_readForm_21 : decode cX1_readForm 21 = .ok (.invokevirtual 56, 3) := by decide +kernel
theorem dX1_readForm_24 : decode cX1_readForm 24 = .ok (.bipush 114, 2) := by decide +kernel
theorem dX1_readForm_26 : decode cX1_readForm 26 = .ok (.if_icmp .eq 5, 3) := by decide +kernel
theorem dX1_readForm_29 : decode cX1_readForm 29 = .ok (.iconst 0, 1) := by decide +kernel
theorem dX1_readForm_30 : decode cX1_readForm 30 = .ok (.ireturn, 1) := by decide +kernel
theorem dX1_readForm_31 : decode cX1_readForm 31 = .ok (.aload_n 0, 1) := by decide +kernel
theorem dX1_readForm_32 : decode cX1_readForm 32 = .ok (.getfield 30, 3) := by decide +kernel
theorem dX1_readForm_35 : decode cX1_readForm 35 = .ok (.aload_n 0, 1) := by decide +kernel
theorem dX1_readForm_36 : decode cX1_readForm 36 = .ok (.invokevirtual 56, 3) := by decide +kernel
theorem dX1_readForm_39 : decode cX1_readForm 39 = .ok (.bipush 114, 2) := by decide +kernel
theorem dX1_readForm_41 : decode cX1_readForm 41 = .ok (.if_icmp .ne 7, 3) := by decide +kernel
theorem dX1_readForm_44 : decode cX1_readForm 44 = .ok (.iconst 1, 1) := by decide +kernel
theorem dX1_readForm_45 : decode cX1_readForm 45 = .ok (.goto 4, 3) := by decide +kernel
theorem dX1_readForm_48 : decode cX1_readForm 48 = .ok (.iconst 0, 1) := by decide +kernel
theorem dX1_readForm_49 : decode cX1_readForm 49 = .ok (.putfield 92, 3) := by decide +kernel
theorem dX1_readForm_52 : decode cX1_readForm 52 = .ok (.aload_n 0, 1) := by decide +kernel
theorem dX1_readForm_53 : decode cX1_readForm 53 = .ok (.getfield 30, 3) := by decide +kernel
theorem dX1_readForm_56 : decode cX1_readForm 56 = .ok (.invokevirtual 96, 3) := by decide +kernel
theorem dX1_readForm_59 : decode cX1_readForm 59 = .ok (.aload_n 0, 1) := by decide +kernel
theorem dX1_readForm_60 : decode cX1_readForm 60 = .ok (.dup, 1) := by decide +kernel
theorem dX1_readForm_61 : decode cX1_readForm 61 = .ok (.getfield 27, 3) := by decide +kernel
theorem dX1_readForm_64 : decode cX1_readForm 64 = .ok (.iconst 1, 1) := by decide +kernel
theorem dX1_readForm_65 : decode cX1_readForm 65 = .ok (.iadd, 1) := by decide +kernel
theorem dX1_readForm_66 : decode cX1_readForm 66 = .ok (.putfield 27, 3) := by decide +kernel
theorem dX1_readForm_69 : decode cX1_readForm 69 = .ok (.iconst 1, 1) := by decide +kernel
theorem dX1_readForm_70 : decode cX1_readForm 70 = .ok (.ireturn, 1) := by decide +kernel
theorem dX1_readChains_0 : decode cX1_readChains 0 = .ok (.iconst 0, 1) := by decide +kernel
theorem dX1_readChains_1 : decode cX1_readChains 1 = .ok (.istore_n 1, 1) := by decide +kernel
theorem dX1_readChains_2 : decode cX1_readChains 2 = .ok (.iload_n 1, 1) := by decide +kernel
theorem dX1_readChains_3 : decode cX1_readChains 3 = .ok (.aload_n 0, 1) := by decide +kernel
theorem dX1_readChains_4 : decode cX1_readChains 4 = .ok (.getfield 30, 3) := by decide +kernel
theorem dX1_readChains_7 : decode cX1_readChains 7 = .ok (.getfield 99, 3) := by decide +kernel
theorem dX1_readChains_10 : decode cX1_readChains 10 = .ok (.if_icmp .ge 78, 3) := by decide +kernel
theorem dX1_readChains_13 : decode cX1_readChains 13 = .ok (.aload_n 0, 1) := by decide +kernel
theorem dX1_readChains_14 : decode cX1_readChains 14 = .ok (.getfield 27, 3) := by decide +kernel
theorem dX1_readChains_17 : decode cX1_readChains 17 = .ok (.aload_n 0, 1) := by decide +kernel
theorem dX1_readChains_18 : decode cX1_readChains 18 = .ok (.getfield 25, 3) := by decide +kernel
theorem dX1_readChains_21 : decode cX1_readChains 21 = .ok (.if_icmp .ge 21, 3) := by decide +kernel
theorem dX1_readChains_24 : decode cX1_readChains 24 = .ok (.aload_n 0, 1) := by decide +kernel
theorem dX1_readChains_25 : decode cX1_readChains 25 = .ok (.invokevirtual 56, 3) := by decide +kernel
theorem dX1_readChains_28 : decode cX1_readChains 28 = .ok (.bipush 49, 2) := by decide +kernel
theorem dX1_readChains_30 : decode cX1_readChains 30 = .ok (.if_icmp .lt 12, 3) := by decide +kernel
theorem dX1_readChains_33 : decode cX1_readChains 33 = .ok (.aload_n 0, 1) := by decide +kernel
theorem dX1_readChains_34 : decode cX1_readChains 34 = .ok (.invokevirtual 56, 3) := by decide +kernel
theorem dX1_readChains_37 : decode cX1_readChains 37 = .ok (.bipush 57, 2) := by decide +kernel
theorem dX1_readChains_39 : decode cX1_readChains 39 = .ok (.if_icmp .le 5, 3) := by decide +kernel
theorem dX1_readChains_42 : decode cX1_readChains 42 = .ok (.iconst 0, 1) := by decide +kernel
theorem dX1_readChains_43 : decode cX1_readChains 43 = .ok (.ireturn, 1) := by decide +kernel
theorem dX1_readChains_44 : decode cX1_readChains 44 = .ok (.aload_n 0, 1) := by decide +kernel
theorem dX1_readChains_45 : decode cX1_readChains 45 = .ok (.getfield 30, 3) := by decide +kernel
theorem dX1_readChains_48 : decode cX1_readChains 48 = .ok (.iload_n 1, 1) := by decide +kernel
theorem dX1_readChains_49 : decode cX1_readChains 49 = .ok (.aload_n 0, 1) := by decide +kernel
theorem dX1_readChains_50 : decode cX1_readChains 50 = .ok (.invokevirtual 56, 3) := by decide +kernel
theorem dX1_readChains_53 : decode cX1_readChains 53 = .ok (.bipush 48, 2) := by decide +kernel
theorem dX1_readChains_55 : decode cX1_readChains 55 = .ok (.isub, 1) := by decide +kernel
theorem dX1_readChains_56 : decode cX1_readChains 56 = .ok (.invokevirtual 102, 3) := by decide +kernel
theorem dX1_readChains_59 : decode cX1_readChains 59 = .ok (.aload_n 0, 1) := by decide +kernel
theorem dX1_readChains_60 : decode cX1_readChains 60 = .ok (.getfield 30, 3) := by decide +kernel
theorem dX1_readChains_63 : decode cX1_readChains 63 = .ok (.iload_n 1, 1) := by decide +kernel
theorem dX1_readChains_64 : decode cX1_readChains 64 = .ok (.invokevirtual 106, 3) := by decide +kernel
theorem dX1_readChains_67 : decode cX1_readChains 67 = .ok (.ifCond .ne 5, 3) := by decide +kernel
theorem dX1_readChains_70 : decode cX1_readChains 70 = .ok (.iconst 0, 1) := by decide +kernel
theorem dX1_readChains_71 : decode cX1_readChains 71 = .ok (.ireturn, 1) := by decide +kernel
theorem dX1_readChains_72 : decode cX1_readChains 72 = .ok (.aload_n 0, 1) := by decide +kernel
theorem dX1_readChains_73 : decode cX1_readChains 73 = .ok (.dup, 1) := by decide +kernel
theorem dX1_readChains_74 : decode cX1_readChains 74 = .ok (.getfield 27, 3) := by decide +kernel
theorem dX1_readChains_77 : decode cX1_readChains 77 = .ok (.iconst 1, 1) := by decide +kernel
theorem dX1_readChains_78 : decode cX1_readChains 78 = .ok (.iadd, 1) := by decide +kernel
theorem dX1_readChains_79 : decode cX1_readChains 79 = .ok (.putfield 27, 3) := by decide +kernel
theorem dX1_readChains_82 : decode cX1_readChains 82 = .ok (.iinc 1 1, 3) := by decide +kernel
theorem dX1_readChains_85 : decode cX1_readChains 85 = .ok (.goto (-83), 3) := by decide +kernel
theorem dX1_readChains_88 : decode cX1_readChains 88 = .ok (.iconst 1, 1) := by decide +kernel
theorem dX1_readChains_89 : decode cX1_readChains 89 = .ok (.ireturn, 1) := by decide +kernel
theorem dX2_init_0 : decode cX2_init 0 = .ok (.aload_n 0, 1) := by decide +kernel
theorem dX2_init_1 : decode cX2_init 1 = .ok (.invokespecial 3, 3) := by decide +kernel
theorem dX2_init_4 : decode cX2_init 4 = .ok (.return_, 1) := by decide +kernel
theorem dX2_follow_0 : decode cX2_follow 0 = .ok (.aload_n 0, 1) := by decide +kernel
theorem dX2_follow_1 : decode cX2_follow 1 = .ok (.aload_n 1, 1) := by decide +kernel
theorem dX2_follow_2 : decode cX2_follow 2 = .ok (.putfield 9, 3) := by decide +kernel
theorem dX2_follow_5 : decode cX2_follow 5 = .ok (.aload_n 0, 1) := by decide +kernel
theorem dX2_follow_6 : decode cX2_follow 6 = .ok (.iload_n 3, 1) := by decide +kernel
theorem dX2_follow_7 : decode cX2_follow 7 = .ok (.putfield 15, 3) := by decide +kernel
theorem dX2_follow_10 : decode cX2_follow 10 = .ok (.aload_n 0, 1) := by decide +kernel
theorem dX2_follow_11 : decode cX2_follow 11 = .ok (.iconst 0, 1) := by decide +kernel
theorem dX2_follow_12 : decode cX2_follow 12 = .ok (.putfield 19, 3) := by decide +kernel
theorem dX2_follow_15 : decode cX2_follow 15 = .ok (.iconst 0, 1) := by decide +kernel
theorem dX2_follow_16 : decode cX2_follow 16 = .ok (.istore 4, 2) := by decide +kernel
theorem dX2_follow_18 : decode cX2_follow 18 = .ok (.iload 4, 2) := by decide +kernel
theorem dX2_follow_20 : decode cX2_follow 20 = .ok (.aload_n 1, 1) := by decide +kernel
theorem dX2_follow_21 : decode cX2_follow 21 = .ok (.getfield 22, 3) := by decide +kernel
theorem dX2_follow_24 : decode cX2_follow 24 = .ok (.if_icmp .ge 37, 3) := by decide +kernel
theorem dX2_follow_27 : decode cX2_follow 27 = .ok (.aload_n 1, 1) := by decide +kernel
theorem dX2_follow_28 : decode cX2_follow 28 = .ok (.iload 4, 2) := by decide +kernel
theorem dX2_follow_30 : decode cX2_follow 30 = .ok (.invokevirtual 27, 3) := by decide +kernel
theorem dX2_follow_33 : decode cX2_follow 33 = .ok (.aload_n 1, 1) := by decide +kernel
theorem dX2_follow_34 : decode cX2_follow 34 = .ok (.getfield 31, 3) := by decide +kernel
theorem dX2_follow_37 : decode cX2_follow 37 = .ok (.iload_n 2, 1) := by decide +kernel
theorem dX2_follow_38 : decode cX2_follow 38 = .ok (.isub, 1) := by decide +kernel
theorem dX2_follow_39 : decode cX2_follow 39 = .ok (.if_icmp .lt 16, 3) := by decide +kernel
theorem dX2_follow_42 : decode cX2_follow 42 = .ok (.aload_n 0, 1) := by decide +kernel
theorem dX2_follow_43 : decode cX2_follow 43 = .ok (.dup, 1) := by decide +kernel
theorem dX2_follow_44 : decode cX2_follow 44 = .ok (.getfield 19, 3) := by decide +kernel
theorem dX2_follow_47 : decode cX2_follow 47 = .ok (.iconst 1, 1) := by decide +kernel
theorem dX2_follow_48 : decode cX2_follow 48 = .ok (.iload 4, 2) := by decide +kernel
theorem dX2_follow_50 : decode cX2_follow 50 = .ok (.ishl, 1) := by decide +kernel
theorem dX2_follow_51 : decode cX2_follow 51 = .ok (.ior, 1) := by decide +kernel
theorem dX2_follow_52 : decode cX2_follow 52 = .ok (.putfield 19, 3) := by decide +kernel
theorem dX2_follow_55 : decode cX2_follow 55 = .ok (.iinc 4 1, 3) := by decide +kernel
theorem dX2_follow_58 : decode cX2_follow 58 = .ok (.goto (-40), 3) := by decide +kernel
theorem dX2_follow_61 : decode cX2_follow 61 = .ok (.return_, 1) := by decide +kernel
theorem dX2_after_0 : decode cX2_after 0 = .ok (.iload_n 2, 1) := by decide +kernel
theorem dX2_after_1 : decode cX2_after 1 = .ok (.ifCond .lt 43, 3) := by decide +kernel
theorem dX2_after_4 : decode cX2_after 4 = .ok (.iload_n 2, 1) := by decide +kernel
theorem dX2_after_5 : decode cX2_after 5 = .ok (.aload_n 0, 1) := by decide +kernel
theorem dX2_after_6 : decode cX2_after 6 = .ok (.getfield 9, 3) := by decide +kernel
theorem dX2_after_9 : decode cX2_after 9 = .ok (.getfield 34, 3) := by decide +kernel
theorem dX2_after_12 : decode cX2_after 12 = .ok (.if_icmp .ge 32, 3) := by decide +kernel
theorem dX2_after_15 : decode cX2_after 15 = .ok (.iload_n 3, 1) := by decide +kernel
theorem dX2_after_16 : decode cX2_after 16 = .ok (.ifCond .lt 28, 3) := by decide +kernel
theorem dX2_after_19 : decode cX2_after 19 = .ok (.iload_n 3, 1) := by decide +kernel
theorem dX2_after_20 : decode cX2_after 20 = .ok (.iconst 4, 1) := by decide +kernel
theorem dX2_after_21 : decode cX2_after 21 = .ok (.if_icmp .ge 23, 3) := by decide +kernel
theorem dX2_after_24 : decode cX2_after 24 = .ok (.getstatic 37, 3) := by decide +kernel
theorem dX2_after_27 : decode cX2_after 27 = .ok (.aload_n 0, 1) := by decide +kernel
theorem dX2_after_28 : decode cX2_after 28 = .ok (.getfield 9, 3) := by decide +kernel
theorem dX2_after_31 : decode cX2_after 31 = .ok (.getfield 41, 3) := by decide +kernel
theorem dX2_after_34 : decode cX2_after 34 = .ok (.iload_n 2, 1) := by decide +kernel
theorem dX2_after_35 : decode cX2_after 35 = .ok (.iaload, 1) := by decide +kernel
theorem dX2_after_36 : decode cX2_after 36 = .ok (.iaload, 1) := by decide +kernel
theorem dX2_after_37 : decode cX2_after 37 = .ok (.iload_n 3, 1) := by decide +kernel
theorem dX2_after_38 : decode cX2_after 38 = .ok (.ishr, 1) := by decide +kernel
theorem dX2_after_39 : decode cX2_after 39 = .ok (.iconst 1, 1) := by decide +kernel
theorem dX2_after_40 : decode cX2_after 40 = .ok (.iand, 1) := by decide +kernel
theorem dX2_after_41 : decode cX2_after 41 = .ok (.ifCond .ne 6, 3) := by decide +kernel
theorem dX2_after_44 : decode cX2_after 44 = .ok (.bipush (-9), 2) := by decide +kernel
theorem dX2_after_46 : decode cX2_after 46 = .ok (.ireturn, 1) := by decide +kernel
theorem dX2_after_47 : decode cX2_after 47 = .ok (.iload_n 1, 1) := by decide +kernel
theorem dX2_after_48 : decode cX2_after 48 = .ok (.iload_n 2, 1) := by decide +kernel
theorem dX2_after_49 : decode cX2_after 49 = .ok (.invokestatic 44, 3) := by decide +kernel
theorem dX2_after_52 : decode cX2_after 52 = .ok (.istore 4, 2) := by decide +kernel
theorem dX2_after_54 : decode cX2_after 54 = .ok (.aload_n 0, 1) := by decide +kernel
theorem dX2_after_55 : decode cX2_after 55 = .ok (.getfield 9, 3) := by decide +kernel
theorem dX2_after_58 : decode cX2_after 58 = .ok (.getfield 48, 3) := by decide +kernel
theorem dX2_after_61 : decode cX2_after 61 = .ok (.iload 4, 2) := by decide +kernel
theorem dX2_after_63 : decode cX2_after 63 = .ok (.iconst 4, 1) := by decide +kernel
theorem dX2_after_64 : decode cX2_after 64 = .ok (.imul, 1) := by decide +kernel
theorem dX2_after_65 : decode cX2_after 65 = .ok (.iload_n 3, 1) := by decide +kernel
theorem dX2_after_66 : decode cX2_after 66 = .ok (.iadd, 1) := by decide +kernel
theorem dX2_after_67 : decode cX2_after 67 = .ok (.iaload, 1) := by decide +kernel
theorem dX2_after_68 : decode cX2_after 68 = .ok (.istore 5, 2) := by decide +kernel
theorem dX2_after_70 : decode cX2_after 70 = .ok (.iload 5, 2) := by decide +kernel
theorem dX2_after_72 : decode cX2_after 72 = .ok (.bipush (-9), 2) := by decide +kernel
theorem dX2_after_74 : decode cX2_after 74 = .ok (.if_icmp .eq 22, 3) := by decide +kernel
theorem dX2_after_77 : decode cX2_after 77 = .ok (.aload_n 0, 1) := by decide +kernel
theorem dX2_after_78 : decode cX2_after 78 = .ok (.getfield 19, 3) := by decide +kernel
theorem dX2_after_81 : decode cX2_after 81 = .ok (.aload_n 0, 1) := by decide +kernel
theorem dX2_after_82 : decode cX2_after 82 = .ok (.iload_n 1, 1) := by decide +kernel
theorem dX2_after_83 : decode cX2_after 83 = .ok (.invokevirtual 51, 3) := by decide +kernel
theorem dX2_after_86 : decode cX2_after 86 = .ok (.ior, 1) := by decide +kernel
theorem dX2_after_87 : decode cX2_after 87 = .ok (.iload 5, 2) := by decide +kernel
theorem dX2_after_89 : decode cX2_after 89 = .ok (.ishr, 1) := by decide +kernel
theorem dX2_after_90 : decode cX2_after 90 = .ok (.iconst 1, 1) := by decide +kernel
theorem dX2_after_91 : decode cX2_after 91 = .ok (.iand, 1) := by decide +kernel
theorem dX2_after_92 : decode cX2_after 92 = .ok (.iconst 1, 1) := by decide +kernel
theorem dX2_after_93 : decode cX2_after 93 = .ok (.if_icmp .ne 6, 3) := by decide +kernel
theorem dX2_after_96 : decode cX2_after 96 = .ok (.bipush (-9), 2) := by decide +kernel
theorem dX2_after_98 : decode cX2_after 98 = .ok (.ireturn, 1) := by decide +kernel
theorem dX2_after_99 : decode cX2_after 99 = .ok (.iload_n 1, 1) := by decide +kernel
theorem dX2_after_100 : decode cX2_after 100 = .ok (.iload 5, 2) := by decide +kernel
theorem dX2_after_102 : decode cX2_after 102 = .ok (.iload 4, 2) := by decide +kernel
theorem dX2_after_104 : decode cX2_after 104 = .ok (.isub, 1) := by decide +kernel
theorem dX2_after_105 : decode cX2_after 105 = .ok (.getstatic 54, 3) := by decide +kernel
theorem dX2_after_108 : decode cX2_after 108 = .ok (.iload_n 2, 1) := by decide +kernel
theorem dX2_after_109 : decode cX2_after 109 = .ok (.iaload, 1) := by decide +kernel
theorem dX2_after_110 : decode cX2_after 110 = .ok (.imul, 1) := by decide +kernel
theorem dX2_after_111 : decode cX2_after 111 = .ok (.iadd, 1) := by decide +kernel
theorem dX2_after_112 : decode cX2_after 112 = .ok (.istore 6, 2) := by decide +kernel
theorem dX2_after_114 : decode cX2_after 114 = .ok (.aload_n 0, 1) := by decide +kernel
theorem dX2_after_115 : decode cX2_after 115 = .ok (.getfield 9, 3) := by decide +kernel
theorem dX2_after_118 : decode cX2_after 118 = .ok (.iload 6, 2) := by decide +kernel
theorem dX2_after_120 : decode cX2_after 120 = .ok (.aload_n 0, 1) := by decide +kernel
theorem dX2_after_121 : decode cX2_after 121 = .ok (.getfield 15, 3) := by decide +kernel
theorem dX2_after_124 : decode cX2_after 124 = .ok (.invokevirtual 57, 3) := by decide +kernel
theorem dX2_after_127 : decode cX2_after 127 = .ok (.istore 7, 2) := by decide +kernel
theorem dX2_after_129 : decode cX2_after 129 = .ok (.iload 7, 2) := by decide +kernel
theorem dX2_after_131 : decode cX2_after 131 = .ok (.ifCond .eq 56, 3) := by decide +kernel
theorem dX2_after_134 : decode cX2_after 134 = .ok (.aload_n 0, 1) := by decide +kernel
theorem dX2_after_135 : decode cX2_after 135 = .ok (.getfield 9, 3) := by decide +kernel
theorem dX2_after_138 : decode cX2_after 138 = .ok (.getfield 41, 3) := by decide +kernel
theorem dX2_after_141 : decode cX2_after 141 = .ok (.iload_n 2, 1) := by decide +kernel
theorem dX2_after_142 : decode cX2_after 142 = .ok (.iaload, 1) := by decide +kernel
theorem dX2_after_143 : decode cX2_after 143 = .ok (.iconst 1, 1) := by decide +kernel
theorem dX2_after_144 : decode cX2_after 144 = .ok (.if_icmp .ne 43, 3) := by decide +kernel
theorem dX2_after_147 : decode cX2_after 147 = .ok (.aload_n 0, 1) := by decide +kernel
theorem dX2_after_148 : decode cX2_after 148 = .ok (.iload 6, 2) := by decide +kernel
theorem dX2_after_150 : decode cX2_after 150 = .ok (.iload_n 2, 1) := by decide +kernel
theorem dX2_after_151 : decode cX2_after 151 = .ok (.iload 4, 2) := by decide +kernel
theorem dX2_after_153 : decode cX2_after 153 = .ok (.iload 7, 2) := by decide +kernel
theorem dX2_after_155 : decode cX2_after 155 = .ok (.invokevirtual 60, 3) := by decide +kernel
theorem dX2_after_158 : decode cX2_after 158 = .ok (.istore 6, 2) := by decide +kernel
theorem dX2_after_160 : decode cX2_after 160 = .ok (.iload 6, 2) := by decide +kernel
theorem dX2_after_162 : decode cX2_after 162 = .ok (.bipush (-9), 2) := by decide +kernel
theorem dX2_after_164 : decode cX2_after 164 = .ok (.if_icmp .ne 8, 3) := by decide +kernel
theorem dX2_after_167 : decode cX2_after 167 = .ok (.iload 7, 2) := by decide +kernel
theorem dX2_after_169 : decode cX2_after 169 = .ok (.goto 16, 3) := by decide +kernel
theorem dX2_after_172 : decode cX2_after 172 = .ok (.aload_n 0, 1) := by decide +kernel
theorem dX2_after_173 : decode cX2_after 173 = .ok (.getfield 9, 3) := by decide +kernel
theorem dX2_after_176 : decode cX2_after 176 = .ok (.iload 6, 2) := by decide +kernel
theorem dX2_after_178 : decode cX2_after 178 = .ok (.aload_n 0, 1) := by decide +kernel
theorem dX2_after_179 : decode cX2_after 179 = .ok (.getfield 15, 3) := by decide +kernel
theorem dX2_after_182 : decode cX2_after 182 = .ok (.invokevirtual 57, 3) := by decide +kernel
theorem dX2_after_185 : decode cX2_after 185 = .ok (.istore 7, 2) := by decide +kernel
theorem dX2_after_187 : decode cX2_after 187 = .ok (.iload 7, 2) := by decide +kernel
theorem dX2_after_189 : decode cX2_after 189 = .ok (.ifCond .ne 8, 3) := by decide +kernel
theorem dX2_after_192 : decode cX2_after 192 = .ok (.iload 6, 2) := by decide +kernel
theorem dX2_after_194 : decode cX2_after 194 = .ok (.goto 5, 3) := by decide +kernel
theorem dX2_after_197 : decode cX2_after 197 = .ok (.bipush (-9), 2) := by decide +kernel
theorem dX2_after_199 : decode cX2_after 199 = .ok (.ireturn, 1) := by decide +kernel
theorem dX2_taken_0 : decode cX2_taken 0 = .ok (.iconst 0, 1) := by decide +kernel
theorem dX2_taken_1 : decode cX2_taken 1 = .ok (.istore_n 2, 1) := by decide +kernel
theorem dX2_taken_2 : decode cX2_taken 2 = .ok (.iconst 0, 1) := by decide +kernel
theorem dX2_taken_3 : decode cX2_taken 3 = .ok (.istore_n 3, 1) := by decide +kernel
theorem dX2_taken_4 : decode cX2_taken 4 = .ok (.iload_n 3, 1) := by decide +kernel
theorem dX2_taken_5 : decode cX2_taken 5 = .ok (.aload_n 0, 1) := by decide +kernel
theorem dX2_taken_6 : decode cX2_taken 6 = .ok (.getfield 9, 3) := by decide +kernel
theorem dX2_taken_9 : decode cX2_taken 9 = .ok (.getfield 34, 3) := by decide +kernel
theorem dX2_taken_12 : decode cX2_taken 12 = .ok (.if_icmp .ge 24, 3) := by decide +kernel
theorem dX2_taken_15 : decode cX2_taken 15 = .ok (.iload_n 2, 1) := by decide +kernel
theorem dX2_taken_16 : decode cX2_taken 16 = .ok (.iconst 1, 1) := by decide +kernel
theorem dX2_taken_17 : decode cX2_taken 17 = .ok (.iload_n 1, 1) := by decide +kernel
theorem dX2_taken_18 : decode cX2_taken 18 = .ok (.getstatic 54, 3) := by decide +kernel
theorem dX2_taken_21 : decode cX2_taken 21 = .ok (.iload_n 3, 1) := by decide +kernel
theorem dX2_taken_22 : decode cX2_taken 22 = .ok (.iaload, 1) := by decide +kernel
theorem dX2_taken_23 : decode cX2_taken 23 = .ok (.idiv, 1) := by decide +kernel
theorem dX2_taken_24 : decode cX2_taken 24 = .ok (.bipush 12, 2) := by decide +kernel
theorem dX2_taken_26 : decode cX2_taken 26 = .ok (.irem, 1) := by decide +kernel
theorem dX2_taken_27 : decode cX2_taken 27 = .ok (.ishl, 1) := by decide +kernel
theorem dX2_taken_28 : decode cX2_taken 28 = .ok (.ior, 1) := by decide +kernel
theorem dX2_taken_29 : decode cX2_taken 29 = .ok (.istore_n 2, 1) := by decide +kernel
theorem dX2_taken_30 : decode cX2_taken 30 = .ok (.iinc 3 1, 3) := by decide +kernel
theorem dX2_taken_33 : decode cX2_taken 33 = .ok (.goto (-29), 3) := by decide +kernel
theorem dX2_taken_36 : decode cX2_taken 36 = .ok (.iload_n 2, 1) := by decide +kernel
theorem dX2_taken_37 : decode cX2_taken 37 = .ok (.ireturn, 1) := by decide +kernel
theorem dX2_takingAlong_0 : decode cX2_takingAlong 0 = .ok (.bipush (-9), 2) := by decide +kernel
theorem dX2_takingAlong_2 : decode cX2_takingAlong 2 = .ok (.istore 5, 2) := by decide +kernel
theorem dX2_takingAlong_4 : decode cX2_takingAlong 4 = .ok (.iconst 0, 1) := by decide +kernel
theorem dX2_takingAlong_5 : decode cX2_takingAlong 5 = .ok (.istore 6, 2) := by decide +kernel
theorem dX2_takingAlong_7 : decode cX2_takingAlong 7 = .ok (.iload 6, 2) := by decide +kernel
theorem dX2_takingAlong_9 : decode cX2_takingAlong 9 = .ok (.aload_n 0, 1) := by decide +kernel
theorem dX2_takingAlong_10 : decode cX2_takingAlong 10 = .ok (.getfield 9, 3) := by decide +kernel
theorem dX2_takingAlong_13 : decode cX2_takingAlong 13 = .ok (.getfield 64, 3) := by decide +kernel
theorem dX2_takingAlong_16 : decode cX2_takingAlong 16 = .ok (.if_icmp .ge 83, 3) := by decide +kernel
theorem dX2_takingAlong_19 : decode cX2_takingAlong 19 = .ok (.aload_n 0, 1) := by decide +kernel
theorem dX2_takingAlong_20 : decode cX2_takingAlong 20 = .ok (.getfield 9, 3) := by decide +kernel
theorem dX2_takingAlong_23 : decode cX2_takingAlong 23 = .ok (.getfield 67, 3) := by decide +kernel
theorem dX2_takingAlong_26 : decode cX2_takingAlong 26 = .ok (.iload 6, 2) := by decide +kernel
theorem dX2_takingAlong_28 : decode cX2_takingAlong 28 = .ok (.iconst 4, 1) := by decide +kernel
theorem dX2_takingAlong_29 : decode cX2_takingAlong 29 = .ok (.imul, 1) := by decide +kernel
theorem dX2_takingAlong_30 : decode cX2_takingAlong 30 = .ok (.iload_n 2, 1) := by decide +kernel
theorem dX2_takingAlong_31 : decode cX2_takingAlong 31 = .ok (.iadd, 1) := by decide +kernel
theorem dX2_takingAlong_32 : decode cX2_takingAlong 32 = .ok (.iaload, 1) := by decide +kernel
theorem dX2_takingAlong_33 : decode cX2_takingAlong 33 = .ok (.istore 7, 2) := by decide +kernel
theorem dX2_takingAlong_35 : decode cX2_takingAlong 35 = .ok (.iload 4, 2) := by decide +kernel
theorem dX2_takingAlong_37 : decode cX2_takingAlong 37 = .ok (.iload 6, 2) := by decide +kernel
theorem dX2_takingAlong_39 : decode cX2_takingAlong 39 = .ok (.ishr, 1) := by decide +kernel
theorem dX2_takingAlong_40 : decode cX2_takingAlong 40 = .ok (.iconst 1, 1) := by decide +kernel
theorem dX2_takingAlong_41 : decode cX2_takingAlong 41 = .ok (.iand, 1) := by decide +kernel
theorem dX2_takingAlong_42 : decode cX2_takingAlong 42 = .ok (.iconst 1, 1) := by decide +kernel
theorem dX2_takingAlong_43 : decode cX2_takingAlong 43 = .ok (.if_icmp .ne 50, 3) := by decide +kernel
theorem dX2_takingAlong_46 : decode cX2_takingAlong 46 = .ok (.iload 7, 2) := by decide +kernel
theorem dX2_takingAlong_48 : decode cX2_takingAlong 48 = .ok (.bipush (-9), 2) := by decide +kernel
theorem dX2_takingAlong_50 : decode cX2_takingAlong 50 = .ok (.if_icmp .eq 43, 3) := by decide +kernel
theorem dX2_takingAlong_53 : decode cX2_takingAlong 53 = .ok (.aload_n 0, 1) := by decide +kernel
theorem dX2_takingAlong_54 : decode cX2_takingAlong 54 = .ok (.getfield 9, 3) := by decide +kernel
theorem dX2_takingAlong_57 : decode cX2_takingAlong 57 = .ok (.getfield 41, 3) := by decide +kernel
theorem dX2_takingAlong_60 : decode cX2_takingAlong 60 = .ok (.iload 7, 2) := by decide +kernel
theorem dX2_takingAlong_62 : decode cX2_takingAlong 62 = .ok (.iaload, 1) := by decide +kernel
theorem dX2_takingAlong_63 : decode cX2_takingAlong 63 = .ok (.iconst 2, 1) := by decide +kernel
theorem dX2_takingAlong_64 : decode cX2_takingAlong 64 = .ok (.if_icmp .ne 29, 3) := by decide +kernel
theorem dX2_takingAlong_67 : decode cX2_takingAlong 67 = .ok (.iload 5, 2) := by decide +kernel
theorem dX2_takingAlong_69 : decode cX2_takingAlong 69 = .ok (.bipush (-9), 2) := by decide +kernel
theorem dX2_takingAlong_71 : decode cX2_takingAlong 71 = .ok (.if_icmp .ne 15, 3) := by decide +kernel
theorem dX2_takingAlong_74 : decode cX2_takingAlong 74 = .ok (.aload_n 0, 1) := by decide +kernel
theorem dX2_takingAlong_75 : decode cX2_takingAlong 75 = .ok (.getfield 19, 3) := by decide +kernel
theorem dX2_takingAlong_78 : decode cX2_takingAlong 78 = .ok (.iload_n 3, 1) := by decide +kernel
theorem dX2_takingAlong_79 : decode cX2_takingAlong 79 = .ok (.ishr, 1) := by decide +kernel
theorem dX2_takingAlong_80 : decode cX2_takingAlong 80 = .ok (.iconst 1, 1) := by decide +kernel
theorem dX2_takingAlong_81 : decode cX2_takingAlong 81 = .ok (.iand, 1) := by decide +kernel
theorem dX2_takingAlong_82 : decode cX2_takingAlong 82 = .ok (.iconst 1, 1) := by decide +kernel
theorem dX2_takingAlong_83 : decode cX2_takingAlong 83 = .ok (.if_icmp .ne 6, 3) := by decide +kernel
theorem dX2_takingAlong_86 : decode cX2_takingAlong 86 = .ok (.bipush (-9), 2) := by decide +kernel
theorem dX2_takingAlong_88 : decode cX2_takingAlong 88 = .ok (.ireturn, 1) := by decide +kernel
theorem dX2_takingAlong_89 : decode cX2_takingAlong 89 = .ok (.iload 7, 2) := by decide +kernel
theorem dX2_takingAlong_91 : decode cX2_takingAlong 91 = .ok (.istore 5, 2) := by decide +kernel
theorem dX2_takingAlong_93 : decode cX2_takingAlong 93 = .ok (.iinc 6 1, 3) := by decide +kernel
theorem dX2_takingAlong_96 : decode cX2_takingAlong 96 = .ok (.goto (-89), 3) := by decide +kernel
theorem dX2_takingAlong_99 : decode cX2_takingAlong 99 = .ok (.iload 5, 2) := by decide +kernel
theorem dX2_takingAlong_101 : decode cX2_takingAlong 101 = .ok (.bipush (-9), 2) := by decide +kernel
theorem dX2_takingAlong_103 : decode cX2_takingAlong 103 = .ok (.if_icmp .ne 6, 3) := by decide +kernel
theorem dX2_takingAlong_106 : decode cX2_takingAlong 106 = .ok (.bipush (-9), 2) := by decide +kernel
theorem dX2_takingAlong_108 : decode cX2_takingAlong 108 = .ok (.ireturn, 1) := by decide +kernel
theorem dX2_takingAlong_109 : decode cX2_takingAlong 109 = .ok (.iload_n 1, 1) := by decide +kernel
theorem dX2_takingAlong_110 : decode cX2_takingAlong 110 = .ok (.getstatic 54, 3) := by decide +kernel
theorem dX2_takingAlong_113 : decode cX2_takingAlong 113 = .ok (.iload 5, 2) := by decide +kernel
theorem dX2_takingAlong_115 : decode cX2_takingAlong 115 = .ok (.iaload, 1) := by decide +kernel
theorem dX2_takingAlong_116 : decode cX2_takingAlong 116 = .ok (.idiv, 1) := by decide +kernel
theorem dX2_takingAlong_117 : decode cX2_takingAlong 117 = .ok (.bipush 12, 2) := by decide +kernel
theorem dX2_takingAlong_119 : decode cX2_takingAlong 119 = .ok (.irem, 1) := by decide +kernel
theorem dX2_takingAlong_120 : decode cX2_takingAlong 120 = .ok (.istore 6, 2) := by decide +kernel
theorem dX2_takingAlong_122 : decode cX2_takingAlong 122 = .ok (.iload_n 1, 1) := by decide +kernel
theorem dX2_takingAlong_123 : decode cX2_takingAlong 123 = .ok (.iload_n 3, 1) := by decide +kernel
theorem dX2_takingAlong_124 : decode cX2_takingAlong 124 = .ok (.iload 6, 2) := by decide +kernel
theorem dX2_takingAlong_126 : decode cX2_takingAlong 126 = .ok (.isub, 1) := by decide +kernel
theorem dX2_takingAlong_127 : decode cX2_takingAlong 127 = .ok (.getstatic 54, 3) := by decide +kernel
theorem dX2_takingAlong_130 : decode cX2_takingAlong 130 = .ok (.iload 5, 2) := by decide +kernel
theorem dX2_takingAlong_132 : decode cX2_takingAlong 132 = .ok (.iaload, 1) := by decide +kernel
theorem dX2_takingAlong_133 : decode cX2_takingAlong 133 = .ok (.imul, 1) := by decide +kernel
theorem dX2_takingAlong_134 : decode cX2_takingAlong 134 = .ok (.iadd, 1) := by decide +kernel
theorem dX2_takingAlong_135 : decode cX2_takingAlong 135 = .ok (.ireturn, 1) := by decide +kernel
theorem dX3_init_0 : decode cX3_init 0 = .ok (.aload_n 0, 1) := by decide +kernel
theorem dX3_init_1 : decode cX3_init 1 = .ok (.invokespecial 3, 3) := by decide +kernel
theorem dX3_init_4 : decode cX3_init 4 = .ok (.aload_n 0, 1) := by decide +kernel
theorem dX3_init_5 : decode cX3_init 5 = .ok (.sipush 11880, 3) := by decide +kernel
theorem dX3_init_8 : decode cX3_init 8 = .ok (.newarray .int, 2) := by decide +kernel
theorem dX3_init_10 : decode cX3_init 10 = .ok (.putfield 9, 3) := by decide +kernel
theorem dX3_init_13 : decode cX3_init 13 = .ok (.aload_n 0, 1) := by decide +kernel
theorem dX3_init_14 : decode cX3_init 14 = .ok (.sipush 11880, 3) := by decide +kernel
theorem dX3_init_17 : decode cX3_init 17 = .ok (.newarray .int, 2) := by decide +kernel
theorem dX3_init_19 : decode cX3_init 19 = .ok (.putfield 15, 3) := by decide +kernel
theorem dX3_init_22 : decode cX3_init 22 = .ok (.aload_n 0, 1) := by decide +kernel
theorem dX3_init_23 : decode cX3_init 23 = .ok (.sipush 11880, 3) := by decide +kernel
theorem dX3_init_26 : decode cX3_init 26 = .ok (.newarray .int, 2) := by decide +kernel
theorem dX3_init_28 : decode cX3_init 28 = .ok (.putfield 18, 3) := by decide +kernel
theorem dX3_init_31 : decode cX3_init 31 = .ok (.aload_n 0, 1) := by decide +kernel
theorem dX3_init_32 : decode cX3_init 32 = .ok (.sipush 11880, 3) := by decide +kernel
theorem dX3_init_35 : decode cX3_init 35 = .ok (.newarray .int, 2) := by decide +kernel
theorem dX3_init_37 : decode cX3_init 37 = .ok (.putfield 21, 3) := by decide +kernel
theorem dX3_init_40 : decode cX3_init 40 = .ok (.aload_n 0, 1) := by decide +kernel
theorem dX3_init_41 : decode cX3_init 41 = .ok (.sipush 20736, 3) := by decide +kernel
theorem dX3_init_44 : decode cX3_init 44 = .ok (.newarray .int, 2) := by decide +kernel
theorem dX3_init_46 : decode cX3_init 46 = .ok (.putfield 24, 3) := by decide +kernel
theorem dX3_init_49 : decode cX3_init 49 = .ok (.aload_n 0, 1) := by decide +kernel
theorem dX3_init_50 : decode cX3_init 50 = .ok (.sipush 20736, 3) := by decide +kernel
theorem dX3_init_53 : decode cX3_init 53 = .ok (.newarray .int, 2) := by decide +kernel
theorem dX3_init_55 : decode cX3_init 55 = .ok (.putfield 27, 3) := by decide +kernel
theorem dX3_init_58 : decode cX3_init 58 = .ok (.aload_n 0, 1) := by decide +kernel
theorem dX3_init_59 : decode cX3_init 59 = .ok (.ldc 30, 2) := by decide +kernel
theorem dX3_init_61 : decode cX3_init 61 = .ok (.newarray .int, 2) := by decide +kernel
theorem dX3_init_63 : decode cX3_init 63 = .ok (.putfield 31, 3) := by decide +kernel
theorem dX3_init_66 : decode cX3_init 66 = .ok (.aload_n 0, 1) := by decide +kernel
theorem dX3_init_67 : decode cX3_init 67 = .ok (.aload_n 1, 1) := by decide +kernel
theorem dX3_init_68 : decode cX3_init 68 = .ok (.putfield 34, 3) := by decide +kernel
theorem dX3_init_71 : decode cX3_init 71 = .ok (.return_, 1) := by decide +kernel
theorem dX3_forget_0 : decode cX3_forget 0 = .ok (.aload_n 0, 1) := by decide +kernel
theorem dX3_forget_1 : decode cX3_forget 1 = .ok (.iconst 0, 1) := by decide +kernel
theorem dX3_forget_2 : decode cX3_forget 2 = .ok (.putfield 38, 3) := by decide +kernel
theorem dX3_forget_5 : decode cX3_forget 5 = .ok (.aload_n 0, 1) := by decide +kernel
theorem dX3_forget_6 : decode cX3_forget 6 = .ok (.iconst 0, 1) := by decide +kernel
theorem dX3_forget_7 : decode cX3_forget 7 = .ok (.putfield 42, 3) := by decide +kernel
theorem dX3_forget_10 : decode cX3_forget 10 = .ok (.return_, 1) := by decide +kernel
theorem dX3_begin_0 : decode cX3_begin 0 = .ok (.aload_n 0, 1) := by decide +kernel
theorem dX3_begin_1 : decode cX3_begin 1 = .ok (.getfield 38, 3) := by decide +kernel
theorem dX3_begin_4 : decode cX3_begin 4 = .ok (.ifCond .ne 16, 3) := by decide +kernel
theorem dX3_begin_7 : decode cX3_begin 7 = .ok (.aload_n 0, 1) := by decide +kernel
theorem dX3_begin_8 : decode cX3_begin 8 = .ok (.getfield 27, 3) := by decide +kernel
theorem dX3_begin_11 : decode cX3_begin 11 = .ok (.iconst 0, 1) := by decide +kernel
theorem dX3_begin_12 : decode cX3_begin 12 = .ok (.invokestatic 45, 3) := by decide +kernel
theorem dX3_begin_15 : decode cX3_begin 15 = .ok (.aload_n 0, 1) := by decide +kernel
theorem dX3_begin_16 : decode cX3_begin 16 = .ok (.iconst 1, 1) := by decide +kernel
theorem dX3_begin_17 : decode cX3_begin 17 = .ok (.putfield 38, 3) := by decide +kernel
theorem dX3_begin_20 : decode cX3_begin 20 = .ok (.aload_n 0, 1) := by decide +kernel
theorem dX3_begin_21 : decode cX3_begin 21 = .ok (.getfield 42, 3) := by decide +kernel
theorem dX3_begin_24 : decode cX3_begin 24 = .ok (.ifCond .le 14, 3) := by decide +kernel
theorem dX3_begin_27 : decode cX3_begin 27 = .ok (.aload_n 0, 1) := by decide +kernel
theorem dX3_begin_28 : decode cX3_begin 28 = .ok (.getfield 9, 3) := by decide +kernel
theorem dX3_begin_31 : decode cX3_begin 31 = .ok (.iconst 0, 1) := by decide +kernel
theorem dX3_begin_32 : decode cX3_begin 32 = .ok (.iaload, 1) := by decide +kernel
theorem dX3_begin_33 : decode cX3_begin 33 = .ok (.iload_n 1, 1) := by decide +kernel
theorem dX3_begin_34 : decode cX3_begin 34 = .ok (.if_icmp .ne 4, 3) := by decide +kernel
theorem dX3_begin_37 : decode cX3_begin 37 = .ok (.return_, 1) := by decide +kernel
theorem dX3_begin_38 : decode cX3_begin 38 = .ok (.aload_n 0, 1) := by decide +kernel
theorem dX3_begin_39 : decode cX3_begin 39 = .ok (.dup, 1) := by decide +kernel
theorem dX3_begin_40 : decode cX3_begin 40 = .ok (.getfield 51, 3) := by decide +kernel
theorem dX3_begin_43 : decode cX3_begin 43 = .ok (.iconst 1, 1) := by decide +kernel
theorem dX3_begin_44 : decode cX3_begin 44 = .ok (.iadd, 1) := by decide +kernel
theorem dX3_begin_45 : decode cX3_begin 45 = .ok (.putfield 51, 3) := by decide +kernel
theorem dX3_begin_48 : decode cX3_begin 48 = .ok (.aload_n 0, 1) := by decide +kernel
theorem dX3_begin_49 : decode cX3_begin 49 = .ok (.iconst 0, 1) := by decide +kernel
theorem dX3_begin_50 : decode cX3_begin 50 = .ok (.putfield 54, 3) := by decide +kernel
theorem dX3_begin_53 : decode cX3_begin 53 = .ok (.aload_n 0, 1) := by decide +kernel
theorem dX3_begin_54 : decode cX3_begin 54 = .ok (.iconst 0, 1) := by decide +kernel
theorem dX3_begin_55 : decode cX3_begin 55 = .ok (.putfield 42, 3) := by decide +kernel
theorem dX3_begin_58 : decode cX3_begin 58 = .ok (.aload_n 0, 1) := by decide +kernel
theorem dX3_begin_59 : decode cX3_begin 59 = .ok (.iload_n 1, 1) := by decide +kernel
theorem dX3_begin_60 : decode cX3_begin 60 = .ok (.bipush (-9), 2) := by decide +kernel
theorem dX3_begin_62 : decode cX3_begin 62 = .ok (.bipush (-9), 2) := by decide +kernel
theorem dX3_begin_64 : decode cX3_begin 64 = .ok (.iconst 0, 1) := by decide +kernel
theorem dX3_begin_65 : decode cX3_begin 65 = .ok (.invokevirtual 57, 3) := by decide +kernel
theorem dX3_begin_68 : decode cX3_begin 68 = .ok (.return_, 1) := by decide +kernel
theorem dX3_finds_0 : decode cX3_finds 0 = .ok (.aload_n 0, 1) := by decide +kernel
theorem dX3_finds_1 : decode cX3_finds 1 = .ok (.getfield 42, 3) := by decide +kernel
theorem dX3_finds_4 : decode cX3_finds 4 = .ok (.iload_n 1, 1) := by decide +kernel
theorem dX3_finds_5 : decode cX3_finds 5 = .ok (.if_icmp .gt 45, 3) := by decide +kernel
theorem dX3_finds_8 : decode cX3_finds 8 = .ok (.aload_n 0, 1) := by decide +kernel
theorem dX3_finds_9 : decode cX3_finds 9 = .ok (.getfield 54, 3) := by decide +kernel
theorem dX3_finds_12 : decode cX3_finds 12 = .ok (.aload_n 0, 1) := by decide +kernel
theorem dX3_finds_13 : decode cX3_finds 13 = .ok (.getfield 42, 3) := by decide +kernel
theorem dX3_finds_16 : decode cX3_finds 16 = .ok (.if_icmp .ge 34, 3) := by decide +kernel
theorem dX3_finds_19 : decode cX3_finds 19 = .ok (.aload_n 0, 1) := by decide +kernel
theorem dX3_finds_20 : decode cX3_finds 20 = .ok (.getfield 54, 3) := by decide +kernel
theorem dX3_finds_23 : decode cX3_finds 23 = .ok (.sipush 11880, 3) := by decide +kernel
theorem dX3_finds_26 : decode cX3_finds 26 = .ok (.if_icmp .ge 24, 3) := by decide +kernel
theorem dX3_finds_29 : decode cX3_finds 29 = .ok (.aload_n 0, 1) := by decide +kernel
theorem dX3_finds_30 : decode cX3_finds 30 = .ok (.aload_n 0, 1) := by decide +kernel
theorem dX3_finds_31 : decode cX3_finds 31 = .ok (.getfield 54, 3) := by decide +kernel
theorem dX3_finds_34 : decode cX3_finds 34 = .ok (.invokevirtual 61, 3) := by decide +kernel
theorem dX3_finds_37 : decode cX3_finds 37 = .ok (.aload_n 0, 1) := by decide +kernel
theorem dX3_finds_38 : decode cX3_finds 38 = .ok (.dup, 1) := by decide +kernel
theorem dX3_finds_39 : decode cX3_finds 39 = .ok (.getfield 54, 3) := by decide +kernel
theorem dX3_finds_42 : decode cX3_finds 42 = .ok (.iconst 1, 1) := by decide +kernel
theorem dX3_finds_43 : decode cX3_finds 43 = .ok (.iadd, 1) := by decide +kernel
theorem dX3_finds_44 : decode cX3_finds 44 = .ok (.putfield 54, 3) := by decide +kernel
theorem dX3_finds_47 : decode cX3_finds 47 = .ok (.goto (-47), 3) := by decide +kernel
theorem dX3_finds_50 : decode cX3_finds 50 = .ok (.iload_n 1, 1) := by decide +kernel
theorem dX3_finds_51 : decode cX3_finds 51 = .ok (.ifCond .lt 15, 3) := by decide +kernel
theorem dX3_finds_54 : decode cX3_finds 54 = .ok (.iload_n 1, 1) := by decide +kernel
theorem dX3_finds_55 : decode cX3_finds 55 = .ok (.aload_n 0, 1) := by decide +kernel
theorem dX3_finds_56 : decode cX3_finds 56 = .ok (.getfield 42, 3) := by decide +kernel
theorem dX3_finds_59 : decode cX3_finds 59 = .ok (.if_icmp .ge 7, 3) := by decide +kernel
theorem dX3_finds_62 : decode cX3_finds 62 = .ok (.iconst 1, 1) := by decide +kernel
theorem dX3_finds_63 : decode cX3_finds 63 = .ok (.goto 4, 3) := by decide +kernel
theorem dX3_finds_66 : decode cX3_finds 66 = .ok (.iconst 0, 1) := by decide +kernel
theorem dX3_finds_67 : decode cX3_finds 67 = .ok (.ireturn, 1) := by decide +kernel
theorem dX3_stand_0 : decode cX3_stand 0 = .ok (.iload_n 1, 1) := by decide +kernel
theorem dX3_stand_1 : decode cX3_stand 1 = .ok (.ifCond .lt 20, 3) := by decide +kernel
theorem dX3_stand_4 : decode cX3_stand 4 = .ok (.iload_n 1, 1) := by decide +kernel
theorem dX3_stand_5 : decode cX3_stand 5 = .ok (.aload_n 0, 1) := by decide +kernel
theorem dX3_stand_6 : decode cX3_stand 6 = .ok (.getfield 42, 3) := by decide +kernel
theorem dX3_stand_9 : decode cX3_stand 9 = .ok (.if_icmp .ge 12, 3) := by decide +kernel
theorem dX3_stand_12 : decode cX3_stand 12 = .ok (.aload_n 0, 1) := by decide +kernel
theorem dX3_stand_13 : decode cX3_stand 13 = .ok (.getfield 9, 3) := by decide +kernel
theorem dX3_stand_16 : decode cX3_stand 16 = .ok (.iload_n 1, 1) := by decide +kernel
theorem dX3_stand_17 : decode cX3_stand 17 = .ok (.iaload, 1) := by decide +kernel
theorem dX3_stand_18 : decode cX3_stand 18 = .ok (.goto 5, 3) := by decide +kernel
theorem dX3_stand_21 : decode cX3_stand 21 = .ok (.bipush (-9), 2) := by decide +kernel
theorem dX3_stand_23 : decode cX3_stand 23 = .ok (.ireturn, 1) := by decide +kernel
theorem dX3_depth_0 : decode cX3_depth 0 = .ok (.iload_n 1, 1) := by decide +kernel
theorem dX3_depth_1 : decode cX3_depth 1 = .ok (.ifCond .lt 20, 3) := by decide +kernel
theorem dX3_depth_4 : decode cX3_depth 4 = .ok (.iload_n 1, 1) := by decide +kernel
theorem dX3_depth_5 : decode cX3_depth 5 = .ok (.aload_n 0, 1) := by decide +kernel
theorem dX3_depth_6 : decode cX3_depth 6 = .ok (.getfield 42, 3) := by decide +kernel
theorem dX3_depth_9 : decode cX3_depth 9 = .ok (.if_icmp .ge 12, 3) := by decide +kernel
theorem dX3_depth_12 : decode cX3_depth 12 = .ok (.aload_n 0, 1) := by decide +kernel
theorem dX3_depth_13 : decode cX3_depth 13 = .ok (.getfield 15, 3) := by decide +kernel
theorem dX3_depth_16 : decode cX3_depth 16 = .ok (.iload_n 1, 1) := by decide +kernel
theorem dX3_depth_17 : decode cX3_depth 17 = .ok (.iaload, 1) := by decide +kernel
theorem dX3_depth_18 : decode cX3_depth 18 = .ok (.goto 5, 3) := by decide +kernel
theorem dX3_depth_21 : decode cX3_depth 21 = .ok (.bipush (-9), 2) := by decide +kernel
theorem dX3_depth_23 : decode cX3_depth 23 = .ok (.ireturn, 1) := by decide +kernel
theorem dX3_trace_0 : decode cX3_trace 0 = .ok (.bipush (-9), 2) := by decide +kernel
theorem dX3_trace_2 : decode cX3_trace 2 = .ok (.istore 4, 2) := by decide +kernel
theorem dX3_trace_4 : decode cX3_trace 4 = .ok (.iload_n 1, 1) := by decide +kernel
theorem dX3_trace_5 : decode cX3_trace 5 = .ok (.istore 5, 2) := by decide +kernel
theorem dX3_trace_7 : decode cX3_trace 7 = .ok (.aload_n 0, 1) := by decide +kernel
theorem dX3_trace_8 : decode cX3_trace 8 = .ok (.iload_n 1, 1) := by decide +kernel
theorem dX3_trace_9 : decode cX3_trace 9 = .ok (.invokevirtual 65, 3) := by decide +kernel
theorem dX3_trace_12 : decode cX3_trace 12 = .ok (.iconst 1, 1) := by decide +kernel
theorem dX3_trace_13 : decode cX3_trace 13 = .ok (.isub, 1) := by decide +kernel
theorem dX3_trace_14 : decode cX3_trace 14 = .ok (.istore 6, 2) := by decide +kernel
theorem dX3_trace_16 : decode cX3_trace 16 = .ok (.iload 6, 2) := by decide +kernel
theorem dX3_trace_18 : decode cX3_trace 18 = .ok (.ifCond .lt 36, 3) := by decide +kernel
theorem dX3_trace_21 : decode cX3_trace 21 = .ok (.aload_n 0, 1) := by decide +kernel
theorem dX3_trace_22 : decode cX3_trace 22 = .ok (.getfield 21, 3) := by decide +kernel
theorem dX3_trace_25 : decode cX3_trace 25 = .ok (.iload 5, 2) := by decide +kernel
theorem dX3_trace_27 : decode cX3_trace 27 = .ok (.iaload, 1) := by decide +kernel
theorem dX3_trace_28 : decode cX3_trace 28 = .ok (.istore 4, 2) := by decide +kernel
theorem dX3_trace_30 : decode cX3_trace 30 = .ok (.aload_n 2, 1) := by decide +kernel
theorem dX3_trace_31 : decode cX3_trace 31 = .ok (.iload_n 3, 1) := by decide +kernel
theorem dX3_trace_32 : decode cX3_trace 32 = .ok (.iload 6, 2) := by decide +kernel
theorem dX3_trace_34 : decode cX3_trace 34 = .ok (.iload 4, 2) := by decide +kernel
theorem dX3_trace_36 : decode cX3_trace 36 = .ok (.invokevirtual 69, 3) := by decide +kernel
theorem dX3_trace_39 : decode cX3_trace 39 = .ok (.aload_n 0, 1) := by decide +kernel
theorem dX3_trace_40 : decode cX3_trace 40 = .ok (.getfield 18, 3) := by decide +kernel
theorem dX3_trace_43 : decode cX3_trace 43 = .ok (.iload 5, 2) := by decide +kernel
theorem dX3_trace_45 : decode cX3_trace 45 = .ok (.iaload, 1) := by decide +kernel
theorem dX3_trace_46 : decode cX3_trace 46 = .ok (.istore 5, 2) := by decide +kernel
theorem dX3_trace_48 : decode cX3_trace 48 = .ok (.iinc 6 (-1), 3) := by decide +kernel
theorem dX3_trace_51 : decode cX3_trace 51 = .ok (.goto (-35), 3) := by decide +kernel
theorem dX3_trace_54 : decode cX3_trace 54 = .ok (.iload 4, 2) := by decide +kernel
theorem dX3_trace_56 : decode cX3_trace 56 = .ok (.ireturn, 1) := by decide +kernel
theorem dX3_nearest_0 : decode cX3_nearest 0 = .ok (.aload_n 0, 1) := by decide +kernel
theorem dX3_nearest_1 : decode cX3_nearest 1 = .ok (.iload_n 1, 1) := by decide +kernel
theorem dX3_nearest_2 : decode cX3_nearest 2 = .ok (.invokevirtual 75, 3) := by decide +kernel
theorem dX3_nearest_5 : decode cX3_nearest 5 = .ok (.bipush (-9), 2) := by decide +kernel
theorem dX3_nearest_7 : decode cX3_nearest 7 = .ok (.istore 4, 2) := by decide +kernel
theorem dX3_nearest_9 : decode cX3_nearest 9 = .ok (.iconst 0, 1) := by decide +kernel
theorem dX3_nearest_10 : decode cX3_nearest 10 = .ok (.istore 5, 2) := by decide +kernel
theorem dX3_nearest_12 : decode cX3_nearest 12 = .ok (.iload 5, 2) := by decide +kernel
theorem dX3_nearest_14 : decode cX3_nearest 14 = .ok (.sipush 11880, 3) := by decide +kernel
theorem dX3_nearest_17 : decode cX3_nearest 17 = .ok (.if_icmp .ge 105, 3) := by decide +kernel
theorem dX3_nearest_20 : decode cX3_nearest 20 = .ok (.aload_n 0, 1) := by decide +kernel
theorem dX3_nearest_21 : decode cX3_nearest 21 = .ok (.iload 5, 2) := by decide +kernel
theorem dX3_nearest_23 : decode cX3_nearest 23 = .ok (.invokevirtual 78, 3) := by decide +kernel
theorem dX3_nearest_26 : decode cX3_nearest 26 = .ok (.ifCond .eq 96, 3) := by decide +kernel
theorem dX3_nearest_29 : decode cX3_nearest 29 = .ok (.iload 4, 2) := by decide +kernel
theorem dX3_nearest_31 : decode cX3_nearest 31 = .ok (.bipush (-9), 2) := by decide +kernel
theorem dX3_nearest_33 : decode cX3_nearest 33 = .ok (.if_icmp .eq 23, 3) := by decide +kernel
theorem dX3_nearest_36 : decode cX3_nearest 36 = .ok (.aload_n 0, 1) := by decide +kernel
theorem dX3_nearest_37 : decode cX3_nearest 37 = .ok (.getfield 15, 3) := by decide +kernel
theorem dX3_nearest_40 : decode cX3_nearest 40 = .ok (.iload 5, 2) := by decide +kernel
theorem dX3_nearest_42 : decode cX3_nearest 42 = .ok (.iaload, 1) := by decide +kernel
theorem dX3_nearest_43 : decode cX3_nearest 43 = .ok (.aload_n 0, 1) := by decide +kernel
theorem dX3_nearest_44 : decode cX3_nearest 44 = .ok (.getfield 15, 3) := by decide +kernel
theorem dX3_nearest_47 : decode cX3_nearest 47 = .ok (.iload 4, 2) := by decide +kernel
theorem dX3_nearest_49 : decode cX3_nearest 49 = .ok (.iaload, 1) := by decide +kernel
theorem dX3_nearest_50 : decode cX3_nearest 50 = .ok (.if_icmp .le 6, 3) := by decide +kernel
theorem dX3_nearest_53 : decode cX3_nearest 53 = .ok (.goto 69, 3) := by decide +kernel
theorem dX3_nearest_56 : decode cX3_nearest 56 = .ok (.aload_n 0, 1) := by decide +kernel
theorem dX3_nearest_57 : decode cX3_nearest 57 = .ok (.getfield 9, 3) := by decide +kernel
theorem dX3_nearest_60 : decode cX3_nearest 60 = .ok (.iload 5, 2) := by decide +kernel
theorem dX3_nearest_62 : decode cX3_nearest 62 = .ok (.iaload, 1) := by decide +kernel
theorem dX3_nearest_63 : decode cX3_nearest 63 = .ok (.getstatic 82, 3) := by decide +kernel
theorem dX3_nearest_66 : decode cX3_nearest 66 = .ok (.iload_n 2, 1) := by decide +kernel
theorem dX3_nearest_67 : decode cX3_nearest 67 = .ok (.iaload, 1) := by decide +kernel
theorem dX3_nearest_68 : decode cX3_nearest 68 = .ok (.idiv, 1) := by decide +kernel
theorem dX3_nearest_69 : decode cX3_nearest 69 = .ok (.bipush 12, 2) := by decide +kernel
theorem dX3_nearest_71 : decode cX3_nearest 71 = .ok (.irem, 1) := by decide +kernel
theorem dX3_nearest_72 : decode cX3_nearest 72 = .ok (.iload_n 3, 1) := by decide +kernel
theorem dX3_nearest_73 : decode cX3_nearest 73 = .ok (.if_icmp .ne 7, 3) := by decide +kernel
theorem dX3_nearest_76 : decode cX3_nearest 76 = .ok (.iconst 1, 1) := by decide +kernel
theorem dX3_nearest_77 : decode cX3_nearest 77 = .ok (.goto 4, 3) := by decide +kernel
theorem dX3_nearest_80 : decode cX3_nearest 80 = .ok (.iconst 0, 1) := by decide +kernel
theorem dX3_nearest_81 : decode cX3_nearest 81 = .ok (.istore 6, 2) := by decide +kernel
theorem dX3_nearest_83 : decode cX3_nearest 83 = .ok (.iload 6, 2) := by decide +kernel
theorem dX3_nearest_85 : decode cX3_nearest 85 = .ok (.ifCond .eq 31, 3) := by decide +kernel
theorem dX3_nearest_88 : decode cX3_nearest 88 = .ok (.iload 4, 2) := by decide +kernel
theorem dX3_nearest_90 : decode cX3_nearest 90 = .ok (.bipush (-9), 2) := by decide +kernel
theorem dX3_nearest_92 : decode cX3_nearest 92 = .ok (.if_icmp .eq 20, 3) := by decide +kernel
theorem dX3_nearest_95 : decode cX3_nearest 95 = .ok (.aload_n 0, 1) := by decide +kernel
theorem dX3_nearest_96 : decode cX3_nearest 96 = .ok (.getfield 9, 3) := by decide +kernel
theorem dX3_nearest_99 : decode cX3_nearest 99 = .ok (.iload 5, 2) := by decide +kernel
theorem dX3_nearest_101 : decode cX3_nearest 101 = .ok (.iaload, 1) := by decide +kernel
theorem dX3_nearest_102 : decode cX3_nearest 102 = .ok (.aload_n 0, 1) := by decide +kernel
theorem dX3_nearest_103 : decode cX3_nearest 103 = .ok (.getfield 9, 3) := by decide +kernel
theorem dX3_nearest_106 : decode cX3_nearest 106 = .ok (.iload 4, 2) := by decide +kernel
theorem dX3_nearest_108 : decode cX3_nearest 108 = .ok (.iaload, 1) := by decide +kernel
theorem dX3_nearest_109 : decode cX3_nearest 109 = .ok (.if_icmp .ge 7, 3) := by decide +kernel
theorem dX3_nearest_112 : decode cX3_nearest 112 = .ok (.iload 5, 2) := by decide +kernel
theorem dX3_nearest_114 : decode cX3_nearest 114 = .ok (.istore 4, 2) := by decide +kernel
theorem dX3_nearest_116 : decode cX3_nearest 116 = .ok (.iinc 5 1, 3) := by decide +kernel
theorem dX3_nearest_119 : decode cX3_nearest 119 = .ok (.goto (-107), 3) := by decide +kernel
theorem dX3_nearest_122 : decode cX3_nearest 122 = .ok (.iload 4, 2) := by decide +kernel
theorem dX3_nearest_124 : decode cX3_nearest 124 = .ok (.ireturn, 1) := by decide +kernel
theorem dX3_expand_0 : decode cX3_expand 0 = .ok (.aload_n 0, 1) := by decide +kernel
theorem dX3_expand_1 : decode cX3_expand 1 = .ok (.getfield 9, 3) := by decide +kernel
theorem dX3_expand_4 : decode cX3_expand 4 = .ok (.iload_n 1, 1) := by decide +kernel
theorem dX3_expand_5 : decode cX3_expand 5 = .ok (.iaload, 1) := by decide +kernel
theorem dX3_expand_6 : decode cX3_expand 6 = .ok (.istore_n 2, 1) := by decide +kernel
theorem dX3_expand_7 : decode cX3_expand 7 = .ok (.aload_n 0, 1) := by decide +kernel
theorem dX3_expand_8 : decode cX3_expand 8 = .ok (.getfield 27, 3) := by decide +kernel
theorem dX3_expand_11 : decode cX3_expand 11 = .ok (.iload_n 2, 1) := by decide +kernel
theorem dX3_expand_12 : decode cX3_expand 12 = .ok (.iaload, 1) := by decide +kernel
theorem dX3_expand_13 : decode cX3_expand 13 = .ok (.ifCond .ne 8, 3) := by decide +kernel
theorem dX3_expand_16 : decode cX3_expand 16 = .ok (.aload_n 0, 1) := by decide +kernel
theorem dX3_expand_17 : decode cX3_expand 17 = .ok (.iload_n 2, 1) := by decide +kernel
theorem dX3_expand_18 : decode cX3_expand 18 = .ok (.invokevirtual 85, 3) := by decide +kernel
theorem dX3_expand_21 : decode cX3_expand 21 = .ok (.aload_n 0, 1) := by decide +kernel
theorem dX3_expand_22 : decode cX3_expand 22 = .ok (.getfield 27, 3) := by decide +kernel
theorem dX3_expand_25 : decode cX3_expand 25 = .ok (.iload_n 2, 1) := by decide +kernel
theorem dX3_expand_26 : decode cX3_expand 26 = .ok (.iaload, 1) := by decide +kernel
theorem dX3_expand_27 : decode cX3_expand 27 = .ok (.bipush 32, 2) := by decide +kernel
theorem dX3_expand_29 : decode cX3_expand 29 = .ok (.idiv, 1) := by decide +kernel
theorem dX3_expand_30 : decode cX3_expand 30 = .ok (.istore_n 3, 1) := by decide +kernel
theorem dX3_expand_31 : decode cX3_expand 31 = .ok (.iload_n 3, 1) := by decide +kernel
theorem dX3_expand_32 : decode cX3_expand 32 = .ok (.aload_n 0, 1) := by decide +kernel
theorem dX3_expand_33 : decode cX3_expand 33 = .ok (.getfield 27, 3) := by decide +kernel
theorem dX3_expand_36 : decode cX3_expand 36 = .ok (.iload_n 2, 1) := by decide +kernel
theorem dX3_expand_37 : decode cX3_expand 37 = .ok (.iaload, 1) := by decide +kernel
theorem dX3_expand_38 : decode cX3_expand 38 = .ok (.bipush 32, 2) := by decide +kernel
theorem dX3_expand_40 : decode cX3_expand 40 = .ok (.irem, 1) := by decide +kernel
theorem dX3_expand_41 : decode cX3_expand 41 = .ok (.iadd, 1) := by decide +kernel
theorem dX3_expand_42 : decode cX3_expand 42 = .ok (.istore 4, 2) := by decide +kernel
theorem dX3_expand_44 : decode cX3_expand 44 = .ok (.iload_n 3, 1) := by decide +kernel
theorem dX3_expand_45 : decode cX3_expand 45 = .ok (.istore 5, 2) := by decide +kernel
theorem dX3_expand_47 : decode cX3_expand 47 = .ok (.iload 5, 2) := by decide +kernel
theorem dX3_expand_49 : decode cX3_expand 49 = .ok (.iload 4, 2) := by decide +kernel
theorem dX3_expand_51 : decode cX3_expand 51 = .ok (.if_icmp .ge 42, 3) := by decide +kernel
theorem dX3_expand_54 : decode cX3_expand 54 = .ok (.aload_n 0, 1) := by decide +kernel
theorem dX3_expand_55 : decode cX3_expand 55 = .ok (.aload_n 0, 1) := by decide +kernel
theorem dX3_expand_56 : decode cX3_expand 56 = .ok (.getfield 31, 3) := by decide +kernel
theorem dX3_expand_59 : decode cX3_expand 59 = .ok (.iload 5, 2) := by decide +kernel
theorem dX3_expand_61 : decode cX3_expand 61 = .ok (.iaload, 1) := by decide +kernel
theorem dX3_expand_62 : decode cX3_expand 62 = .ok (.bipush 64, 2) := by decide +kernel
theorem dX3_expand_64 : decode cX3_expand 64 = .ok (.idiv, 1) := by decide +kernel
theorem dX3_expand_65 : decode cX3_expand 65 = .ok (.aload_n 0, 1) := by decide +kernel
theorem dX3_expand_66 : decode cX3_expand 66 = .ok (.getfield 31, 3) := by decide +kernel
theorem dX3_expand_69 : decode cX3_expand 69 = .ok (.iload 5, 2) := by decide +kernel
theorem dX3_expand_71 : decode cX3_expand 71 = .ok (.iaload, 1) := by decide +kernel
theorem dX3_expand_72 : decode cX3_expand 72 = .ok (.bipush 64, 2) := by decide +kernel
theorem dX3_expand_74 : decode cX3_expand 74 = .ok (.irem, 1) := by decide +kernel
theorem dX3_expand_75 : decode cX3_expand 75 = .ok (.iload_n 1, 1) := by decide +kernel
theorem dX3_expand_76 : decode cX3_expand 76 = .ok (.aload_n 0, 1) := by decide +kernel
theorem dX3_expand_77 : decode cX3_expand 77 = .ok (.getfield 15, 3) := by decide +kernel
theorem dX3_expand_80 : decode cX3_expand 80 = .ok (.iload_n 1, 1) := by decide +kernel
theorem dX3_expand_81 : decode cX3_expand 81 = .ok (.iaload, 1) := by decide +kernel
theorem dX3_expand_82 : decode cX3_expand 82 = .ok (.iconst 1, 1) := by decide +kernel
theorem dX3_expand_83 : decode cX3_expand 83 = .ok (.iadd, 1) := by decide +kernel
theorem dX3_expand_84 : decode cX3_expand 84 = .ok (.invokevirtual 57, 3) := by decide +kernel
theorem dX3_expand_87 : decode cX3_expand 87 = .ok (.iinc 5 1, 3) := by decide +kernel
theorem dX3_expand_90 : decode cX3_expand 90 = .ok (.goto (-43), 3) := by decide +kernel
theorem dX3_expand_93 : decode cX3_expand 93 = .ok (.return_, 1) := by decide +kernel
theorem dX3_arrive_0 : decode cX3_arrive 0 = .ok (.aload_n 0, 1) := by decide +kernel
theorem dX3_arrive_1 : decode cX3_arrive 1 = .ok (.getfield 24, 3) := by decide +kernel
theorem dX3_arrive_4 : decode cX3_arrive 4 = .ok (.iload_n 1, 1) := by decide +kernel
theorem dX3_arrive_5 : decode cX3_arrive 5 = .ok (.iaload, 1) := by decide +kernel
theorem dX3_arrive_6 : decode cX3_arrive 6 = .ok (.aload_n 0, 1) := by decide +kernel
theorem dX3_arrive_7 : decode cX3_arrive 7 = .ok (.getfield 51, 3) := by decide +kernel
theorem dX3_arrive_10 : decode cX3_arrive 10 = .ok (.if_icmp .eq 74, 3) := by decide +kernel
theorem dX3_arrive_13 : decode cX3_arrive 13 = .ok (.aload_n 0, 1) := by decide +kernel
theorem dX3_arrive_14 : decode cX3_arrive 14 = .ok (.getfield 42, 3) := by decide +kernel
theorem dX3_arrive_17 : decode cX3_arrive 17 = .ok (.sipush 11880, 3) := by decide +kernel
theorem dX3_arrive_20 : decode cX3_arrive 20 = .ok (.if_icmp .ge 64, 3) := by decide +kernel
theorem dX3_arrive_23 : decode cX3_arrive 23 = .ok (.aload_n 0, 1) := by decide +kernel
theorem dX3_arrive_24 : decode cX3_arrive 24 = .ok (.getfield 24, 3) := by decide +kernel
theorem dX3_arrive_27 : decode cX3_arrive 27 = .ok (.iload_n 1, 1) := by decide +kernel
theorem dX3_arrive_28 : decode cX3_arrive 28 = .ok (.aload_n 0, 1) := by decide +kernel
theorem dX3_arrive_29 : decode cX3_arrive 29 = .ok (.getfield 51, 3) := by decide +kernel
theorem dX3_arrive_32 : decode cX3_arrive 32 = .ok (.iastore, 1) := by decide +kernel
theorem dX3_arrive_33 : decode cX3_arrive 33 = .ok (.aload_n 0, 1) := by decide +kernel
theorem dX3_arrive_34 : decode cX3_arrive 34 = .ok (.getfield 9, 3) := by decide +kernel
theorem dX3_arrive_37 : decode cX3_arrive 37 = .ok (.aload_n 0, 1) := by decide +kernel
theorem dX3_arrive_38 : decode cX3_arrive 38 = .ok (.getfield 42, 3) := by decide +kernel
theorem dX3_arrive_41 : decode cX3_arrive 41 = .ok (.iload_n 1, 1) := by decide +kernel
theorem dX3_arrive_42 : decode cX3_arrive 42 = .ok (.iastore, 1) := by decide +kernel
theorem dX3_arrive_43 : decode cX3_arrive 43 = .ok (.aload_n 0, 1) := by decide +kernel
theorem dX3_arrive_44 : decode cX3_arrive 44 = .ok (.getfield 15, 3) := by decide +kernel
theorem dX3_arrive_47 : decode cX3_arrive 47 = .ok (.aload_n 0, 1) := by decide +kernel
theorem dX3_arrive_48 : decode cX3_arrive 48 = .ok (.getfield 42, 3) := by decide +kernel
theorem dX3_arrive_51 : decode cX3_arrive 51 = .ok (.iload 4, 2) := by decide +kernel
theorem dX3_arrive_53 : decode cX3_arrive 53 = .ok (.iastore, 1) := by decide +kernel
theorem dX3_arrive_54 : decode cX3_arrive 54 = .ok (.aload_n 0, 1) := by decide +kernel
theorem dX3_arrive_55 : decode cX3_arrive 55 = .ok (.getfield 18, 3) := by decide +kernel
theorem dX3_arrive_58 : decode cX3_arrive 58 = .ok (.aload_n 0, 1) := by decide +kernel
theorem dX3_arrive_59 : decode cX3_arrive 59 = .ok (.getfield 42, 3) := by decide +kernel
theorem dX3_arrive_62 : decode cX3_arrive 62 = .ok (.iload_n 3, 1) := by decide +kernel
theorem dX3_arrive_63 : decode cX3_arrive 63 = .ok (.iastore, 1) := by decide +kernel
theorem dX3_arrive_64 : decode cX3_arrive 64 = .ok (.aload_n 0, 1) := by decide +kernel
theorem dX3_arrive_65 : decode cX3_arrive 65 = .ok (.getfield 21, 3) := by decide +kernel
theorem dX3_arrive_68 : decode cX3_arrive 68 = .ok (.aload_n 0, 1) := by decide +kernel
theorem dX3_arrive_69 : decode cX3_arrive 69 = .ok (.getfield 42, 3) := by decide +kernel
theorem dX3_arrive_72 : decode cX3_arrive 72 = .ok (.iload_n 2, 1) := by decide +kernel
theorem dX3_arrive_73 : decode cX3_arrive 73 = .ok (.iastore, 1) := by decide +kernel
theorem dX3_arrive_74 : decode cX3_arrive 74 = .ok (.aload_n 0, 1) := by decide +kernel
theorem dX3_arrive_75 : decode cX3_arrive 75 = .ok (.dup, 1) := by decide +kernel
theorem dX3_arrive_76 : decode cX3_arrive 76 = .ok (.getfield 42, 3) := by decide +kernel
theorem dX3_arrive_79 : decode cX3_arrive 79 = .ok (.iconst 1, 1) := by decide +kernel
theorem dX3_arrive_80 : decode cX3_arrive 80 = .ok (.iadd, 1) := by decide +kernel
theorem dX3_arrive_81 : decode cX3_arrive 81 = .ok (.putfield 42, 3) := by decide +kernel
theorem dX3_arrive_84 : decode cX3_arrive 84 = .ok (.return_, 1) := by decide +kernel
theorem dX3_learn_0 : decode cX3_learn 0 = .ok (.aload_n 0, 1) := by decide +kernel
theorem dX3_learn_1 : decode cX3_learn 1 = .ok (.getfield 38, 3) := by decide +kernel
theorem dX3_learn_4 : decode cX3_learn 4 = .ok (.istore_n 2, 1) := by decide +kernel
theorem dX3_learn_5 : decode cX3_learn 5 = .ok (.iconst 0, 1) := by decide +kernel
theorem dX3_learn_6 : decode cX3_learn 6 = .ok (.istore_n 3, 1) := by decide +kernel
theorem dX3_learn_7 : decode cX3_learn 7 = .ok (.iload_n 3, 1) := by decide +kernel
theorem dX3_learn_8 : decode cX3_learn 8 = .ok (.bipush 16, 2) := by decide +kernel
theorem dX3_learn_10 : decode cX3_learn 10 = .ok (.if_icmp .ge 79, 3) := by decide +kernel
theorem dX3_learn_13 : decode cX3_learn 13 = .ok (.aload_n 0, 1) := by decide +kernel
theorem dX3_learn_14 : decode cX3_learn 14 = .ok (.getfield 34, 3) := by decide +kernel
theorem dX3_learn_17 : decode cX3_learn 17 = .ok (.iload_n 1, 1) := by decide +kernel
theorem dX3_learn_18 : decode cX3_learn 18 = .ok (.iload_n 3, 1) := by decide +kernel
theorem dX3_learn_19 : decode cX3_learn 19 = .ok (.iconst 4, 1) := by decide +kernel
theorem dX3_learn_20 : decode cX3_learn 20 = .ok (.idiv, 1) := by decide +kernel
theorem dX3_learn_21 : decode cX3_learn 21 = .ok (.iload_n 3, 1) := by decide +kernel
theorem dX3_learn_22 : decode cX3_learn 22 = .ok (.iconst 4, 1) := by decide +kernel
theorem dX3_learn_23 : decode cX3_learn 23 = .ok (.irem, 1) := by decide +kernel
theorem dX3_learn_24 : decode cX3_learn 24 = .ok (.invokevirtual 88, 3) := by decide +kernel
theorem dX3_learn_27 : decode cX3_learn 27 = .ok (.istore 4, 2) := by decide +kernel
theorem dX3_learn_29 : decode cX3_learn 29 = .ok (.iload 4, 2) := by decide +kernel
theorem dX3_learn_31 : decode cX3_learn 31 = .ok (.bipush (-9), 2) := by decide +kernel
theorem dX3_learn_33 : decode cX3_learn 33 = .ok (.if_icmp .eq 50, 3) := by decide +kernel
theorem dX3_learn_36 : decode cX3_learn 36 = .ok (.aload_n 0, 1) := by decide +kernel
theorem dX3_learn_37 : decode cX3_learn 37 = .ok (.getfield 38, 3) := by decide +kernel
theorem dX3_learn_40 : decode cX3_learn 40 = .ok (.aload_n 0, 1) := by decide +kernel
theorem dX3_learn_41 : decode cX3_learn 41 = .ok (.getfield 31, 3) := by decide +kernel
theorem dX3_learn_44 : decode cX3_learn 44 = .ok (.arraylength, 1) := by decide +kernel
theorem dX3_learn_45 : decode cX3_learn 45 = .ok (.if_icmp .ge 38, 3) := by decide +kernel
theorem dX3_learn_48 : decode cX3_learn 48 = .ok (.aload_n 0, 1) := by decide +kernel
theorem dX3_learn_49 : decode cX3_learn 49 = .ok (.getfield 31, 3) := by decide +kernel
theorem dX3_learn_52 : decode cX3_learn 52 = .ok (.aload_n 0, 1) := by decide +kernel
theorem dX3_learn_53 : decode cX3_learn 53 = .ok (.getfield 38, 3) := by decide +kernel
theorem dX3_learn_56 : decode cX3_learn 56 = .ok (.bipush 64, 2) := by decide +kernel
theorem dX3_learn_58 : decode cX3_learn 58 = .ok (.iload 4, 2) := by decide +kernel
theorem dX3_learn_60 : decode cX3_learn 60 = .ok (.imul, 1) := by decide +kernel
theorem dX3_learn_61 : decode cX3_learn 61 = .ok (.bipush 10, 2) := by decide +kernel
theorem dX3_learn_63 : decode cX3_learn 63 = .ok (.iload_n 3, 1) := by decide +kernel
theorem dX3_learn_64 : decode cX3_learn 64 = .ok (.iconst 4, 1) := by decide +kernel
theorem dX3_learn_65 : decode cX3_learn 65 = .ok (.idiv, 1) := by decide +kernel
theorem dX3_learn_66 : decode cX3_learn 66 = .ok (.imul, 1) := by decide +kernel
theorem dX3_learn_67 : decode cX3_learn 67 = .ok (.iadd, 1) := by decide +kernel
theorem dX3_learn_68 : decode cX3_learn 68 = .ok (.iload_n 3, 1) := by decide +kernel
theorem dX3_learn_69 : decode cX3_learn 69 = .ok (.iconst 4, 1) := by decide +kernel
theorem dX3_learn_70 : decode cX3_learn 70 = .ok (.irem, 1) := by decide +kernel
theorem dX3_learn_71 : decode cX3_learn 71 = .ok (.iadd, 1) := by decide +kernel
theorem dX3_learn_72 : decode cX3_learn 72 = .ok (.iastore, 1) := by decide +kernel
theorem dX3_learn_73 : decode cX3_learn 73 = .ok (.aload_n 0, 1) := by decide +kernel
theorem dX3_learn_74 : decode cX3_learn 74 = .ok (.dup, 1) := by decide +kernel
theorem dX3_learn_75 : decode cX3_learn 75 = .ok (.getfield 38, 3) := by decide +kernel
theorem dX3_learn_78 : decode cX3_learn 78 = .ok (.iconst 1, 1) := by decide +kernel
theorem dX3_learn_79 : decode cX3_learn 79 = .ok (.iadd, 1) := by decide +kernel
theorem dX3_learn_80 : decode cX3_learn 80 = .ok (.putfield 38, 3) := by decide +kernel
theorem dX3_learn_83 : decode cX3_learn 83 = .ok (.iinc 3 1, 3) := by decide +kernel
theorem dX3_learn_86 : decode cX3_learn 86 = .ok (.goto (-79), 3) := by decide +kernel
theorem dX3_learn_89 : decode cX3_learn 89 = .ok (.aload_n 0, 1) := by decide +kernel
theorem dX3_learn_90 : decode cX3_learn 90 = .ok (.getfield 27, 3) := by decide +kernel
theorem dX3_learn_93 : decode cX3_learn 93 = .ok (.iload_n 1, 1) := by decide +kernel
theorem dX3_learn_94 : decode cX3_learn 94 = .ok (.bipush 32, 2) := by decide +kernel
theorem dX3_learn_96 : decode cX3_learn 96 = .ok (.iload_n 2, 1) := by decide +kernel
theorem dX3_learn_97 : decode cX3_learn 97 = .ok (.imul, 1) := by decide +kernel
theorem dX3_learn_98 : decode cX3_learn 98 = .ok (.aload_n 0, 1) := by decide +kernel
theorem dX3_learn_99 : decode cX3_learn 99 = .ok (.getfield 38, 3) := by decide +kernel
theorem dX3_learn_102 : decode cX3_learn 102 = .ok (.iadd, 1) := by decide +kernel
theorem dX3_learn_103 : decode cX3_learn 103 = .ok (.iload_n 2, 1) := by decide +kernel
theorem dX3_learn_104 : decode cX3_learn 104 = .ok (.isub, 1) := by decide +kernel
theorem dX3_learn_105 : decode cX3_learn 105 = .ok (.iastore, 1) := by decide +kernel
theorem dX3_learn_106 : decode cX3_learn 106 = .ok (.return_, 1) := by decide +kernel
theorem dX4_init_0 : decode cX4_init 0 = .ok (.aload_n 0, 1) := by decide +kernel
theorem dX4_init_1 : decode cX4_init 1 = .ok (.invokespecial 3, 3) := by decide +kernel
theorem dX4_init_4 : decode cX4_init 4 = .ok (.aload_n 0, 1) := by decide +kernel
theorem dX4_init_5 : decode cX4_init 5 = .ok (.iload_n 1, 1) := by decide +kernel
theorem dX4_init_6 : decode cX4_init 6 = .ok (.bipush 40, 2) := by decide +kernel
theorem dX4_init_8 : decode cX4_init 8 = .ok (.multianewarray 9 2, 4) := by decide +kernel
theorem dX4_init_12 : decode cX4_init 12 = .ok (.putfield 11, 3) := by decide +kernel
theorem dX4_init_15 : decode cX4_init 15 = .ok (.aload_n 0, 1) := by decide +kernel
theorem dX4_init_16 : decode cX4_init 16 = .ok (.iload_n 1, 1) := by decide +kernel
theorem dX4_init_17 : decode cX4_init 17 = .ok (.newarray .int, 2) := by decide +kernel
theorem dX4_init_19 : decode cX4_init 19 = .ok (.putfield 16, 3) := by decide +kernel
theorem dX4_init_22 : decode cX4_init 22 = .ok (.aload_n 0, 1) := by decide +kernel
theorem dX4_init_23 : decode cX4_init 23 = .ok (.getfield 16, 3) := by decide +kernel
theorem dX4_init_26 : decode cX4_init 26 = .ok (.iconst (-1), 1) := by decide +kernel
theorem dX4_init_27 : decode cX4_init 27 = .ok (.invokestatic 20, 3) := by decide +kernel
theorem dX4_init_30 : decode cX4_init 30 = .ok (.return_, 1) := by decide +kernel
theorem dX4_knows_0 : decode cX4_knows 0 = .ok (.iload_n 1, 1) := by decide +kernel
theorem dX4_knows_1 : decode cX4_knows 1 = .ok (.ifCond .lt 16, 3) := by decide +kernel
theorem dX4_knows_4 : decode cX4_knows 4 = .ok (.iload_n 1, 1) := by decide +kernel
theorem dX4_knows_5 : decode cX4_knows 5 = .ok (.aload_n 0, 1) := by decide +kernel
theorem dX4_knows_6 : decode cX4_knows 6 = .ok (.getfield 16, 3) := by decide +kernel
theorem dX4_knows_9 : decode cX4_knows 9 = .ok (.arraylength, 1) := by decide +kernel
theorem dX4_knows_10 : decode cX4_knows 10 = .ok (.if_icmp .ge 7, 3) := by decide +kernel
theorem dX4_knows_13 : decode cX4_knows 13 = .ok (.iconst 1, 1) := by decide +kernel
theorem dX4_knows_14 : decode cX4_knows 14 = .ok (.goto 4, 3) := by decide +kernel
theorem dX4_knows_17 : decode cX4_knows 17 = .ok (.iconst 0, 1) := by decide +kernel
theorem dX4_knows_18 : decode cX4_knows 18 = .ok (.ireturn, 1) := by decide +kernel
theorem dX4_holds_0 : decode cX4_holds 0 = .ok (.iload_n 1, 1) := by decide +kernel
theorem dX4_holds_1 : decode cX4_holds 1 = .ok (.ifCond .lt 25, 3) := by decide +kernel
theorem dX4_holds_4 : decode cX4_holds 4 = .ok (.iload_n 1, 1) := by decide +kernel
theorem dX4_holds_5 : decode cX4_holds 5 = .ok (.aload_n 0, 1) := by decide +kernel
theorem dX4_holds_6 : decode cX4_holds 6 = .ok (.getfield 16, 3) := by decide +kernel
theorem dX4_holds_9 : decode cX4_holds 9 = .ok (.arraylength, 1) := by decide +kernel
theorem dX4_holds_10 : decode cX4_holds 10 = .ok (.if_icmp .ge 16, 3) := by decide +kernel
theorem dX4_holds_13 : decode cX4_holds 13 = .ok (.aload_n 0, 1) := by decide +kernel
theorem dX4_holds_14 : decode cX4_holds 14 = .ok (.getfield 16, 3) := by decide +kernel
theorem dX4_holds_17 : decode cX4_holds 17 = .ok (.iload_n 1, 1) := by decide +kernel
theorem dX4_holds_18 : decode cX4_holds 18 = .ok (.iaload, 1) := by decide +kernel
theorem dX4_holds_19 : decode cX4_holds 19 = .ok (.ifCond .lt 7, 3) := by decide +kernel
theorem dX4_holds_22 : decode cX4_holds 22 = .ok (.iconst 1, 1) := by decide +kernel
theorem dX4_holds_23 : decode cX4_holds 23 = .ok (.goto 4, 3) := by decide +kernel
theorem dX4_holds_26 : decode cX4_holds 26 = .ok (.iconst 0, 1) := by decide +kernel
theorem dX4_holds_27 : decode cX4_holds 27 = .ok (.ireturn, 1) := by decide +kernel
theorem dX4_has_0 : decode cX4_has 0 = .ok (.aload_n 0, 1) := by decide +kernel
theorem dX4_has_1 : decode cX4_has 1 = .ok (.iload_n 1, 1) := by decide +kernel
theorem dX4_has_2 : decode cX4_has 2 = .ok (.invokevirtual 26, 3) := by decide +kernel
theorem dX4_has_5 : decode cX4_has 5 = .ok (.ifCond .eq 37, 3) := by decide +kernel
theorem dX4_has_8 : decode cX4_has 8 = .ok (.iload_n 2, 1) := by decide +kernel
theorem dX4_has_9 : decode cX4_has 9 = .ok (.ifCond .lt 33, 3) := by decide +kernel
theorem dX4_has_12 : decode cX4_has 12 = .ok (.iload_n 3, 1) := by decide +kernel
theorem dX4_has_13 : decode cX4_has 13 = .ok (.ifCond .lt 29, 3) := by decide +kernel
theorem dX4_has_16 : decode cX4_has 16 = .ok (.iload_n 3, 1) := by decide +kernel
theorem dX4_has_17 : decode cX4_has 17 = .ok (.aload_n 0, 1) := by decide +kernel
theorem dX4_has_18 : decode cX4_has 18 = .ok (.getfield 16, 3) := by decide +kernel
theorem dX4_has_21 : decode cX4_has 21 = .ok (.iload_n 1, 1) := by decide +kernel
theorem dX4_has_22 : decode cX4_has 22 = .ok (.iaload, 1) := by decide +kernel
theorem dX4_has_23 : decode cX4_has 23 = .ok (.if_icmp .gt 19, 3) := by decide +kernel
theorem dX4_has_26 : decode cX4_has 26 = .ok (.iload_n 2, 1) := by decide +kernel
theorem dX4_has_27 : decode cX4_has 27 = .ok (.aload_n 0, 1) := by decide +kernel
theorem dX4_has_28 : decode cX4_has 28 = .ok (.getfield 16, 3) := by decide +kernel
theorem dX4_has_31 : decode cX4_has 31 = .ok (.iload_n 1, 1) := by decide +kernel
theorem dX4_has_32 : decode cX4_has 32 = .ok (.iaload, 1) := by decide +kernel
theorem dX4_has_33 : decode cX4_has 33 = .ok (.iload_n 3, 1) := by decide +kernel
theorem dX4_has_34 : decode cX4_has 34 = .ok (.isub, 1) := by decide +kernel
theorem dX4_has_35 : decode cX4_has 35 = .ok (.if_icmp .gt 7, 3) := by decide +kernel
theorem dX4_has_38 : decode cX4_has 38 = .ok (.iconst 1, 1) := by decide +kernel
theorem dX4_has_39 : decode cX4_has 39 = .ok (.goto 4, 3) := by decide +kernel
theorem dX4_has_42 : decode cX4_has 42 = .ok (.iconst 0, 1) := by decide +kernel
theorem dX4_has_43 : decode cX4_has 43 = .ok (.ireturn, 1) := by decide +kernel
theorem dX4_size_0 : decode cX4_size 0 = .ok (.aload_n 0, 1) := by decide +kernel
theorem dX4_size_1 : decode cX4_size 1 = .ok (.iload_n 1, 1) := by decide +kernel
theorem dX4_size_2 : decode cX4_size 2 = .ok (.invokevirtual 30, 3) := by decide +kernel
theorem dX4_size_5 : decode cX4_size 5 = .ok (.ifCond .eq 12, 3) := by decide +kernel
theorem dX4_size_8 : decode cX4_size 8 = .ok (.aload_n 0, 1) := by decide +kernel
theorem dX4_size_9 : decode cX4_size 9 = .ok (.getfield 16, 3) := by decide +kernel
theorem dX4_size_12 : decode cX4_size 12 = .ok (.iload_n 1, 1) := by decide +kernel
theorem dX4_size_13 : decode cX4_size 13 = .ok (.iaload, 1) := by decide +kernel
theorem dX4_size_14 : decode cX4_size 14 = .ok (.goto 4, 3) := by decide +kernel
theorem dX4_size_17 : decode cX4_size 17 = .ok (.iconst (-1), 1) := by decide +kernel
theorem dX4_size_18 : decode cX4_size 18 = .ok (.ireturn, 1) := by decide +kernel
theorem dX4_make_0 : decode cX4_make 0 = .ok (.aload_n 0, 1) := by decide +kernel
theorem dX4_make_1 : decode cX4_make 1 = .ok (.iload_n 1, 1) := by decide +kernel
theorem dX4_make_2 : decode cX4_make 2 = .ok (.invokevirtual 30, 3) := by decide +kernel
theorem dX4_make_5 : decode cX4_make 5 = .ok (.ifCond .eq 30, 3) := by decide +kernel
theorem dX4_make_8 : decode cX4_make 8 = .ok (.iload_n 2, 1) := by decide +kernel
theorem dX4_make_9 : decode cX4_make 9 = .ok (.ifCond .lt 26, 3) := by decide +kernel
theorem dX4_make_12 : decode cX4_make 12 = .ok (.iload_n 2, 1) := by decide +kernel
theorem dX4_make_13 : decode cX4_make 13 = .ok (.bipush 40, 2) := by decide +kernel
theorem dX4_make_15 : decode cX4_make 15 = .ok (.if_icmp .gt 20, 3) := by decide +kernel
theorem dX4_make_18 : decode cX4_make 18 = .ok (.aload_n 0, 1) := by decide +kernel
theorem dX4_make_19 : decode cX4_make 19 = .ok (.getfield 16, 3) := by decide +kernel
theorem dX4_make_22 : decode cX4_make 22 = .ok (.iload_n 1, 1) := by decide +kernel
theorem dX4_make_23 : decode cX4_make 23 = .ok (.iload_n 2, 1) := by decide +kernel
theorem dX4_make_24 : decode cX4_make 24 = .ok (.iastore, 1) := by decide +kernel
theorem dX4_make_25 : decode cX4_make 25 = .ok (.aload_n 0, 1) := by decide +kernel
theorem dX4_make_26 : decode cX4_make 26 = .ok (.getfield 11, 3) := by decide +kernel
theorem dX4_make_29 : decode cX4_make 29 = .ok (.iload_n 1, 1) := by decide +kernel
theorem dX4_make_30 : decode cX4_make 30 = .ok (.aaload, 1) := by decide +kernel
theorem dX4_make_31 : decode cX4_make 31 = .ok (.iload_n 3, 1) := by decide +kernel
theorem dX4_make_32 : decode cX4_make 32 = .ok (.invokestatic 20, 3) := by decide +kernel
theorem dX4_make_35 : decode cX4_make 35 = .ok (.return_, 1) := by decide +kernel
theorem dX4_drop_0 : decode cX4_drop 0 = .ok (.aload_n 0, 1) := by decide +kernel
theorem dX4_drop_1 : decode cX4_drop 1 = .ok (.iload_n 1, 1) := by decide +kernel
theorem dX4_drop_2 : decode cX4_drop 2 = .ok (.invokevirtual 30, 3) := by decide +kernel
theorem dX4_drop_5 : decode cX4_drop 5 = .ok (.ifCond .eq 10, 3) := by decide +kernel
theorem dX4_drop_8 : decode cX4_drop 8 = .ok (.aload_n 0, 1) := by decide +kernel
theorem dX4_drop_9 : decode cX4_drop 9 = .ok (.getfield 16, 3) := by decide +kernel
theorem dX4_drop_12 : decode cX4_drop 12 = .ok (.iload_n 1, 1) := by decide +kernel
theorem dX4_drop_13 : decode cX4_drop 13 = .ok (.iconst (-1), 1) := by decide +kernel
theorem dX4_drop_14 : decode cX4_drop 14 = .ok (.iastore, 1) := by decide +kernel
theorem dX4_drop_15 : decode cX4_drop 15 = .ok (.return_, 1) := by decide +kernel
theorem dX4_get_0 : decode cX4_get 0 = .ok (.aload_n 0, 1) := by decide +kernel
theorem dX4_get_1 : decode cX4_get 1 = .ok (.iload_n 1, 1) := by decide +kernel
theorem dX4_get_2 : decode cX4_get 2 = .ok (.iload_n 2, 1) := by decide +kernel
theorem dX4_get_3 : decode cX4_get 3 = .ok (.iconst 1, 1) := by decide +kernel
theorem dX4_get_4 : decode cX4_get 4 = .ok (.invokevirtual 33, 3) := by decide +kernel
theorem dX4_get_7 : decode cX4_get 7 = .ok (.ifCond .eq 14, 3) := by decide +kernel
theorem dX4_get_10 : decode cX4_get 10 = .ok (.aload_n 0, 1) := by decide +kernel
theorem dX4_get_11 : decode cX4_get 11 = .ok (.getfield 11, 3) := by decide +kernel
theorem dX4_get_14 : decode cX4_get 14 = .ok (.iload_n 1, 1) := by decide +kernel
theorem dX4_get_15 : decode cX4_get 15 = .ok (.aaload, 1) := by decide +kernel
theorem dX4_get_16 : decode cX4_get 16 = .ok (.iload_n 2, 1) := by decide +kernel
theorem dX4_get_17 : decode cX4_get 17 = .ok (.iaload, 1) := by decide +kernel
theorem dX4_get_18 : decode cX4_get 18 = .ok (.goto 4, 3) := by decide +kernel
theorem dX4_get_21 : decode cX4_get 21 = .ok (.iconst 0, 1) := by decide +kernel
theorem dX4_get_22 : decode cX4_get 22 = .ok (.ireturn, 1) := by decide +kernel
theorem dX4_set_0 : decode cX4_set 0 = .ok (.aload_n 0, 1) := by decide +kernel
theorem dX4_set_1 : decode cX4_set 1 = .ok (.iload_n 1, 1) := by decide +kernel
theorem dX4_set_2 : decode cX4_set 2 = .ok (.iload_n 2, 1) := by decide +kernel
theorem dX4_set_3 : decode cX4_set 3 = .ok (.iconst 1, 1) := by decide +kernel
theorem dX4_set_4 : decode cX4_set 4 = .ok (.invokevirtual 33, 3) := by decide +kernel
theorem dX4_set_7 : decode cX4_set 7 = .ok (.ifCond .eq 12, 3) := by decide +kernel
theorem dX4_set_10 : decode cX4_set 10 = .ok (.aload_n 0, 1) := by decide +kernel
theorem dX4_set_11 : decode cX4_set 11 = .ok (.getfield 11, 3) := by decide +kernel
theorem dX4_set_14 : decode cX4_set 14 = .ok (.iload_n 1, 1) := by decide +kernel
theorem dX4_set_15 : decode cX4_set 15 = .ok (.aaload, 1) := by decide +kernel
theorem dX4_set_16 : decode cX4_set 16 = .ok (.iload_n 2, 1) := by decide +kernel
theorem dX4_set_17 : decode cX4_set 17 = .ok (.iload_n 3, 1) := by decide +kernel
theorem dX4_set_18 : decode cX4_set 18 = .ok (.iastore, 1) := by decide +kernel
theorem dX4_set_19 : decode cX4_set 19 = .ok (.return_, 1) := by decide +kernel
theorem dX4_move_0 : decode cX4_move 0 = .ok (.aload_n 0, 1) := by decide +kernel
theorem dX4_move_1 : decode cX4_move 1 = .ok (.iload_n 1, 1) := by decide +kernel
theorem dX4_move_2 : decode cX4_move 2 = .ok (.iload_n 2, 1) := by decide +kernel
theorem dX4_move_3 : decode cX4_move 3 = .ok (.iload 5, 2) := by decide +kernel
theorem dX4_move_5 : decode cX4_move 5 = .ok (.invokevirtual 33, 3) := by decide +kernel
theorem dX4_move_8 : decode cX4_move 8 = .ok (.ifCond .eq 35, 3) := by decide +kernel
theorem dX4_move_11 : decode cX4_move 11 = .ok (.aload_n 0, 1) := by decide +kernel
theorem dX4_move_12 : decode cX4_move 12 = .ok (.iload_n 3, 1) := by decide +kernel
theorem dX4_move_13 : decode cX4_move 13 = .ok (.iload 4, 2) := by decide +kernel
theorem dX4_move_15 : decode cX4_move 15 = .ok (.iload 5, 2) := by decide +kernel
theorem dX4_move_17 : decode cX4_move 17 = .ok (.invokevirtual 33, 3) := by decide +kernel
theorem dX4_move_20 : decode cX4_move 20 = .ok (.ifCond .eq 23, 3) := by decide +kernel
theorem dX4_move_23 : decode cX4_move 23 = .ok (.aload_n 0, 1) := by decide +kernel
theorem dX4_move_24 : decode cX4_move 24 = .ok (.getfield 11, 3) := by decide +kernel
theorem dX4_move_27 : decode cX4_move 27 = .ok (.iload_n 1, 1) := by decide +kernel
theorem dX4_move_28 : decode cX4_move 28 = .ok (.aaload, 1) := by decide +kernel
theorem dX4_move_29 : decode cX4_move 29 = .ok (.iload_n 2, 1) := by decide +kernel
theorem dX4_move_30 : decode cX4_move 30 = .ok (.aload_n 0, 1) := by decide +kernel
theorem dX4_move_31 : decode cX4_move 31 = .ok (.getfield 11, 3) := by decide +kernel
theorem dX4_move_34 : decode cX4_move 34 = .ok (.iload_n 3, 1) := by decide +kernel
theorem dX4_move_35 : decode cX4_move 35 = .ok (.aaload, 1) := by decide +kernel
theorem dX4_move_36 : decode cX4_move 36 = .ok (.iload 4, 2) := by decide +kernel
theorem dX4_move_38 : decode cX4_move 38 = .ok (.iload 5, 2) := by decide +kernel
theorem dX4_move_40 : decode cX4_move 40 = .ok (.invokestatic 37, 3) := by decide +kernel
theorem dX4_move_43 : decode cX4_move 43 = .ok (.return_, 1) := by decide +kernel
theorem dX4_held_0 : decode cX4_held 0 = .ok (.iconst 0, 1) := by decide +kernel
theorem dX4_held_1 : decode cX4_held 1 = .ok (.istore_n 1, 1) := by decide +kernel
theorem dX4_held_2 : decode cX4_held 2 = .ok (.iconst 0, 1) := by decide +kernel
theorem dX4_held_3 : decode cX4_held 3 = .ok (.istore_n 2, 1) := by decide +kernel
theorem dX4_held_4 : decode cX4_held 4 = .ok (.iload_n 2, 1) := by decide +kernel
theorem dX4_held_5 : decode cX4_held 5 = .ok (.aload_n 0, 1) := by decide +kernel
theorem dX4_held_6 : decode cX4_held 6 = .ok (.getfield 16, 3) := by decide +kernel
theorem dX4_held_9 : decode cX4_held 9 = .ok (.arraylength, 1) := by decide +kernel
theorem dX4_held_10 : decode cX4_held 10 = .ok (.if_icmp .ge 21, 3) := by decide +kernel
theorem dX4_held_13 : decode cX4_held 13 = .ok (.aload_n 0, 1) := by decide +kernel
theorem dX4_held_14 : decode cX4_held 14 = .ok (.getfield 16, 3) := by decide +kernel
theorem dX4_held_17 : decode cX4_held 17 = .ok (.iload_n 2, 1) := by decide +kernel
theorem dX4_held_18 : decode cX4_held 18 = .ok (.iaload, 1) := by decide +kernel
theorem dX4_held_19 : decode cX4_held 19 = .ok (.ifCond .lt 6, 3) := by decide +kernel
theorem dX4_held_22 : decode cX4_held 22 = .ok (.iinc 1 1, 3) := by decide +kernel
theorem dX4_held_25 : decode cX4_held 25 = .ok (.iinc 2 1, 3) := by decide +kernel
theorem dX4_held_28 : decode cX4_held 28 = .ok (.goto (-24), 3) := by decide +kernel
theorem dX4_held_31 : decode cX4_held 31 = .ok (.iload_n 1, 1) := by decide +kernel
theorem dX4_held_32 : decode cX4_held 32 = .ok (.ireturn, 1) := by decide +kernel
theorem dX4_mixedInto_0 : decode cX4_mixedInto 0 = .ok (.lload_n 1, 1) := by decide +kernel
theorem dX4_mixedInto_1 : decode cX4_mixedInto 1 = .ok (.lstore_n 3, 1) := by decide +kernel
theorem dX4_mixedInto_2 : decode cX4_mixedInto 2 = .ok (.iconst 0, 1) := by decide +kernel
theorem dX4_mixedInto_3 : decode cX4_mixedInto 3 = .ok (.istore 5, 2) := by decide +kernel
theorem dX4_mixedInto_5 : decode cX4_mixedInto 5 = .ok (.iload 5, 2) := by decide +kernel
theorem dX4_mixedInto_7 : decode cX4_mixedInto 7 = .ok (.aload_n 0, 1) := by decide +kernel
theorem dX4_mixedInto_8 : decode cX4_mixedInto 8 = .ok (.getfield 16, 3) := by decide +kernel
theorem dX4_mixedInto_11 : decode cX4_mixedInto 11 = .ok (.arraylength, 1) := by decide +kernel
theorem dX4_mixedInto_12 : decode cX4_mixedInto 12 = .ok (.if_icmp .ge 63, 3) := by decide +kernel
theorem dX4_mixedInto_15 : decode cX4_mixedInto 15 = .ok (.ldc2_w 43, 3) := by decide +kernel
theorem dX4_mixedInto_18 : decode cX4_mixedInto 18 = .ok (.lload_n 3, 1) := by decide +kernel
theorem dX4_mixedInto_19 : decode cX4_mixedInto 19 = .ok (.lmul, 1) := by decide +kernel
theorem dX4_mixedInto_20 : decode cX4_mixedInto 20 = .ok (.aload_n 0, 1) := by decide +kernel
theorem dX4_mixedInto_21 : decode cX4_mixedInto 21 = .ok (.getfield 16, 3) := by decide +kernel
theorem dX4_mixedInto_24 : decode cX4_mixedInto 24 = .ok (.iload 5, 2) := by decide +kernel
theorem dX4_mixedInto_26 : decode cX4_mixedInto 26 = .ok (.iaload, 1) := by decide +kernel
theorem dX4_mixedInto_27 : decode cX4_mixedInto 27 = .ok (.i2l, 1) := by decide +kernel
theorem dX4_mixedInto_28 : decode cX4_mixedInto 28 = .ok (.ladd, 1) := by decide +kernel
theorem dX4_mixedInto_29 : decode cX4_mixedInto 29 = .ok (.lstore_n 3, 1) := by decide +kernel
theorem dX4_mixedInto_30 : decode cX4_mixedInto 30 = .ok (.iconst 0, 1) := by decide +kernel
theorem dX4_mixedInto_31 : decode cX4_mixedInto 31 = .ok (.istore 6, 2) := by decide +kernel
theorem dX4_mixedInto_33 : decode cX4_mixedInto 33 = .ok (.iload 6, 2) := by decide +kernel
theorem dX4_mixedInto_35 : decode cX4_mixedInto 35 = .ok (.aload_n 0, 1) := by decide +kernel
theorem dX4_mixedInto_36 : decode cX4_mixedInto 36 = .ok (.getfield 16, 3) := by decide +kernel
theorem dX4_mixedInto_39 : decode cX4_mixedInto 39 = .ok (.iload 5, 2) := by decide +kernel
theorem dX4_mixedInto_41 : decode cX4_mixedInto 41 = .ok (.iaload, 1) := by decide +kernel
theorem dX4_mixedInto_42 : decode cX4_mixedInto 42 = .ok (.if_icmp .ge 27, 3) := by decide +kernel
theorem dX4_mixedInto_45 : decode cX4_mixedInto 45 = .ok (.ldc2_w 43, 3) := by decide +kernel
theorem dX4_mixedInto_48 : decode cX4_mixedInto 48 = .ok (.lload_n 3, 1) := by decide +kernel
theorem dX4_mixedInto_49 : decode cX4_mixedInto 49 = .ok (.lmul, 1) := by decide +kernel
theorem dX4_mixedInto_50 : decode cX4_mixedInto 50 = .ok (.aload_n 0, 1) := by decide +kernel
theorem dX4_mixedInto_51 : decode cX4_mixedInto 51 = .ok (.getfield 11, 3) := by decide +kernel
theorem dX4_mixedInto_54 : decode cX4_mixedInto 54 = .ok (.iload 5, 2) := by decide +kernel
theorem dX4_mixedInto_56 : decode cX4_mixedInto 56 = .ok (.aaload, 1) := by decide +kernel
theorem dX4_mixedInto_57 : decode cX4_mixedInto 57 = .ok (.iload 6, 2) := by decide +kernel
theorem dX4_mixedInto_59 : decode cX4_mixedInto 59 = .ok (.iaload, 1) := by decide +kernel
theorem dX4_mixedInto_60 : decode cX4_mixedInto 60 = .ok (.i2l, 1) := by decide +kernel
theorem dX4_mixedInto_61 : decode cX4_mixedInto 61 = .ok (.ladd, 1) := by decide +kernel
theorem dX4_mixedInto_62 : decode cX4_mixedInto 62 = .ok (.lstore_n 3, 1) := by decide +kernel
theorem dX4_mixedInto_63 : decode cX4_mixedInto 63 = .ok (.iinc 6 1, 3) := by decide +kernel
theorem dX4_mixedInto_66 : decode cX4_mixedInto 66 = .ok (.goto (-33), 3) := by decide +kernel
theorem dX4_mixedInto_69 : decode cX4_mixedInto 69 = .ok (.iinc 5 1, 3) := by decide +kernel
theorem dX4_mixedInto_72 : decode cX4_mixedInto 72 = .ok (.goto (-67), 3) := by decide +kernel
theorem dX4_mixedInto_75 : decode cX4_mixedInto 75 = .ok (.lload_n 3, 1) := by decide +kernel
theorem dX4_mixedInto_76 : decode cX4_mixedInto 76 = .ok (.lreturn, 1) := by decide +kernel
theorem dX5_init_0 : decode cX5_init 0 = .ok (.aload_n 0, 1) := by decide +kernel
theorem dX5_init_1 : decode cX5_init 1 = .ok (.invokespecial 3, 3) := by decide +kernel
theorem dX5_init_4 : decode cX5_init 4 = .ok (.aload_n 0, 1) := by decide +kernel
theorem dX5_init_5 : decode cX5_init 5 = .ok (.iconst 5, 1) := by decide +kernel
theorem dX5_init_6 : decode cX5_init 6 = .ok (.newarray .int, 2) := by decide +kernel
theorem dX5_init_8 : decode cX5_init 8 = .ok (.putfield 9, 3) := by decide +kernel
theorem dX5_init_11 : decode cX5_init 11 = .ok (.aload_n 0, 1) := by decide +kernel
theorem dX5_init_12 : decode cX5_init 12 = .ok (.iconst 5, 1) := by decide +kernel
theorem dX5_init_13 : decode cX5_init 13 = .ok (.newarray .int, 2) := by decide +kernel
theorem dX5_init_15 : decode cX5_init 15 = .ok (.putfield 15, 3) := by decide +kernel
theorem dX5_init_18 : decode cX5_init 18 = .ok (.aload_n 0, 1) := by decide +kernel
theorem dX5_init_19 : decode cX5_init 19 = .ok (.iconst 5, 1) := by decide +kernel
theorem dX5_init_20 : decode cX5_init 20 = .ok (.newarray .int, 2) := by decide +kernel
theorem dX5_init_22 : decode cX5_init 22 = .ok (.putfield 18, 3) := by decide +kernel
theorem dX5_init_25 : decode cX5_init 25 = .ok (.aload_n 0, 1) := by decide +kernel
theorem dX5_init_26 : decode cX5_init 26 = .ok (.iconst 5, 1) := by decide +kernel
theorem dX5_init_27 : decode cX5_init 27 = .ok (.newarray .int, 2) := by decide +kernel
theorem dX5_init_29 : decode cX5_init 29 = .ok (.putfield 21, 3) := by decide +kernel
theorem dX5_init_32 : decode cX5_init 32 = .ok (.aload_n 0, 1) := by decide +kernel
theorem dX5_init_33 : decode cX5_init 33 = .ok (.bipush 25, 2) := by decide +kernel
theorem dX5_init_35 : decode cX5_init 35 = .ok (.newarray .int, 2) := by decide +kernel
theorem dX5_init_37 : decode cX5_init 37 = .ok (.putfield 24, 3) := by decide +kernel
theorem dX5_init_40 : decode cX5_init 40 = .ok (.aload_n 0, 1) := by decide +kernel
theorem dX5_init_41 : decode cX5_init 41 = .ok (.bipush 25, 2) := by decide +kernel
theorem dX5_init_43 : decode cX5_init 43 = .ok (.newarray .int, 2) := by decide +kernel
theorem dX5_init_45 : decode cX5_init 45 = .ok (.putfield 27, 3) := by decide +kernel
theorem dX5_init_48 : decode cX5_init 48 = .ok (.aload_n 0, 1) := by decide +kernel
theorem dX5_init_49 : decode cX5_init 49 = .ok (.aload_n 1, 1) := by decide +kernel
theorem dX5_init_50 : decode cX5_init 50 = .ok (.putfield 30, 3) := by decide +kernel
theorem dX5_init_53 : decode cX5_init 53 = .ok (.return_, 1) := by decide +kernel
theorem dX5_take_0 : decode cX5_take 0 = .ok (.aload_n 0, 1) := by decide +kernel
theorem dX5_take_1 : decode cX5_take 1 = .ok (.iconst 0, 1) := by decide +kernel
theorem dX5_take_2 : decode cX5_take 2 = .ok (.aload_n 1, 1) := by decide +kernel
theorem dX5_take_3 : decode cX5_take 3 = .ok (.iload_n 2, 1) := by decide +kernel
theorem dX5_take_4 : decode cX5_take 4 = .ok (.invokevirtual 34, 3) := by decide +kernel
theorem dX5_take_7 : decode cX5_take 7 = .ok (.iconst 5, 1) := by decide +kernel
theorem dX5_take_8 : decode cX5_take 8 = .ok (.invokestatic 40, 3) := by decide +kernel
theorem dX5_take_11 : decode cX5_take 11 = .ok (.invokestatic 46, 3) := by decide +kernel
theorem dX5_take_14 : decode cX5_take 14 = .ok (.putfield 49, 3) := by decide +kernel
theorem dX5_take_17 : decode cX5_take 17 = .ok (.iconst 0, 1) := by decide +kernel
theorem dX5_take_18 : decode cX5_take 18 = .ok (.istore_n 3, 1) := by decide +kernel
theorem dX5_take_19 : decode cX5_take 19 = .ok (.iload_n 3, 1) := by decide +kernel
theorem dX5_take_20 : decode cX5_take 20 = .ok (.aload_n 0, 1) := by decide +kernel
theorem dX5_take_21 : decode cX5_take 21 = .ok (.getfield 49, 3) := by decide +kernel
theorem dX5_take_24 : decode cX5_take 24 = .ok (.if_icmp .ge 39, 3) := by decide +kernel
theorem dX5_take_27 : decode cX5_take 27 = .ok (.aload_n 0, 1) := by decide +kernel
theorem dX5_take_28 : decode cX5_take 28 = .ok (.getfield 9, 3) := by decide +kernel
theorem dX5_take_31 : decode cX5_take 31 = .ok (.iload_n 3, 1) := by decide +kernel
theorem dX5_take_32 : decode cX5_take 32 = .ok (.aload_n 1, 1) := by decide +kernel
theorem dX5_take_33 : decode cX5_take 33 = .ok (.iload_n 2, 1) := by decide +kernel
theorem dX5_take_34 : decode cX5_take 34 = .ok (.iload_n 3, 1) := by decide +kernel
theorem dX5_take_35 : decode cX5_take 35 = .ok (.invokevirtual 53, 3) := by decide +kernel
theorem dX5_take_38 : decode cX5_take 38 = .ok (.bipush 100, 2) := by decide +kernel
theorem dX5_take_40 : decode cX5_take 40 = .ok (.idiv, 1) := by decide +kernel
theorem dX5_take_41 : decode cX5_take 41 = .ok (.iastore, 1) := by decide +kernel
theorem dX5_take_42 : decode cX5_take 42 = .ok (.aload_n 0, 1) := by decide +kernel
theorem dX5_take_43 : decode cX5_take 43 = .ok (.getfield 15, 3) := by decide +kernel
theorem dX5_take_46 : decode cX5_take 46 = .ok (.iload_n 3, 1) := by decide +kernel
theorem dX5_take_47 : decode cX5_take 47 = .ok (.aload_n 1, 1) := by decide +kernel
theorem dX5_take_48 : decode cX5_take 48 = .ok (.iload_n 2, 1) := by decide +kernel
theorem dX5_take_49 : decode cX5_take 49 = .ok (.iload_n 3, 1) := by decide +kernel
theorem dX5_take_50 : decode cX5_take 50 = .ok (.invokevirtual 53, 3) := by decide +kernel
theorem dX5_take_53 : decode cX5_take 53 = .ok (.bipush 100, 2) := by decide +kernel
theorem dX5_take_55 : decode cX5_take 55 = .ok (.irem, 1) := by decide +kernel
theorem dX5_take_56 : decode cX5_take 56 = .ok (.iastore, 1) := by decide +kernel
theorem dX5_take_57 : decode cX5_take 57 = .ok (.iinc 3 1, 3) := by decide +kernel
theorem dX5_take_60 : decode cX5_take 60 = .ok (.goto (-41), 3) := by decide +kernel
theorem dX5_take_63 : decode cX5_take 63 = .ok (.aload_n 0, 1) := by decide +kernel
theorem dX5_take_64 : decode cX5_take 64 = .ok (.bipush (-9), 2) := by decide +kernel
theorem dX5_take_66 : decode cX5_take 66 = .ok (.putfield 56, 3) := by decide +kernel
theorem dX5_take_69 : decode cX5_take 69 = .ok (.aload_n 0, 1) := by decide +kernel
theorem dX5_take_70 : decode cX5_take 70 = .ok (.iconst 0, 1) := by decide +kernel
theorem dX5_take_71 : decode cX5_take 71 = .ok (.putfield 59, 3) := by decide +kernel
theorem dX5_take_74 : decode cX5_take 74 = .ok (.return_, 1) := by decide +kernel
theorem dX5_all_0 : decode cX5_all 0 = .ok (.iconst 1, 1) := by decide +kernel
theorem dX5_all_1 : decode cX5_all 1 = .ok (.aload_n 0, 1) := by decide +kernel
theorem dX5_all_2 : decode cX5_all 2 = .ok (.getfield 49, 3) := by decide +kernel
theorem dX5_all_5 : decode cX5_all 5 = .ok (.ishl, 1) := by decide +kernel
theorem dX5_all_6 : decode cX5_all 6 = .ok (.iconst 1, 1) := by decide +kernel
theorem dX5_all_7 : decode cX5_all 7 = .ok (.isub, 1) := by decide +kernel
theorem dX5_all_8 : decode cX5_all 8 = .ok (.ireturn, 1) := by decide +kernel
theorem dX5_arrange_0 : decode cX5_arrange 0 = .ok (.iload_n 1, 1) := by decide +kernel
theorem dX5_arrange_1 : decode cX5_arrange 1 = .ok (.aload_n 0, 1) := by decide +kernel
theorem dX5_arrange_2 : decode cX5_arrange 2 = .ok (.getfield 49, 3) := by decide +kernel
theorem dX5_arrange_5 : decode cX5_arrange 5 = .ok (.if_icmp .ge 8, 3) := by decide +kernel
theorem dX5_arrange_8 : decode cX5_arrange 8 = .ok (.iload_n 1, 1) := by decide +kernel
theorem dX5_arrange_9 : decode cX5_arrange 9 = .ok (.iconst 5, 1) := by decide +kernel
theorem dX5_arrange_10 : decode cX5_arrange 10 = .ok (.if_icmp .lt 12, 3) := by decide +kernel
theorem dX5_arrange_13 : decode cX5_arrange 13 = .ok (.aload_n 0, 1) := by decide +kernel
theorem dX5_arrange_14 : decode cX5_arrange 14 = .ok (.iload_n 1, 1) := by decide +kernel
theorem dX5_arrange_15 : decode cX5_arrange 15 = .ok (.iload_n 3, 1) := by decide +kernel
theorem dX5_arrange_16 : decode cX5_arrange 16 = .ok (.iload_n 1, 1) := by decide +kernel
theorem dX5_arrange_17 : decode cX5_arrange 17 = .ok (.iconst 0, 1) := by decide +kernel
theorem dX5_arrange_18 : decode cX5_arrange 18 = .ok (.invokevirtual 62, 3) := by decide +kernel
theorem dX5_arrange_21 : decode cX5_arrange 21 = .ok (.return_, 1) := by decide +kernel
theorem dX5_arrange_22 : decode cX5_arrange 22 = .ok (.iconst 0, 1) := by decide +kernel
theorem dX5_arrange_23 : decode cX5_arrange 23 = .ok (.istore 6, 2) := by decide +kernel
theorem dX5_arrange_25 : decode cX5_arrange 25 = .ok (.iconst 0, 1) := by decide +kernel
theorem dX5_arrange_26 : decode cX5_arrange 26 = .ok (.istore 7, 2) := by decide +kernel
theorem dX5_arrange_28 : decode cX5_arrange 28 = .ok (.iload 7, 2) := by decide +kernel
theorem dX5_arrange_30 : decode cX5_arrange 30 = .ok (.aload_n 0, 1) := by decide +kernel
theorem dX5_arrange_31 : decode cX5_arrange 31 = .ok (.getfield 49, 3) := by decide +kernel
theorem dX5_arrange_34 : decode cX5_arrange 34 = .ok (.if_icmp .ge 120, 3) := by decide +kernel
theorem dX5_arrange_37 : decode cX5_arrange 37 = .ok (.iload 4, 2) := by decide +kernel
theorem dX5_arrange_39 : decode cX5_arrange 39 = .ok (.iload 5, 2) := by decide +kernel
theorem dX5_arrange_41 : decode cX5_arrange 41 = .ok (.iand, 1) := by decide +kernel
theorem dX5_arrange_42 : decode cX5_arrange 42 = .ok (.iload 7, 2) := by decide +kernel
theorem dX5_arrange_44 : decode cX5_arrange 44 = .ok (.ishr, 1) := by decide +kernel
theorem dX5_arrange_45 : decode cX5_arrange 45 = .ok (.iconst 1, 1) := by decide +kernel
theorem dX5_arrange_46 : decode cX5_arrange 46 = .ok (.iand, 1) := by decide +kernel
theorem dX5_arrange_47 : decode cX5_arrange 47 = .ok (.iconst 1, 1) := by decide +kernel
theorem dX5_arrange_48 : decode cX5_arrange 48 = .ok (.if_icmp .ne 7, 3) := by decide +kernel
theorem dX5_arrange_51 : decode cX5_arrange 51 = .ok (.iconst 1, 1) := by decide +kernel
theorem dX5_arrange_52 : decode cX5_arrange 52 = .ok (.goto 4, 3) := by decide +kernel
theorem dX5_arrange_55 : decode cX5_arrange 55 = .ok (.iconst 0, 1) := by decide +kernel
theorem dX5_arrange_56 : decode cX5_arrange 56 = .ok (.istore 8, 2) := by decide +kernel
theorem dX5_arrange_58 : decode cX5_arrange 58 = .ok (.iload 8, 2) := by decide +kernel
theorem dX5_arrange_60 : decode cX5_arrange 60 = .ok (.ifCond .eq 28, 3) := by decide +kernel
theorem dX5_arrange_63 : decode cX5_arrange 63 = .ok (.aload_n 0, 1) := by decide +kernel
theorem dX5_arrange_64 : decode cX5_arrange 64 = .ok (.getfield 30, 3) := by decide +kernel
theorem dX5_arrange_67 : decode cX5_arrange 67 = .ok (.iload_n 2, 1) := by decide +kernel
theorem dX5_arrange_68 : decode cX5_arrange 68 = .ok (.aload_n 0, 1) := by decide +kernel
theorem dX5_arrange_69 : decode cX5_arrange 69 = .ok (.getfield 9, 3) := by decide +kernel
theorem dX5_arrange_72 : decode cX5_arrange 72 = .ok (.iload 7, 2) := by decide +kernel
theorem dX5_arrange_74 : decode cX5_arrange 74 = .ok (.iaload, 1) := by decide +kernel
theorem dX5_arrange_75 : decode cX5_arrange 75 = .ok (.aload_n 0, 1) := by decide +kernel
theorem dX5_arrange_76 : decode cX5_arrange 76 = .ok (.getfield 15, 3) := by decide +kernel
theorem dX5_arrange_79 : decode cX5_arrange 79 = .ok (.iload 7, 2) := by decide +kernel
theorem dX5_arrange_81 : decode cX5_arrange 81 = .ok (.iaload, 1) := by decide +kernel
theorem dX5_arrange_82 : decode cX5_arrange 82 = .ok (.invokevirtual 66, 3) := by decide +kernel
theorem dX5_arrange_85 : decode cX5_arrange 85 = .ok (.goto 5, 3) := by decide +kernel
theorem dX5_arrange_88 : decode cX5_arrange 88 = .ok (.bipush (-9), 2) := by decide +kernel
theorem dX5_arrange_90 : decode cX5_arrange 90 = .ok (.istore 9, 2) := by decide +kernel
theorem dX5_arrange_92 : decode cX5_arrange 92 = .ok (.iload 9, 2) := by decide +kernel
theorem dX5_arrange_94 : decode cX5_arrange 94 = .ok (.bipush (-9), 2) := by decide +kernel
theorem dX5_arrange_96 : decode cX5_arrange 96 = .ok (.if_icmp .eq 52, 3) := by decide +kernel
theorem dX5_arrange_99 : decode cX5_arrange 99 = .ok (.iload 6, 2) := by decide +kernel
theorem dX5_arrange_101 : decode cX5_arrange 101 = .ok (.iconst 1, 1) := by decide +kernel
theorem dX5_arrange_102 : decode cX5_arrange 102 = .ok (.iload 7, 2) := by decide +kernel
theorem dX5_arrange_104 : decode cX5_arrange 104 = .ok (.ishl, 1) := by decide +kernel
theorem dX5_arrange_105 : decode cX5_arrange 105 = .ok (.ior, 1) := by decide +kernel
theorem dX5_arrange_106 : decode cX5_arrange 106 = .ok (.istore 6, 2) := by decide +kernel
theorem dX5_arrange_108 : decode cX5_arrange 108 = .ok (.aload_n 0, 1) := by decide +kernel
theorem dX5_arrange_109 : decode cX5_arrange 109 = .ok (.getfield 24, 3) := by decide +kernel
theorem dX5_arrange_112 : decode cX5_arrange 112 = .ok (.iload_n 1, 1) := by decide +kernel
theorem dX5_arrange_113 : decode cX5_arrange 113 = .ok (.iconst 5, 1) := by decide +kernel
theorem dX5_arrange_114 : decode cX5_arrange 114 = .ok (.imul, 1) := by decide +kernel
theorem dX5_arrange_115 : decode cX5_arrange 115 = .ok (.iload 7, 2) := by decide +kernel
theorem dX5_arrange_117 : decode cX5_arrange 117 = .ok (.iadd, 1) := by decide +kernel
theorem dX5_arrange_118 : decode cX5_arrange 118 = .ok (.aload_n 0, 1) := by decide +kernel
theorem dX5_arrange_119 : decode cX5_arrange 119 = .ok (.getfield 30, 3) := by decide +kernel
theorem dX5_arrange_122 : decode cX5_arrange 122 = .ok (.iload 9, 2) := by decide +kernel
theorem dX5_arrange_124 : decode cX5_arrange 124 = .ok (.invokevirtual 72, 3) := by decide +kernel
theorem dX5_arrange_127 : decode cX5_arrange 127 = .ok (.iastore, 1) := by decide +kernel
theorem dX5_arrange_128 : decode cX5_arrange 128 = .ok (.aload_n 0, 1) := by decide +kernel
theorem dX5_arrange_129 : decode cX5_arrange 129 = .ok (.getfield 27, 3) := by decide +kernel
theorem dX5_arrange_132 : decode cX5_arrange 132 = .ok (.iload_n 1, 1) := by decide +kernel
theorem dX5_arrange_133 : decode cX5_arrange 133 = .ok (.iconst 5, 1) := by decide +kernel
theorem dX5_arrange_134 : decode cX5_arrange 134 = .ok (.imul, 1) := by decide +kernel
theorem dX5_arrange_135 : decode cX5_arrange 135 = .ok (.iload 7, 2) := by decide +kernel
theorem dX5_arrange_137 : decode cX5_arrange 137 = .ok (.iadd, 1) := by decide +kernel
theorem dX5_arrange_138 : decode cX5_arrange 138 = .ok (.aload_n 0, 1) := by decide +kernel
theorem dX5_arrange_139 : decode cX5_arrange 139 = .ok (.getfield 30, 3) := by decide +kernel
theorem dX5_arrange_142 : decode cX5_arrange 142 = .ok (.iload 9, 2) := by decide +kernel
theorem dX5_arrange_144 : decode cX5_arrange 144 = .ok (.invokevirtual 75, 3) := by decide +kernel
theorem dX5_arrange_147 : decode cX5_arrange 147 = .ok (.iastore, 1) := by decide +kernel
theorem dX5_arrange_148 : decode cX5_arrange 148 = .ok (.iinc 7 1, 3) := by decide +kernel
theorem dX5_arrange_151 : decode cX5_arrange 151 = .ok (.goto (-123), 3) := by decide +kernel
theorem dX5_arrange_154 : decode cX5_arrange 154 = .ok (.aload_n 0, 1) := by decide +kernel
theorem dX5_arrange_155 : decode cX5_arrange 155 = .ok (.iload_n 1, 1) := by decide +kernel
theorem dX5_arrange_156 : decode cX5_arrange 156 = .ok (.iload 6, 2) := by decide +kernel
theorem dX5_arrange_158 : decode cX5_arrange 158 = .ok (.invokestatic 78, 3) := by decide +kernel
theorem dX5_arrange_161 : decode cX5_arrange 161 = .ok (.iadd, 1) := by decide +kernel
theorem dX5_arrange_162 : decode cX5_arrange 162 = .ok (.iload_n 3, 1) := by decide +kernel
theorem dX5_arrange_163 : decode cX5_arrange 163 = .ok (.invokevirtual 83, 3) := by decide +kernel
theorem dX5_arrange_166 : decode cX5_arrange 166 = .ok (.ifCond .ne 4, 3) := by decide +kernel
theorem dX5_arrange_169 : decode cX5_arrange 169 = .ok (.return_, 1) := by decide +kernel
theorem dX5_arrange_170 : decode cX5_arrange 170 = .ok (.iconst 0, 1) := by decide +kernel
theorem dX5_arrange_171 : decode cX5_arrange 171 = .ok (.istore 7, 2) := by decide +kernel
theorem dX5_arrange_173 : decode cX5_arrange 173 = .ok (.iload 7, 2) := by decide +kernel
theorem dX5_arrange_175 : decode cX5_arrange 175 = .ok (.aload_n 0, 1) := by decide +kernel
theorem dX5_arrange_176 : decode cX5_arrange 176 = .ok (.getfield 49, 3) := by decide +kernel
theorem dX5_arrange_179 : decode cX5_arrange 179 = .ok (.if_icmp .ge 103, 3) := by decide +kernel
theorem dX5_arrange_182 : decode cX5_arrange 182 = .ok (.iload 4, 2) := by decide +kernel
theorem dX5_arrange_184 : decode cX5_arrange 184 = .ok (.iconst 1, 1) := by decide +kernel
theorem dX5_arrange_185 : decode cX5_arrange 185 = .ok (.iload 7, 2) := by decide +kernel
theorem dX5_arrange_187 : decode cX5_arrange 187 = .ok (.ishl, 1) := by decide +kernel
theorem dX5_arrange_188 : decode cX5_arrange 188 = .ok (.iconst (-1), 1) := by decide +kernel
theorem dX5_arrange_189 : decode cX5_arrange 189 = .ok (.ixor, 1) := by decide +kernel
theorem dX5_arrange_190 : decode cX5_arrange 190 = .ok (.iand, 1) := by decide +kernel
theorem dX5_arrange_191 : decode cX5_arrange 191 = .ok (.istore 8, 2) := by decide +kernel
theorem dX5_arrange_193 : decode cX5_arrange 193 = .ok (.iload_n 1, 1) := by decide +kernel
theorem dX5_arrange_194 : decode cX5_arrange 194 = .ok (.iconst 5, 1) := by decide +kernel
theorem dX5_arrange_195 : decode cX5_arrange 195 = .ok (.imul, 1) := by decide +kernel
theorem dX5_arrange_196 : decode cX5_arrange 196 = .ok (.iload 7, 2) := by decide +kernel
theorem dX5_arrange_198 : decode cX5_arrange 198 = .ok (.iadd, 1) := by decide +kernel
theorem dX5_arrange_199 : decode cX5_arrange 199 = .ok (.istore 9, 2) := by decide +kernel
theorem dX5_arrange_201 : decode cX5_arrange 201 = .ok (.iload 6, 2) := by decide +kernel
theorem dX5_arrange_203 : decode cX5_arrange 203 = .ok (.iload 7, 2) := by decide +kernel
theorem dX5_arrange_205 : decode cX5_arrange 205 = .ok (.ishr, 1) := by decide +kernel
theorem dX5_arrange_206 : decode cX5_arrange 206 = .ok (.iconst 1, 1) := by decide +kernel
theorem dX5_arrange_207 : decode cX5_arrange 207 = .ok (.iand, 1) := by decide +kernel
theorem dX5_arrange_208 : decode cX5_arrange 208 = .ok (.iconst 1, 1) := by decide +kernel
theorem dX5_arrange_209 : decode cX5_arrange 209 = .ok (.if_icmp .ne 41, 3) := by decide +kernel
theorem dX5_arrange_212 : decode cX5_arrange 212 = .ok (.aload_n 0, 1) := by decide +kernel
theorem dX5_arrange_213 : decode cX5_arrange 213 = .ok (.getfield 21, 3) := by decide +kernel
theorem dX5_arrange_216 : decode cX5_arrange 216 = .ok (.iload_n 1, 1) := by decide +kernel
theorem dX5_arrange_217 : decode cX5_arrange 217 = .ok (.iload 7, 2) := by decide +kernel
theorem dX5_arrange_219 : decode cX5_arrange 219 = .ok (.iastore, 1) := by decide +kernel
theorem dX5_arrange_220 : decode cX5_arrange 220 = .ok (.aload_n 0, 1) := by decide +kernel
theorem dX5_arrange_221 : decode cX5_arrange 221 = .ok (.iload_n 1, 1) := by decide +kernel
theorem dX5_arrange_222 : decode cX5_arrange 222 = .ok (.iconst 1, 1) := by decide +kernel
theorem dX5_arrange_223 : decode cX5_arrange 223 = .ok (.iadd, 1) := by decide +kernel
theorem dX5_arrange_224 : decode cX5_arrange 224 = .ok (.aload_n 0, 1) := by decide +kernel
theorem dX5_arrange_225 : decode cX5_arrange 225 = .ok (.getfield 24, 3) := by decide +kernel
theorem dX5_arrange_228 : decode cX5_arrange 228 = .ok (.iload 9, 2) := by decide +kernel
theorem dX5_arrange_230 : decode cX5_arrange 230 = .ok (.iaload, 1) := by decide +kernel
theorem dX5_arrange_231 : decode cX5_arrange 231 = .ok (.iload_n 3, 1) := by decide +kernel
theorem dX5_arrange_232 : decode cX5_arrange 232 = .ok (.aload_n 0, 1) := by decide +kernel
theorem dX5_arrange_233 : decode cX5_arrange 233 = .ok (.getfield 27, 3) := by decide +kernel
theorem dX5_arrange_236 : decode cX5_arrange 236 = .ok (.iload 9, 2) := by decide +kernel
theorem dX5_arrange_238 : decode cX5_arrange 238 = .ok (.iaload, 1) := by decide +kernel
theorem dX5_arrange_239 : decode cX5_arrange 239 = .ok (.iadd, 1) := by decide +kernel
theorem dX5_arrange_240 : decode cX5_arrange 240 = .ok (.iload 8, 2) := by decide +kernel
theorem dX5_arrange_242 : decode cX5_arrange 242 = .ok (.iload 6, 2) := by decide +kernel
theorem dX5_arrange_244 : decode cX5_arrange 244 = .ok (.invokevirtual 87, 3) := by decide +kernel
theorem dX5_arrange_247 : decode cX5_arrange 247 = .ok (.goto 29, 3) := by decide +kernel
theorem dX5_arrange_250 : decode cX5_arrange 250 = .ok (.iload 8, 2) := by decide +kernel
theorem dX5_arrange_252 : decode cX5_arrange 252 = .ok (.iload 4, 2) := by decide +kernel
theorem dX5_arrange_254 : decode cX5_arrange 254 = .ok (.if_icmp .eq 22, 3) := by decide +kernel
theorem dX5_arrange_257 : decode cX5_arrange 257 = .ok (.aload_n 0, 1) := by decide +kernel
theorem dX5_arrange_258 : decode cX5_arrange 258 = .ok (.getfield 21, 3) := by decide +kernel
theorem dX5_arrange_261 : decode cX5_arrange 261 = .ok (.iload_n 1, 1) := by decide +kernel
theorem dX5_arrange_262 : decode cX5_arrange 262 = .ok (.iload 7, 2) := by decide +kernel
theorem dX5_arrange_264 : decode cX5_arrange 264 = .ok (.iastore, 1) := by decide +kernel
theorem dX5_arrange_265 : decode cX5_arrange 265 = .ok (.aload_n 0, 1) := by decide +kernel
theorem dX5_arrange_266 : decode cX5_arrange 266 = .ok (.iload_n 1, 1) := by decide +kernel
theorem dX5_arrange_267 : decode cX5_arrange 267 = .ok (.iload_n 3, 1) := by decide +kernel
theorem dX5_arrange_268 : decode cX5_arrange 268 = .ok (.iload_n 1, 1) := by decide +kernel
theorem dX5_arrange_269 : decode cX5_arrange 269 = .ok (.iconst 1, 1) := by decide +kernel
theorem dX5_arrange_270 : decode cX5_arrange 270 = .ok (.iadd, 1) := by decide +kernel
theorem dX5_arrange_271 : decode cX5_arrange 271 = .ok (.iload 8, 2) := by decide +kernel
theorem dX5_arrange_273 : decode cX5_arrange 273 = .ok (.invokevirtual 62, 3) := by decide +kernel
theorem dX5_arrange_276 : decode cX5_arrange 276 = .ok (.iinc 7 1, 3) := by decide +kernel
theorem dX5_arrange_279 : decode cX5_arrange 279 = .ok (.goto (-106), 3) := by decide +kernel
theorem dX5_arrange_282 : decode cX5_arrange 282 = .ok (.return_, 1) := by decide +kernel
theorem dX5_beats_0 : decode cX5_beats 0 = .ok (.iload_n 1, 1) := by decide +kernel
theorem dX5_beats_1 : decode cX5_beats 1 = .ok (.aload_n 0, 1) := by decide +kernel
theorem dX5_beats_2 : decode cX5_beats 2 = .ok (.getfield 56, 3) := by decide +kernel
theorem dX5_beats_5 : decode cX5_beats 5 = .ok (.if_icmp .gt 19, 3) := by decide +kernel
theorem dX5_beats_8 : decode cX5_beats 8 = .ok (.iload_n 1, 1) := by decide +kernel
theorem dX5_beats_9 : decode cX5_beats 9 = .ok (.aload_n 0, 1) := by decide +kernel
theorem dX5_beats_10 : decode cX5_beats 10 = .ok (.getfield 56, 3) := by decide +kernel
theorem dX5_beats_13 : decode cX5_beats 13 = .ok (.if_icmp .ne 15, 3) := by decide +kernel
theorem dX5_beats_16 : decode cX5_beats 16 = .ok (.iload_n 2, 1) := by decide +kernel
theorem dX5_beats_17 : decode cX5_beats 17 = .ok (.aload_n 0, 1) := by decide +kernel
theorem dX5_beats_18 : decode cX5_beats 18 = .ok (.getfield 59, 3) := by decide +kernel
theorem dX5_beats_21 : decode cX5_beats 21 = .ok (.if_icmp .ge 7, 3) := by decide +kernel
theorem dX5_beats_24 : decode cX5_beats 24 = .ok (.iconst 1, 1) := by decide +kernel
theorem dX5_beats_25 : decode cX5_beats 25 = .ok (.goto 4, 3) := by decide +kernel
theorem dX5_beats_28 : decode cX5_beats 28 = .ok (.iconst 0, 1) := by decide +kernel
theorem dX5_beats_29 : decode cX5_beats 29 = .ok (.ireturn, 1) := by decide +kernel
theorem dX5_offer_0 : decode cX5_offer 0 = .ok (.aload_n 0, 1) := by decide +kernel
theorem dX5_offer_1 : decode cX5_offer 1 = .ok (.iload_n 1, 1) := by decide +kernel
theorem dX5_offer_2 : decode cX5_offer 2 = .ok (.iload_n 2, 1) := by decide +kernel
theorem dX5_offer_3 : decode cX5_offer 3 = .ok (.invokevirtual 83, 3) := by decide +kernel
theorem dX5_offer_6 : decode cX5_offer 6 = .ok (.ifCond .ne 4, 3) := by decide +kernel
theorem dX5_offer_9 : decode cX5_offer 9 = .ok (.return_, 1) := by decide +kernel
theorem dX5_offer_10 : decode cX5_offer 10 = .ok (.aload_n 0, 1) := by decide +kernel
theorem dX5_offer_11 : decode cX5_offer 11 = .ok (.iload_n 1, 1) := by decide +kernel
theorem dX5_offer_12 : decode cX5_offer 12 = .ok (.putfield 56, 3) := by decide +kernel
theorem dX5_offer_15 : decode cX5_offer 15 = .ok (.aload_n 0, 1) := by decide +kernel
theorem dX5_offer_16 : decode cX5_offer 16 = .ok (.iload_n 2, 1) := by decide +kernel
theorem dX5_offer_17 : decode cX5_offer 17 = .ok (.putfield 59, 3) := by decide +kernel
theorem dX5_offer_20 : decode cX5_offer 20 = .ok (.aload_n 0, 1) := by decide +kernel
theorem dX5_offer_21 : decode cX5_offer 21 = .ok (.getfield 21, 3) := by decide +kernel
theorem dX5_offer_24 : decode cX5_offer 24 = .ok (.iconst 0, 1) := by decide +kernel
theorem dX5_offer_25 : decode cX5_offer 25 = .ok (.aload_n 0, 1) := by decide +kernel
theorem dX5_offer_26 : decode cX5_offer 26 = .ok (.getfield 18, 3) := by decide +kernel
theorem dX5_offer_29 : decode cX5_offer 29 = .ok (.iconst 0, 1) := by decide +kernel
theorem dX5_offer_30 : decode cX5_offer 30 = .ok (.iconst 5, 1) := by decide +kernel
theorem dX5_offer_31 : decode cX5_offer 31 = .ok (.invokestatic 91, 3) := by decide +kernel
theorem dX5_offer_34 : decode cX5_offer 34 = .ok (.iload_n 3, 1) := by decide +kernel
theorem dX5_offer_35 : decode cX5_offer 35 = .ok (.istore 5, 2) := by decide +kernel
theorem dX5_offer_37 : decode cX5_offer 37 = .ok (.iconst 0, 1) := by decide +kernel
theorem dX5_offer_38 : decode cX5_offer 38 = .ok (.istore 6, 2) := by decide +kernel
theorem dX5_offer_40 : decode cX5_offer 40 = .ok (.iload 6, 2) := by decide +kernel
theorem dX5_offer_42 : decode cX5_offer 42 = .ok (.aload_n 0, 1) := by decide +kernel
theorem dX5_offer_43 : decode cX5_offer 43 = .ok (.getfield 49, 3) := by decide +kernel
theorem dX5_offer_46 : decode cX5_offer 46 = .ok (.if_icmp .ge 41, 3) := by decide +kernel
theorem dX5_offer_49 : decode cX5_offer 49 = .ok (.iload 5, 2) := by decide +kernel
theorem dX5_offer_51 : decode cX5_offer 51 = .ok (.aload_n 0, 1) := by decide +kernel
theorem dX5_offer_52 : decode cX5_offer 52 = .ok (.getfield 49, 3) := by decide +kernel
theorem dX5_offer_55 : decode cX5_offer 55 = .ok (.if_icmp .ge 32, 3) := by decide +kernel
theorem dX5_offer_58 : decode cX5_offer 58 = .ok (.iload 4, 2) := by decide +kernel
theorem dX5_offer_60 : decode cX5_offer 60 = .ok (.iload 6, 2) := by decide +kernel
theorem dX5_offer_62 : decode cX5_offer 62 = .ok (.ishr, 1) := by decide +kernel
theorem dX5_offer_63 : decode cX5_offer 63 = .ok (.iconst 1, 1) := by decide +kernel
theorem dX5_offer_64 : decode cX5_offer 64 = .ok (.iand, 1) := by decide +kernel
theorem dX5_offer_65 : decode cX5_offer 65 = .ok (.iconst 1, 1) := by decide +kernel
theorem dX5_offer_66 : decode cX5_offer 66 = .ok (.if_icmp .ne 15, 3) := by decide +kernel
theorem dX5_offer_69 : decode cX5_offer 69 = .ok (.aload_n 0, 1) := by decide +kernel
theorem dX5_offer_70 : decode cX5_offer 70 = .ok (.getfield 18, 3) := by decide +kernel
theorem dX5_offer_73 : decode cX5_offer 73 = .ok (.iload 5, 2) := by decide +kernel
theorem dX5_offer_75 : decode cX5_offer 75 = .ok (.iload 6, 2) := by decide +kernel
theorem dX5_offer_77 : decode cX5_offer 77 = .ok (.iastore, 1) := by decide +kernel
theorem dX5_offer_78 : decode cX5_offer 78 = .ok (.iinc 5 1, 3) := by decide +kernel
theorem dX5_offer_81 : decode cX5_offer 81 = .ok (.iinc 6 1, 3) := by decide +kernel
theorem dX5_offer_84 : decode cX5_offer 84 = .ok (.goto (-44), 3) := by decide +kernel
theorem dX5_offer_87 : decode cX5_offer 87 = .ok (.return_, 1) := by decide +kernel
theorem dX6_init_0 : decode cX6_init 0 = .ok (.aload_n 0, 1) := by decide +kernel
theorem dX6_init_1 : decode cX6_init 1 = .ok (.invokespecial 3, 3) := by decide +kernel
theorem dX6_init_4 : decode cX6_init 4 = .ok (.aload_n 0, 1) := by decide +kernel
theorem dX6_init_5 : decode cX6_init 5 = .ok (.iconst 4, 1) := by decide +kernel
theorem dX6_init_6 : decode cX6_init 6 = .ok (.newarray .int, 2) := by decide +kernel
theorem dX6_init_8 : decode cX6_init 8 = .ok (.putfield 9, 3) := by decide +kernel
theorem dX6_init_11 : decode cX6_init 11 = .ok (.aload_n 0, 1) := by decide +kernel
theorem dX6_init_12 : decode cX6_init 12 = .ok (.iconst 4, 1) := by decide +kernel
theorem dX6_init_13 : decode cX6_init 13 = .ok (.newarray .int, 2) := by decide +kernel
theorem dX6_init_15 : decode cX6_init 15 = .ok (.putfield 15, 3) := by decide +kernel
theorem dX6_init_18 : decode cX6_init 18 = .ok (.aload_n 0, 1) := by decide +kernel
theorem dX6_init_19 : decode cX6_init 19 = .ok (.iconst 4, 1) := by decide +kernel
theorem dX6_init_20 : decode cX6_init 20 = .ok (.newarray .int, 2) := by decide +kernel
theorem dX6_init_22 : decode cX6_init 22 = .ok (.putfield 18, 3) := by decide +kernel
theorem dX6_init_25 : decode cX6_init 25 = .ok (.aload_n 0, 1) := by decide +kernel
theorem dX6_init_26 : decode cX6_init 26 = .ok (.iconst 4, 1) := by decide +kernel
theorem dX6_init_27 : decode cX6_init 27 = .ok (.newarray .int, 2) := by decide +kernel
theorem dX6_init_29 : decode cX6_init 29 = .ok (.putfield 21, 3) := by decide +kernel
theorem dX6_init_32 : decode cX6_init 32 = .ok (.aload_n 0, 1) := by decide +kernel
theorem dX6_init_33 : decode cX6_init 33 = .ok (.sipush 144, 3) := by decide +kernel
theorem dX6_init_36 : decode cX6_init 36 = .ok (.newarray .int, 2) := by decide +kernel
theorem dX6_init_38 : decode cX6_init 38 = .ok (.putfield 24, 3) := by decide +kernel
theorem dX6_init_41 : decode cX6_init 41 = .ok (.aload_n 0, 1) := by decide +kernel
theorem dX6_init_42 : decode cX6_init 42 = .ok (.bipush 48, 2) := by decide +kernel
theorem dX6_init_44 : decode cX6_init 44 = .ok (.newarray .int, 2) := by decide +kernel
theorem dX6_init_46 : decode cX6_init 46 = .ok (.putfield 27, 3) := by decide +kernel
theorem dX6_init_49 : decode cX6_init 49 = .ok (.aload_n 0, 1) := by decide +kernel
theorem dX6_init_50 : decode cX6_init 50 = .ok (.bipush 16, 2) := by decide +kernel
theorem dX6_init_52 : decode cX6_init 52 = .ok (.newarray .int, 2) := by decide +kernel
theorem dX6_init_54 : decode cX6_init 54 = .ok (.putfield 30, 3) := by decide +kernel
theorem dX6_init_57 : decode cX6_init 57 = .ok (.return_, 1) := by decide +kernel
theorem dX6_clear_0 : decode cX6_clear 0 = .ok (.aload_n 0, 1) := by decide +kernel
theorem dX6_clear_1 : decode cX6_clear 1 = .ok (.iconst 0, 1) := by decide +kernel
theorem dX6_clear_2 : decode cX6_clear 2 = .ok (.putfield 33, 3) := by decide +kernel
theorem dX6_clear_5 : decode cX6_clear 5 = .ok (.aload_n 0, 1) := by decide +kernel
theorem dX6_clear_6 : decode cX6_clear 6 = .ok (.iconst 0, 1) := by decide +kernel
theorem dX6_clear_7 : decode cX6_clear 7 = .ok (.putfield 37, 3) := by decide +kernel
theorem dX6_clear_10 : decode cX6_clear 10 = .ok (.aload_n 0, 1) := by decide +kernel
theorem dX6_clear_11 : decode cX6_clear 11 = .ok (.iconst 0, 1) := by decide +kernel
theorem dX6_clear_12 : decode cX6_clear 12 = .ok (.putfield 40, 3) := by decide +kernel
theorem dX6_clear_15 : decode cX6_clear 15 = .ok (.aload_n 0, 1) := by decide +kernel
theorem dX6_clear_16 : decode cX6_clear 16 = .ok (.iconst 0, 1) := by decide +kernel
theorem dX6_clear_17 : decode cX6_clear 17 = .ok (.putfield 43, 3) := by decide +kernel
theorem dX6_clear_20 : decode cX6_clear 20 = .ok (.aload_n 0, 1) := by decide +kernel
theorem dX6_clear_21 : decode cX6_clear 21 = .ok (.iconst 0, 1) := by decide +kernel
theorem dX6_clear_22 : decode cX6_clear 22 = .ok (.putfield 46, 3) := by decide +kernel
theorem dX6_clear_25 : decode cX6_clear 25 = .ok (.aload_n 0, 1) := by decide +kernel
theorem dX6_clear_26 : decode cX6_clear 26 = .ok (.iconst 0, 1) := by decide +kernel
theorem dX6_clear_27 : decode cX6_clear 27 = .ok (.putfield 49, 3) := by decide +kernel
theorem dX6_clear_30 : decode cX6_clear 30 = .ok (.aload_n 0, 1) := by decide +kernel
theorem dX6_clear_31 : decode cX6_clear 31 = .ok (.iconst 0, 1) := by decide +kernel
theorem dX6_clear_32 : decode cX6_clear 32 = .ok (.putfield 52, 3) := by decide +kernel
theorem dX6_clear_35 : decode cX6_clear 35 = .ok (.return_, 1) := by decide +kernel
theorem dX6_columnOf_0 : decode cX6_columnOf 0 = .ok (.aload_n 0, 1) := by decide +kernel
theorem dX6_columnOf_1 : decode cX6_columnOf 1 = .ok (.getfield 33, 3) := by decide +kernel
theorem dX6_columnOf_4 : decode cX6_columnOf 4 = .ok (.ifCond .le 12, 3) := by decide +kernel
theorem dX6_columnOf_7 : decode cX6_columnOf 7 = .ok (.iload_n 1, 1) := by decide +kernel
theorem dX6_columnOf_8 : decode cX6_columnOf 8 = .ok (.aload_n 0, 1) := by decide +kernel
theorem dX6_columnOf_9 : decode cX6_columnOf 9 = .ok (.getfield 33, 3) := by decide +kernel
theorem dX6_columnOf_12 : decode cX6_columnOf 12 = .ok (.irem, 1) := by decide +kernel
theorem dX6_columnOf_13 : decode cX6_columnOf 13 = .ok (.goto 4, 3) := by decide +kernel
theorem dX6_columnOf_16 : decode cX6_columnOf 16 = .ok (.iconst 0, 1) := by decide +kernel
theorem dX6_columnOf_17 : decode cX6_columnOf 17 = .ok (.ireturn, 1) := by decide +kernel
theorem dX6_lineOf_0 : decode cX6_lineOf 0 = .ok (.aload_n 0, 1) := by decide +kernel
theorem dX6_lineOf_1 : decode cX6_lineOf 1 = .ok (.getfield 33, 3) := by decide +kernel
theorem dX6_lineOf_4 : decode cX6_lineOf 4 = .ok (.ifCond .le 12, 3) := by decide +kernel
theorem dX6_lineOf_7 : decode cX6_lineOf 7 = .ok (.iload_n 1, 1) := by decide +kernel
theorem dX6_lineOf_8 : decode cX6_lineOf 8 = .ok (.aload_n 0, 1) := by decide +kernel
theorem dX6_lineOf_9 : decode cX6_lineOf 9 = .ok (.getfield 33, 3) := by decide +kernel
theorem dX6_lineOf_12 : decode cX6_lineOf 12 = .ok (.idiv, 1) := by decide +kernel
theorem dX6_lineOf_13 : decode cX6_lineOf 13 = .ok (.goto 4, 3) := by decide +kernel
theorem dX6_lineOf_16 : decode cX6_lineOf 16 = .ok (.iconst 0, 1) := by decide +kernel
theorem dX6_lineOf_17 : decode cX6_lineOf 17 = .ok (.ireturn, 1) := by decide +kernel
theorem dX6_isWall_0 : decode cX6_isWall 0 = .ok (.aload_n 0, 1) := by decide +kernel
theorem dX6_isWall_1 : decode cX6_isWall 1 = .ok (.getfield 43, 3) := by decide +kernel
theorem dX6_isWall_4 : decode cX6_isWall 4 = .ok (.iload_n 1, 1) := by decide +kernel
theorem dX6_isWall_5 : decode cX6_isWall 5 = .ok (.ishr, 1) := by decide +kernel
theorem dX6_isWall_6 : decode cX6_isWall 6 = .ok (.iconst 1, 1) := by decide +kernel
theorem dX6_isWall_7 : decode cX6_isWall 7 = .ok (.iand, 1) := by decide +kernel
theorem dX6_isWall_8 : decode cX6_isWall 8 = .ok (.iconst 1, 1) := by decide +kernel
theorem dX6_isWall_9 : decode cX6_isWall 9 = .ok (.if_icmp .ne 7, 3) := by decide +kernel
theorem dX6_isWall_12 : decode cX6_isWall 12 = .ok (.iconst 1, 1) := by decide +kernel
theorem dX6_isWall_13 : decode cX6_isWall 13 = .ok (.goto 4, 3) := by decide +kernel
theorem dX6_isWall_16 : decode cX6_isWall 16 = .ok (.iconst 0, 1) := by decide +kernel
theorem dX6_isWall_17 : decode cX6_isWall 17 = .ok (.ireturn, 1) := by decide +kernel
theorem dX6_is_0 : decode cX6_is 0 = .ok (.aload_n 0, 1) := by decide +kernel
theorem dX6_is_1 : decode cX6_is 1 = .ok (.getfield 9, 3) := by decide +kernel
theorem dX6_is_4 : decode cX6_is 4 = .ok (.iload_n 1, 1) := by decide +kernel
theorem dX6_is_5 : decode cX6_is 5 = .ok (.iaload, 1) := by decide +kernel
theorem dX6_is_6 : decode cX6_is 6 = .ok (.istore_n 3, 1) := by decide +kernel
theorem dX6_is_7 : decode cX6_is 7 = .ok (.iconst 0, 1) := by decide +kernel
theorem dX6_is_8 : decode cX6_is 8 = .ok (.istore 4, 2) := by decide +kernel
theorem dX6_is_10 : decode cX6_is 10 = .ok (.iload 4, 2) := by decide +kernel
theorem dX6_is_12 : decode cX6_is 12 = .ok (.bipush 6, 2) := by decide +kernel
theorem dX6_is_14 : decode cX6_is 14 = .ok (.if_icmp .ge 22, 3) := by decide +kernel
theorem dX6_is_17 : decode cX6_is 17 = .ok (.iload_n 3, 1) := by decide +kernel
theorem dX6_is_18 : decode cX6_is 18 = .ok (.iload_n 2, 1) := by decide +kernel
theorem dX6_is_19 : decode cX6_is 19 = .ok (.if_icmp .ne 5, 3) := by decide +kernel
theorem dX6_is_22 : decode cX6_is 22 = .ok (.iconst 1, 1) := by decide +kernel
theorem dX6_is_23 : decode cX6_is 23 = .ok (.ireturn, 1) := by decide +kernel
theorem dX6_is_24 : decode cX6_is 24 = .ok (.getstatic 56, 3) := by decide +kernel
theorem dX6_is_27 : decode cX6_is 27 = .ok (.iload_n 3, 1) := by decide +kernel
theorem dX6_is_28 : decode cX6_is 28 = .ok (.iaload, 1) := by decide +kernel
theorem dX6_is_29 : decode cX6_is 29 = .ok (.istore_n 3, 1) := by decide +kernel
theorem dX6_is_30 : decode cX6_is 30 = .ok (.iinc 4 1, 3) := by decide +kernel
theorem dX6_is_33 : decode cX6_is 33 = .ok (.goto (-23), 3) := by decide +kernel
theorem dX6_is_36 : decode cX6_is 36 = .ok (.iconst 0, 1) := by decide +kernel
theorem dX6_is_37 : decode cX6_is 37 = .ok (.ireturn, 1) := by decide +kernel
theorem dX6_secondEnd_0 : decode cX6_secondEnd 0 = .ok (.iload_n 1, 1) := by decide +kernel
theorem dX6_secondEnd_1 : decode cX6_secondEnd 1 = .ok (.iconst 1, 1) := by decide +kernel
theorem dX6_secondEnd_2 : decode cX6_secondEnd 2 = .ok (.iadd, 1) := by decide +kernel
theorem dX6_secondEnd_3 : decode cX6_secondEnd 3 = .ok (.aload_n 0, 1) := by decide +kernel
theorem dX6_secondEnd_4 : decode cX6_secondEnd 4 = .ok (.getfield 46, 3) := by decide +kernel
theorem dX6_secondEnd_7 : decode cX6_secondEnd 7 = .ok (.if_icmp .ge 9, 3) := by decide +kernel
theorem dX6_secondEnd_10 : decode cX6_secondEnd 10 = .ok (.iload_n 1, 1) := by decide +kernel
theorem dX6_secondEnd_11 : decode cX6_secondEnd 11 = .ok (.iconst 1, 1) := by decide +kernel
theorem dX6_secondEnd_12 : decode cX6_secondEnd 12 = .ok (.iadd, 1) := by decide +kernel
theorem dX6_secondEnd_13 : decode cX6_secondEnd 13 = .ok (.goto 4, 3) := by decide +kernel
theorem dX6_secondEnd_16 : decode cX6_secondEnd 16 = .ok (.iconst 0, 1) := by decide +kernel
theorem dX6_secondEnd_17 : decode cX6_secondEnd 17 = .ok (.ireturn, 1) := by decide +kernel
theorem dX6_chainsOf_0 : decode cX6_chainsOf 0 = .ok (.iconst 0, 1) := by decide +kernel
theorem dX6_chainsOf_1 : decode cX6_chainsOf 1 = .ok (.istore_n 2, 1) := by decide +kernel
theorem dX6_chainsOf_2 : decode cX6_chainsOf 2 = .ok (.iconst 0, 1) := by decide +kernel
theorem dX6_chainsOf_3 : decode cX6_chainsOf 3 = .ok (.istore_n 3, 1) := by decide +kernel
theorem dX6_chainsOf_4 : decode cX6_chainsOf 4 = .ok (.iload_n 3, 1) := by decide +kernel
theorem dX6_chainsOf_5 : decode cX6_chainsOf 5 = .ok (.aload_n 0, 1) := by decide +kernel
theorem dX6_chainsOf_6 : decode cX6_chainsOf 6 = .ok (.getfield 49, 3) := by decide +kernel
theorem dX6_chainsOf_9 : decode cX6_chainsOf 9 = .ok (.if_icmp .ge 30, 3) := by decide +kernel
theorem dX6_chainsOf_12 : decode cX6_chainsOf 12 = .ok (.aload_n 0, 1) := by decide +kernel
theorem dX6_chainsOf_13 : decode cX6_chainsOf 13 = .ok (.getfield 30, 3) := by decide +kernel
theorem dX6_chainsOf_16 : decode cX6_chainsOf 16 = .ok (.iload_n 3, 1) := by decide +kernel
theorem dX6_chainsOf_17 : decode cX6_chainsOf 17 = .ok (.iconst 4, 1) := by decide +kernel
theorem dX6_chainsOf_18 : decode cX6_chainsOf 18 = .ok (.imul, 1) := by decide +kernel
theorem dX6_chainsOf_19 : decode cX6_chainsOf 19 = .ok (.iload_n 1, 1) := by decide +kernel
theorem dX6_chainsOf_20 : decode cX6_chainsOf 20 = .ok (.iadd, 1) := by decide +kernel
theorem dX6_chainsOf_21 : decode cX6_chainsOf 21 = .ok (.iaload, 1) := by decide +kernel
theorem dX6_chainsOf_22 : decode cX6_chainsOf 22 = .ok (.bipush (-9), 2) := by decide +kernel
theorem dX6_chainsOf_24 : decode cX6_chainsOf 24 = .ok (.if_icmp .eq 9, 3) := by decide +kernel
theorem dX6_chainsOf_27 : decode cX6_chainsOf 27 = .ok (.iload_n 2, 1) := by decide +kernel
theorem dX6_chainsOf_28 : decode cX6_chainsOf 28 = .ok (.iconst 1, 1) := by decide +kernel
theorem dX6_chainsOf_29 : decode cX6_chainsOf 29 = .ok (.iload_n 3, 1) := by decide +kernel
theorem dX6_chainsOf_30 : decode cX6_chainsOf 30 = .ok (.ishl, 1) := by decide +kernel
theorem dX6_chainsOf_31 : decode cX6_chainsOf 31 = .ok (.ior, 1) := by decide +kernel
theorem dX6_chainsOf_32 : decode cX6_chainsOf 32 = .ok (.istore_n 2, 1) := by decide +kernel
theorem dX6_chainsOf_33 : decode cX6_chainsOf 33 = .ok (.iinc 3 1, 3) := by decide +kernel
theorem dX6_chainsOf_36 : decode cX6_chainsOf 36 = .ok (.goto (-32), 3) := by decide +kernel
theorem dX6_chainsOf_39 : decode cX6_chainsOf 39 = .ok (.iload_n 2, 1) := by decide +kernel
theorem dX6_chainsOf_40 : decode cX6_chainsOf 40 = .ok (.ireturn, 1) := by decide +kernel
theorem dX6_distance_0 : decode cX6_distance 0 = .ok (.iload_n 1, 1) := by decide +kernel
theorem dX6_distance_1 : decode cX6_distance 1 = .ok (.ifCond .lt 19, 3) := by decide +kernel
theorem dX6_distance_4 : decode cX6_distance 4 = .ok (.iload_n 2, 1) := by decide +kernel
theorem dX6_distance_5 : decode cX6_distance 5 = .ok (.ifCond .lt 15, 3) := by decide +kernel
theorem dX6_distance_8 : decode cX6_distance 8 = .ok (.iload_n 1, 1) := by decide +kernel
theorem dX6_distance_9 : decode cX6_distance 9 = .ok (.bipush 12, 2) := by decide +kernel
theorem dX6_distance_11 : decode cX6_distance 11 = .ok (.if_icmp .ge 9, 3) := by decide +kernel
theorem dX6_distance_14 : decode cX6_distance 14 = .ok (.iload_n 2, 1) := by decide +kernel
theorem dX6_distance_15 : decode cX6_distance 15 = .ok (.bipush 12, 2) := by decide +kernel
theorem dX6_distance_17 : decode cX6_distance 17 = .ok (.if_icmp .lt 7, 3) := by decide +kernel
theorem dX6_distance_20 : decode cX6_distance 20 = .ok (.iconst 0, 1) := by decide +kernel
theorem dX6_distance_21 : decode cX6_distance 21 = .ok (.goto 14, 3) := by decide +kernel
theorem dX6_distance_24 : decode cX6_distance 24 = .ok (.aload_n 0, 1) := by decide +kernel
theorem dX6_distance_25 : decode cX6_distance 25 = .ok (.getfield 24, 3) := by decide +kernel
theorem dX6_distance_28 : decode cX6_distance 28 = .ok (.iload_n 1, 1) := by decide +kernel
theorem dX6_distance_29 : decode cX6_distance 29 = .ok (.bipush 12, 2) := by decide +kernel
theorem dX6_distance_31 : decode cX6_distance 31 = .ok (.imul, 1) := by decide +kernel
theorem dX6_distance_32 : decode cX6_distance 32 = .ok (.iload_n 2, 1) := by decide +kernel
theorem dX6_distance_33 : decode cX6_distance 33 = .ok (.iadd, 1) := by decide +kernel
theorem dX6_distance_34 : decode cX6_distance 34 = .ok (.iaload, 1) := by decide +kernel
theorem dX6_distance_35 : decode cX6_distance 35 = .ok (.ireturn, 1) := by decide +kernel
theorem dX6_firstStand_0 : decode cX6_firstStand 0 = .ok (.iconst 0, 1) := by decide +kernel
theorem dX6_firstStand_1 : decode cX6_firstStand 1 = .ok (.istore_n 1, 1) := by decide +kernel
theorem dX6_firstStand_2 : decode cX6_firstStand 2 = .ok (.iconst 0, 1) := by decide +kernel
theorem dX6_firstStand_3 : decode cX6_firstStand 3 = .ok (.istore_n 2, 1) := by decide +kernel
theorem dX6_firstStand_4 : decode cX6_firstStand 4 = .ok (.iload_n 2, 1) := by decide +kernel
theorem dX6_firstStand_5 : decode cX6_firstStand 5 = .ok (.aload_n 0, 1) := by decide +kernel
theorem dX6_firstStand_6 : decode cX6_firstStand 6 = .ok (.getfield 46, 3) := by decide +kernel
theorem dX6_firstStand_9 : decode cX6_firstStand 9 = .ok (.if_icmp .ge 24, 3) := by decide +kernel
theorem dX6_firstStand_12 : decode cX6_firstStand 12 = .ok (.iload_n 1, 1) := by decide +kernel
theorem dX6_firstStand_13 : decode cX6_firstStand 13 = .ok (.aload_n 0, 1) := by decide +kernel
theorem dX6_firstStand_14 : decode cX6_firstStand 14 = .ok (.getfield 15, 3) := by decide +kernel
theorem dX6_firstStand_17 : decode cX6_firstStand 17 = .ok (.iload_n 2, 1) := by decide +kernel
theorem dX6_firstStand_18 : decode cX6_firstStand 18 = .ok (.iaload, 1) := by decide +kernel
theorem dX6_firstStand_19 : decode cX6_firstStand 19 = .ok (.getstatic 59, 3) := by decide +kernel
theorem dX6_firstStand_22 : decode cX6_firstStand 22 = .ok (.iload_n 2, 1) := by decide +kernel
theorem dX6_firstStand_23 : decode cX6_firstStand 23 = .ok (.iaload, 1) := by decide +kernel
theorem dX6_firstStand_24 : decode cX6_firstStand 24 = .ok (.imul, 1) := by decide +kernel
theorem dX6_firstStand_25 : decode cX6_firstStand 25 = .ok (.iadd, 1) := by decide +kernel
theorem dX6_firstStand_26 : decode cX6_firstStand 26 = .ok (.istore_n 1, 1) := by decide +kernel
theorem dX6_firstStand_27 : decode cX6_firstStand 27 = .ok (.iinc 2 1, 3) := by decide +kernel
theorem dX6_firstStand_30 : decode cX6_firstStand 30 = .ok (.goto (-26), 3) := by decide +kernel
theorem dX6_firstStand_33 : decode cX6_firstStand 33 = .ok (.iload_n 1, 1) := by decide +kernel
theorem dX6_firstStand_34 : decode cX6_firstStand 34 = .ok (.ireturn, 1) := by decide +kernel
theorem dX6_tooFar_0 : decode cX6_tooFar 0 = .ok (.iconst 0, 1) := by decide +kernel
theorem dX6_tooFar_1 : decode cX6_tooFar 1 = .ok (.istore_n 3, 1) := by decide +kernel
theorem dX6_tooFar_2 : decode cX6_tooFar 2 = .ok (.iconst 0, 1) := by decide +kernel
theorem dX6_tooFar_3 : decode cX6_tooFar 3 = .ok (.istore 4, 2) := by decide +kernel
theorem dX6_tooFar_5 : decode cX6_tooFar 5 = .ok (.iload 4, 2) := by decide +kernel
theorem dX6_tooFar_7 : decode cX6_tooFar 7 = .ok (.aload_n 0, 1) := by decide +kernel
theorem dX6_tooFar_8 : decode cX6_tooFar 8 = .ok (.getfield 49, 3) := by decide +kernel
theorem dX6_tooFar_11 : decode cX6_tooFar 11 = .ok (.if_icmp .ge 95, 3) := by decide +kernel
theorem dX6_tooFar_14 : decode cX6_tooFar 14 = .ok (.iload 4, 2) := by decide +kernel
theorem dX6_tooFar_16 : decode cX6_tooFar 16 = .ok (.iconst 1, 1) := by decide +kernel
theorem dX6_tooFar_17 : decode cX6_tooFar 17 = .ok (.iadd, 1) := by decide +kernel
theorem dX6_tooFar_18 : decode cX6_tooFar 18 = .ok (.aload_n 0, 1) := by decide +kernel
theorem dX6_tooFar_19 : decode cX6_tooFar 19 = .ok (.getfield 46, 3) := by decide +kernel
theorem dX6_tooFar_22 : decode cX6_tooFar 22 = .ok (.if_icmp .ge 10, 3) := by decide +kernel
theorem dX6_tooFar_25 : decode cX6_tooFar 25 = .ok (.iload 4, 2) := by decide +kernel
theorem dX6_tooFar_27 : decode cX6_tooFar 27 = .ok (.iconst 1, 1) := by decide +kernel
theorem dX6_tooFar_28 : decode cX6_tooFar 28 = .ok (.iadd, 1) := by decide +kernel
theorem dX6_tooFar_29 : decode cX6_tooFar 29 = .ok (.goto 4, 3) := by decide +kernel
theorem dX6_tooFar_32 : decode cX6_tooFar 32 = .ok (.iconst 0, 1) := by decide +kernel
theorem dX6_tooFar_33 : decode cX6_tooFar 33 = .ok (.istore 5, 2) := by decide +kernel
theorem dX6_tooFar_35 : decode cX6_tooFar 35 = .ok (.iload_n 1, 1) := by decide +kernel
theorem dX6_tooFar_36 : decode cX6_tooFar 36 = .ok (.getstatic 59, 3) := by decide +kernel
theorem dX6_tooFar_39 : decode cX6_tooFar 39 = .ok (.iload 4, 2) := by decide +kernel
theorem dX6_tooFar_41 : decode cX6_tooFar 41 = .ok (.iaload, 1) := by decide +kernel
theorem dX6_tooFar_42 : decode cX6_tooFar 42 = .ok (.idiv, 1) := by decide +kernel
theorem dX6_tooFar_43 : decode cX6_tooFar 43 = .ok (.bipush 12, 2) := by decide +kernel
theorem dX6_tooFar_45 : decode cX6_tooFar 45 = .ok (.irem, 1) := by decide +kernel
theorem dX6_tooFar_46 : decode cX6_tooFar 46 = .ok (.istore 6, 2) := by decide +kernel
theorem dX6_tooFar_48 : decode cX6_tooFar 48 = .ok (.iload_n 1, 1) := by decide +kernel
theorem dX6_tooFar_49 : decode cX6_tooFar 49 = .ok (.getstatic 59, 3) := by decide +kernel
theorem dX6_tooFar_52 : decode cX6_tooFar 52 = .ok (.iload 5, 2) := by decide +kernel
theorem dX6_tooFar_54 : decode cX6_tooFar 54 = .ok (.iaload, 1) := by decide +kernel
theorem dX6_tooFar_55 : decode cX6_tooFar 55 = .ok (.idiv, 1) := by decide +kernel
theorem dX6_tooFar_56 : decode cX6_tooFar 56 = .ok (.bipush 12, 2) := by decide +kernel
theorem dX6_tooFar_58 : decode cX6_tooFar 58 = .ok (.irem, 1) := by decide +kernel
theorem dX6_tooFar_59 : decode cX6_tooFar 59 = .ok (.istore 7, 2) := by decide +kernel
theorem dX6_tooFar_61 : decode cX6_tooFar 61 = .ok (.iload_n 2, 1) := by decide +kernel
theorem dX6_tooFar_62 : decode cX6_tooFar 62 = .ok (.iload 4, 2) := by decide +kernel
theorem dX6_tooFar_64 : decode cX6_tooFar 64 = .ok (.ishr, 1) := by decide +kernel
theorem dX6_tooFar_65 : decode cX6_tooFar 65 = .ok (.iconst 1, 1) := by decide +kernel
theorem dX6_tooFar_66 : decode cX6_tooFar 66 = .ok (.iand, 1) := by decide +kernel
theorem dX6_tooFar_67 : decode cX6_tooFar 67 = .ok (.ifCond .ne 33, 3) := by decide +kernel
theorem dX6_tooFar_70 : decode cX6_tooFar 70 = .ok (.aload_n 0, 1) := by decide +kernel
theorem dX6_tooFar_71 : decode cX6_tooFar 71 = .ok (.getfield 24, 3) := by decide +kernel
theorem dX6_tooFar_74 : decode cX6_tooFar 74 = .ok (.iload 6, 2) := by decide +kernel
theorem dX6_tooFar_76 : decode cX6_tooFar 76 = .ok (.bipush 12, 2) := by decide +kernel
theorem dX6_tooFar_78 : decode cX6_tooFar 78 = .ok (.imul, 1) := by decide +kernel
theorem dX6_tooFar_79 : decode cX6_tooFar 79 = .ok (.iload 7, 2) := by decide +kernel
theorem dX6_tooFar_81 : decode cX6_tooFar 81 = .ok (.iadd, 1) := by decide +kernel
theorem dX6_tooFar_82 : decode cX6_tooFar 82 = .ok (.iaload, 1) := by decide +kernel
theorem dX6_tooFar_83 : decode cX6_tooFar 83 = .ok (.aload_n 0, 1) := by decide +kernel
theorem dX6_tooFar_84 : decode cX6_tooFar 84 = .ok (.getfield 21, 3) := by decide +kernel
theorem dX6_tooFar_87 : decode cX6_tooFar 87 = .ok (.iload 4, 2) := by decide +kernel
theorem dX6_tooFar_89 : decode cX6_tooFar 89 = .ok (.iaload, 1) := by decide +kernel
theorem dX6_tooFar_90 : decode cX6_tooFar 90 = .ok (.if_icmp .le 10, 3) := by decide +kernel
theorem dX6_tooFar_93 : decode cX6_tooFar 93 = .ok (.iload_n 3, 1) := by decide +kernel
theorem dX6_tooFar_94 : decode cX6_tooFar 94 = .ok (.iconst 1, 1) := by decide +kernel
theorem dX6_tooFar_95 : decode cX6_tooFar 95 = .ok (.iload 4, 2) := by decide +kernel
theorem dX6_tooFar_97 : decode cX6_tooFar 97 = .ok (.ishl, 1) := by decide +kernel
theorem dX6_tooFar_98 : decode cX6_tooFar 98 = .ok (.ior, 1) := by decide +kernel
theorem dX6_tooFar_99 : decode cX6_tooFar 99 = .ok (.istore_n 3, 1) := by decide +kernel
theorem dX6_tooFar_100 : decode cX6_tooFar 100 = .ok (.iinc 4 1, 3) := by decide +kernel
theorem dX6_tooFar_103 : decode cX6_tooFar 103 = .ok (.goto (-98), 3) := by decide +kernel
theorem dX6_tooFar_106 : decode cX6_tooFar 106 = .ok (.iload_n 3, 1) := by decide +kernel
theorem dX6_tooFar_107 : decode cX6_tooFar 107 = .ok (.ireturn, 1) := by decide +kernel
theorem dX6_layOut_0 : decode cX6_layOut 0 = .ok (.aload_n 0, 1) := by decide +kernel
theorem dX6_layOut_1 : decode cX6_layOut 1 = .ok (.aload_n 0, 1) := by decide +kernel
theorem dX6_layOut_2 : decode cX6_layOut 2 = .ok (.getfield 52, 3) := by decide +kernel
theorem dX6_layOut_5 : decode cX6_layOut 5 = .ok (.ifCond .eq 18, 3) := by decide +kernel
theorem dX6_layOut_8 : decode cX6_layOut 8 = .ok (.aload_n 0, 1) := by decide +kernel
theorem dX6_layOut_9 : decode cX6_layOut 9 = .ok (.getfield 46, 3) := by decide +kernel
theorem dX6_layOut_12 : decode cX6_layOut 12 = .ok (.iconst 3, 1) := by decide +kernel
theorem dX6_layOut_13 : decode cX6_layOut 13 = .ok (.if_icmp .lt 10, 3) := by decide +kernel
theorem dX6_layOut_16 : decode cX6_layOut 16 = .ok (.aload_n 0, 1) := by decide +kernel
theorem dX6_layOut_17 : decode cX6_layOut 17 = .ok (.getfield 46, 3) := by decide +kernel
theorem dX6_layOut_20 : decode cX6_layOut 20 = .ok (.goto 13, 3) := by decide +kernel
theorem dX6_layOut_23 : decode cX6_layOut 23 = .ok (.aload_n 0, 1) := by decide +kernel
theorem dX6_layOut_24 : decode cX6_layOut 24 = .ok (.getfield 46, 3) := by decide +kernel
theorem dX6_layOut_27 : decode cX6_layOut 27 = .ok (.iconst 1, 1) := by decide +kernel
theorem dX6_layOut_28 : decode cX6_layOut 28 = .ok (.isub, 1) := by decide +kernel
theorem dX6_layOut_29 : decode cX6_layOut 29 = .ok (.iconst 0, 1) := by decide +kernel
theorem dX6_layOut_30 : decode cX6_layOut 30 = .ok (.invokestatic 62, 3) := by decide +kernel
theorem dX6_layOut_33 : decode cX6_layOut 33 = .ok (.putfield 49, 3) := by decide +kernel
theorem dX6_layOut_36 : decode cX6_layOut 36 = .ok (.aload_n 0, 1) := by decide +kernel
theorem dX6_layOut_37 : decode cX6_layOut 37 = .ok (.getfield 30, 3) := by decide +kernel
theorem dX6_layOut_40 : decode cX6_layOut 40 = .ok (.bipush (-9), 2) := by decide +kernel
theorem dX6_layOut_42 : decode cX6_layOut 42 = .ok (.invokestatic 68, 3) := by decide +kernel
theorem dX6_layOut_45 : decode cX6_layOut 45 = .ok (.iconst 0, 1) := by decide +kernel
theorem dX6_layOut_46 : decode cX6_layOut 46 = .ok (.istore_n 1, 1) := by decide +kernel
theorem dX6_layOut_47 : decode cX6_layOut 47 = .ok (.iload_n 1, 1) := by decide +kernel
theorem dX6_layOut_48 : decode cX6_layOut 48 = .ok (.aload_n 0, 1) := by decide +kernel
theorem dX6_layOut_49 : decode cX6_layOut 49 = .ok (.getfield 49, 3) := by decide +kernel
theorem dX6_layOut_52 : decode cX6_layOut 52 = .ok (.if_icmp .ge 39, 3) := by decide +kernel
theorem dX6_layOut_55 : decode cX6_layOut 55 = .ok (.aload_n 0, 1) := by decide +kernel
theorem dX6_layOut_56 : decode cX6_layOut 56 = .ok (.getfield 30, 3) := by decide +kernel
theorem dX6_layOut_59 : decode cX6_layOut 59 = .ok (.iload_n 1, 1) := by decide +kernel
theorem dX6_layOut_60 : decode cX6_layOut 60 = .ok (.iconst 4, 1) := by decide +kernel
theorem dX6_layOut_61 : decode cX6_layOut 61 = .ok (.imul, 1) := by decide +kernel
theorem dX6_layOut_62 : decode cX6_layOut 62 = .ok (.iload_n 1, 1) := by decide +kernel
theorem dX6_layOut_63 : decode cX6_layOut 63 = .ok (.iadd, 1) := by decide +kernel
theorem dX6_layOut_64 : decode cX6_layOut 64 = .ok (.aload_n 0, 1) := by decide +kernel
theorem dX6_layOut_65 : decode cX6_layOut 65 = .ok (.iload_n 1, 1) := by decide +kernel
theorem dX6_layOut_66 : decode cX6_layOut 66 = .ok (.invokevirtual 74, 3) := by decide +kernel
theorem dX6_layOut_69 : decode cX6_layOut 69 = .ok (.iastore, 1) := by decide +kernel
theorem dX6_layOut_70 : decode cX6_layOut 70 = .ok (.aload_n 0, 1) := by decide +kernel
theorem dX6_layOut_71 : decode cX6_layOut 71 = .ok (.getfield 30, 3) := by decide +kernel
theorem dX6_layOut_74 : decode cX6_layOut 74 = .ok (.iload_n 1, 1) := by decide +kernel
theorem dX6_layOut_75 : decode cX6_layOut 75 = .ok (.iconst 4, 1) := by decide +kernel
theorem dX6_layOut_76 : decode cX6_layOut 76 = .ok (.imul, 1) := by decide +kernel
theorem dX6_layOut_77 : decode cX6_layOut 77 = .ok (.aload_n 0, 1) := by decide +kernel
theorem dX6_layOut_78 : decode cX6_layOut 78 = .ok (.iload_n 1, 1) := by decide +kernel
theorem dX6_layOut_79 : decode cX6_layOut 79 = .ok (.invokevirtual 74, 3) := by decide +kernel
theorem dX6_layOut_82 : decode cX6_layOut 82 = .ok (.iadd, 1) := by decide +kernel
theorem dX6_layOut_83 : decode cX6_layOut 83 = .ok (.iload_n 1, 1) := by decide +kernel
theorem dX6_layOut_84 : decode cX6_layOut 84 = .ok (.iastore, 1) := by decide +kernel
theorem dX6_layOut_85 : decode cX6_layOut 85 = .ok (.iinc 1 1, 3) := by decide +kernel
theorem dX6_layOut_88 : decode cX6_layOut 88 = .ok (.goto (-41), 3) := by decide +kernel
theorem dX6_layOut_91 : decode cX6_layOut 91 = .ok (.iconst 0, 1) := by decide +kernel
theorem dX6_layOut_92 : decode cX6_layOut 92 = .ok (.istore_n 1, 1) := by decide +kernel
theorem dX6_layOut_93 : decode cX6_layOut 93 = .ok (.iload_n 1, 1) := by decide +kernel
theorem dX6_layOut_94 : decode cX6_layOut 94 = .ok (.aload_n 0, 1) := by decide +kernel
theorem dX6_layOut_95 : decode cX6_layOut 95 = .ok (.getfield 40, 3) := by decide +kernel
theorem dX6_layOut_98 : decode cX6_layOut 98 = .ok (.if_icmp .ge 96, 3) := by decide +kernel
theorem dX6_layOut_101 : decode cX6_layOut 101 = .ok (.iconst 0, 1) := by decide +kernel
theorem dX6_layOut_102 : decode cX6_layOut 102 = .ok (.istore_n 2, 1) := by decide +kernel
theorem dX6_layOut_103 : decode cX6_layOut 103 = .ok (.iload_n 2, 1) := by decide +kernel
theorem dX6_layOut_104 : decode cX6_layOut 104 = .ok (.aload_n 0, 1) := by decide +kernel
theorem dX6_layOut_105 : decode cX6_layOut 105 = .ok (.getfield 40, 3) := by decide +kernel
theorem dX6_layOut_108 : decode cX6_layOut 108 = .ok (.if_icmp .ge 51, 3) := by decide +kernel
theorem dX6_layOut_111 : decode cX6_layOut 111 = .ok (.aload_n 0, 1) := by decide +kernel
theorem dX6_layOut_112 : decode cX6_layOut 112 = .ok (.iload_n 1, 1) := by decide +kernel
theorem dX6_layOut_113 : decode cX6_layOut 113 = .ok (.invokevirtual 78, 3) := by decide +kernel
theorem dX6_layOut_116 : decode cX6_layOut 116 = .ok (.aload_n 0, 1) := by decide +kernel
theorem dX6_layOut_117 : decode cX6_layOut 117 = .ok (.iload_n 2, 1) := by decide +kernel
theorem dX6_layOut_118 : decode cX6_layOut 118 = .ok (.invokevirtual 78, 3) := by decide +kernel
theorem dX6_layOut_121 : decode cX6_layOut 121 = .ok (.isub, 1) := by decide +kernel
theorem dX6_layOut_122 : decode cX6_layOut 122 = .ok (.invokestatic 81, 3) := by decide +kernel
theorem dX6_layOut_125 : decode cX6_layOut 125 = .ok (.istore_n 3, 1) := by decide +kernel
theorem dX6_layOut_126 : decode cX6_layOut 126 = .ok (.aload_n 0, 1) := by decide +kernel
theorem dX6_layOut_127 : decode cX6_layOut 127 = .ok (.getfield 24, 3) := by decide +kernel
theorem dX6_layOut_130 : decode cX6_layOut 130 = .ok (.iload_n 1, 1) := by decide +kernel
theorem dX6_layOut_131 : decode cX6_layOut 131 = .ok (.bipush 12, 2) := by decide +kernel
theorem dX6_layOut_133 : decode cX6_layOut 133 = .ok (.imul, 1) := by decide +kernel
theorem dX6_layOut_134 : decode cX6_layOut 134 = .ok (.iload_n 2, 1) := by decide +kernel
theorem dX6_layOut_135 : decode cX6_layOut 135 = .ok (.iadd, 1) := by decide +kernel
theorem dX6_layOut_136 : decode cX6_layOut 136 = .ok (.iload_n 3, 1) := by decide +kernel
theorem dX6_layOut_137 : decode cX6_layOut 137 = .ok (.aload_n 0, 1) := by decide +kernel
theorem dX6_layOut_138 : decode cX6_layOut 138 = .ok (.iload_n 1, 1) := by decide +kernel
theorem dX6_layOut_139 : decode cX6_layOut 139 = .ok (.invokevirtual 84, 3) := by decide +kernel
theorem dX6_layOut_142 : decode cX6_layOut 142 = .ok (.aload_n 0, 1) := by decide +kernel
theorem dX6_layOut_143 : decode cX6_layOut 143 = .ok (.iload_n 2, 1) := by decide +kernel
theorem dX6_layOut_144 : decode cX6_layOut 144 = .ok (.invokevirtual 84, 3) := by decide +kernel
theorem dX6_layOut_147 : decode cX6_layOut 147 = .ok (.isub, 1) := by decide +kernel
theorem dX6_layOut_148 : decode cX6_layOut 148 = .ok (.invokestatic 81, 3) := by decide +kernel
theorem dX6_layOut_151 : decode cX6_layOut 151 = .ok (.iadd, 1) := by decide +kernel
theorem dX6_layOut_152 : decode cX6_layOut 152 = .ok (.iastore, 1) := by decide +kernel
theorem dX6_layOut_153 : decode cX6_layOut 153 = .ok (.iinc 2 1, 3) := by decide +kernel
theorem dX6_layOut_156 : decode cX6_layOut 156 = .ok (.goto (-53), 3) := by decide +kernel
theorem dX6_layOut_159 : decode cX6_layOut 159 = .ok (.iconst 0, 1) := by decide +kernel
theorem dX6_layOut_160 : decode cX6_layOut 160 = .ok (.istore_n 2, 1) := by decide +kernel
theorem dX6_layOut_161 : decode cX6_layOut 161 = .ok (.iload_n 2, 1) := by decide +kernel
theorem dX6_layOut_162 : decode cX6_layOut 162 = .ok (.iconst 4, 1) := by decide +kernel
theorem dX6_layOut_163 : decode cX6_layOut 163 = .ok (.if_icmp .ge 25, 3) := by decide +kernel
theorem dX6_layOut_166 : decode cX6_layOut 166 = .ok (.aload_n 0, 1) := by decide +kernel
theorem dX6_layOut_167 : decode cX6_layOut 167 = .ok (.getfield 27, 3) := by decide +kernel
theorem dX6_layOut_170 : decode cX6_layOut 170 = .ok (.iload_n 1, 1) := by decide +kernel
theorem dX6_layOut_171 : decode cX6_layOut 171 = .ok (.iconst 4, 1) := by decide +kernel
theorem dX6_layOut_172 : decode cX6_layOut 172 = .ok (.imul, 1) := by decide +kernel
theorem dX6_layOut_173 : decode cX6_layOut 173 = .ok (.iload_n 2, 1) := by decide +kernel
theorem dX6_layOut_174 : decode cX6_layOut 174 = .ok (.iadd, 1) := by decide +kernel
theorem dX6_layOut_175 : decode cX6_layOut 175 = .ok (.aload_n 0, 1) := by decide +kernel
theorem dX6_layOut_176 : decode cX6_layOut 176 = .ok (.iload_n 1, 1) := by decide +kernel
theorem dX6_layOut_177 : decode cX6_layOut 177 = .ok (.iload_n 2, 1) := by decide +kernel
theorem dX6_layOut_178 : decode cX6_layOut 178 = .ok (.invokevirtual 87, 3) := by decide +kernel
theorem dX6_layOut_181 : decode cX6_layOut 181 = .ok (.iastore, 1) := by decide +kernel
theorem dX6_layOut_182 : decode cX6_layOut 182 = .ok (.iinc 2 1, 3) := by decide +kernel
theorem dX6_layOut_185 : decode cX6_layOut 185 = .ok (.goto (-24), 3) := by decide +kernel
theorem dX6_layOut_188 : decode cX6_layOut 188 = .ok (.iinc 1 1, 3) := by decide +kernel
theorem dX6_layOut_191 : decode cX6_layOut 191 = .ok (.goto (-98), 3) := by decide +kernel
theorem dX6_layOut_194 : decode cX6_layOut 194 = .ok (.return_, 1) := by decide +kernel
theorem dX6_neighbour_0 : decode cX6_neighbour 0 = .ok (.aload_n 0, 1) := by decide +kernel
theorem dX6_neighbour_1 : decode cX6_neighbour 1 = .ok (.iload_n 1, 1) := by decide +kernel
theorem dX6_neighbour_2 : decode cX6_neighbour 2 = .ok (.invokevirtual 78, 3) := by decide +kernel
theorem dX6_neighbour_5 : decode cX6_neighbour 5 = .ok (.iload_n 2, 1) := by decide +kernel
theorem dX6_neighbour_6 : decode cX6_neighbour 6 = .ok (.iconst 1, 1) := by decide +kernel
theorem dX6_neighbour_7 : decode cX6_neighbour 7 = .ok (.if_icmp .ne 7, 3) := by decide +kernel
theorem dX6_neighbour_10 : decode cX6_neighbour 10 = .ok (.iconst 1, 1) := by decide +kernel
theorem dX6_neighbour_11 : decode cX6_neighbour 11 = .ok (.goto 13, 3) := by decide +kernel
theorem dX6_neighbour_14 : decode cX6_neighbour 14 = .ok (.iload_n 2, 1) := by decide +kernel
theorem dX6_neighbour_15 : decode cX6_neighbour 15 = .ok (.iconst 3, 1) := by decide +kernel
theorem dX6_neighbour_16 : decode cX6_neighbour 16 = .ok (.if_icmp .ne 7, 3) := by decide +kernel
theorem dX6_neighbour_19 : decode cX6_neighbour 19 = .ok (.iconst (-1), 1) := by decide +kernel
theorem dX6_neighbour_20 : decode cX6_neighbour 20 = .ok (.goto 4, 3) := by decide +kernel
theorem dX6_neighbour_23 : decode cX6_neighbour 23 = .ok (.iconst 0, 1) := by decide +kernel
theorem dX6_neighbour_24 : decode cX6_neighbour 24 = .ok (.iadd, 1) := by decide +kernel
theorem dX6_neighbour_25 : decode cX6_neighbour 25 = .ok (.istore_n 3, 1) := by decide +kernel
theorem dX6_neighbour_26 : decode cX6_neighbour 26 = .ok (.aload_n 0, 1) := by decide +kernel
theorem dX6_neighbour_27 : decode cX6_neighbour 27 = .ok (.iload_n 1, 1) := by decide +kernel
theorem dX6_neighbour_28 : decode cX6_neighbour 28 = .ok (.invokevirtual 84, 3) := by decide +kernel
theorem dX6_neighbour_31 : decode cX6_neighbour 31 = .ok (.iload_n 2, 1) := by decide +kernel
theorem dX6_neighbour_32 : decode cX6_neighbour 32 = .ok (.iconst 2, 1) := by decide +kernel
theorem dX6_neighbour_33 : decode cX6_neighbour 33 = .ok (.if_icmp .ne 7, 3) := by decide +kernel
theorem dX6_neighbour_36 : decode cX6_neighbour 36 = .ok (.iconst 1, 1) := by decide +kernel
theorem dX6_neighbour_37 : decode cX6_neighbour 37 = .ok (.goto 12, 3) := by decide +kernel
theorem dX6_neighbour_40 : decode cX6_neighbour 40 = .ok (.iload_n 2, 1) := by decide +kernel
theorem dX6_neighbour_41 : decode cX6_neighbour 41 = .ok (.ifCond .ne 7, 3) := by decide +kernel
theorem dX6_neighbour_44 : decode cX6_neighbour 44 = .ok (.iconst (-1), 1) := by decide +kernel
theorem dX6_neighbour_45 : decode cX6_neighbour 45 = .ok (.goto 4, 3) := by decide +kernel
theorem dX6_neighbour_48 : decode cX6_neighbour 48 = .ok (.iconst 0, 1) := by decide +kernel
theorem dX6_neighbour_49 : decode cX6_neighbour 49 = .ok (.iadd, 1) := by decide +kernel
theorem dX6_neighbour_50 : decode cX6_neighbour 50 = .ok (.istore 4, 2) := by decide +kernel
theorem dX6_neighbour_52 : decode cX6_neighbour 52 = .ok (.iload_n 3, 1) := by decide +kernel
theorem dX6_neighbour_53 : decode cX6_neighbour 53 = .ok (.ifCond .lt 25, 3) := by decide +kernel
theorem dX6_neighbour_56 : decode cX6_neighbour 56 = .ok (.iload_n 3, 1) := by decide +kernel
theorem dX6_neighbour_57 : decode cX6_neighbour 57 = .ok (.aload_n 0, 1) := by decide +kernel
theorem dX6_neighbour_58 : decode cX6_neighbour 58 = .ok (.getfield 33, 3) := by decide +kernel
theorem dX6_neighbour_61 : decode cX6_neighbour 61 = .ok (.if_icmp .ge 17, 3) := by decide +kernel
theorem dX6_neighbour_64 : decode cX6_neighbour 64 = .ok (.iload 4, 2) := by decide +kernel
theorem dX6_neighbour_66 : decode cX6_neighbour 66 = .ok (.ifCond .lt 12, 3) := by decide +kernel
theorem dX6_neighbour_69 : decode cX6_neighbour 69 = .ok (.iload 4, 2) := by decide +kernel
theorem dX6_neighbour_71 : decode cX6_neighbour 71 = .ok (.aload_n 0, 1) := by decide +kernel
theorem dX6_neighbour_72 : decode cX6_neighbour 72 = .ok (.getfield 37, 3) := by decide +kernel
theorem dX6_neighbour_75 : decode cX6_neighbour 75 = .ok (.if_icmp .lt 6, 3) := by decide +kernel
theorem dX6_neighbour_78 : decode cX6_neighbour 78 = .ok (.bipush (-9), 2) := by decide +kernel
theorem dX6_neighbour_80 : decode cX6_neighbour 80 = .ok (.ireturn, 1) := by decide +kernel
theorem dX6_neighbour_81 : decode cX6_neighbour 81 = .ok (.iload 4, 2) := by decide +kernel
theorem dX6_neighbour_83 : decode cX6_neighbour 83 = .ok (.aload_n 0, 1) := by decide +kernel
theorem dX6_neighbour_84 : decode cX6_neighbour 84 = .ok (.getfield 33, 3) := by decide +kernel
theorem dX6_neighbour_87 : decode cX6_neighbour 87 = .ok (.imul, 1) := by decide +kernel
theorem dX6_neighbour_88 : decode cX6_neighbour 88 = .ok (.iload_n 3, 1) := by decide +kernel
theorem dX6_neighbour_89 : decode cX6_neighbour 89 = .ok (.iadd, 1) := by decide +kernel
theorem dX6_neighbour_90 : decode cX6_neighbour 90 = .ok (.istore 5, 2) := by decide +kernel
theorem dX6_neighbour_92 : decode cX6_neighbour 92 = .ok (.aload_n 0, 1) := by decide +kernel
theorem dX6_neighbour_93 : decode cX6_neighbour 93 = .ok (.iload 5, 2) := by decide +kernel
theorem dX6_neighbour_95 : decode cX6_neighbour 95 = .ok (.invokevirtual 90, 3) := by decide +kernel
theorem dX6_neighbour_98 : decode cX6_neighbour 98 = .ok (.ifCond .eq 8, 3) := by decide +kernel
theorem dX6_neighbour_101 : decode cX6_neighbour 101 = .ok (.bipush (-9), 2) := by decide +kernel
theorem dX6_neighbour_103 : decode cX6_neighbour 103 = .ok (.goto 5, 3) := by decide +kernel
theorem dX6_neighbour_106 : decode cX6_neighbour 106 = .ok (.iload 5, 2) := by decide +kernel
theorem dX6_neighbour_108 : decode cX6_neighbour 108 = .ok (.ireturn, 1) := by decide +kernel
theorem dX6_giveLength_0 : decode cX6_giveLength 0 = .ok (.iload_n 2, 1) := by decide +kernel
theorem dX6_giveLength_1 : decode cX6_giveLength 1 = .ok (.istore_n 3, 1) := by decide +kernel
theorem dX6_giveLength_2 : decode cX6_giveLength 2 = .ok (.iconst 0, 1) := by decide +kernel
theorem dX6_giveLength_3 : decode cX6_giveLength 3 = .ok (.istore 4, 2) := by decide +kernel
theorem dX6_giveLength_5 : decode cX6_giveLength 5 = .ok (.iload 4, 2) := by decide +kernel
theorem dX6_giveLength_7 : decode cX6_giveLength 7 = .ok (.iconst 2, 1) := by decide +kernel
theorem dX6_giveLength_8 : decode cX6_giveLength 8 = .ok (.if_icmp .ge 54, 3) := by decide +kernel
theorem dX6_giveLength_11 : decode cX6_giveLength 11 = .ok (.aload_n 0, 1) := by decide +kernel
theorem dX6_giveLength_12 : decode cX6_giveLength 12 = .ok (.getfield 9, 3) := by decide +kernel
theorem dX6_giveLength_15 : decode cX6_giveLength 15 = .ok (.iload 4, 2) := by decide +kernel
theorem dX6_giveLength_17 : decode cX6_giveLength 17 = .ok (.ifCond .ne 7, 3) := by decide +kernel
theorem dX6_giveLength_20 : decode cX6_giveLength 20 = .ok (.iload_n 1, 1) := by decide +kernel
theorem dX6_giveLength_21 : decode cX6_giveLength 21 = .ok (.goto 8, 3) := by decide +kernel
theorem dX6_giveLength_24 : decode cX6_giveLength 24 = .ok (.aload_n 0, 1) := by decide +kernel
theorem dX6_giveLength_25 : decode cX6_giveLength 25 = .ok (.iload_n 1, 1) := by decide +kernel
theorem dX6_giveLength_26 : decode cX6_giveLength 26 = .ok (.invokevirtual 74, 3) := by decide +kernel
theorem dX6_giveLength_29 : decode cX6_giveLength 29 = .ok (.iaload, 1) := by decide +kernel
theorem dX6_giveLength_30 : decode cX6_giveLength 30 = .ok (.istore 5, 2) := by decide +kernel
theorem dX6_giveLength_32 : decode cX6_giveLength 32 = .ok (.iload_n 3, 1) := by decide +kernel
theorem dX6_giveLength_33 : decode cX6_giveLength 33 = .ok (.iload 5, 2) := by decide +kernel
theorem dX6_giveLength_35 : decode cX6_giveLength 35 = .ok (.iconst 1, 1) := by decide +kernel
theorem dX6_giveLength_36 : decode cX6_giveLength 36 = .ok (.if_icmp .ne 7, 3) := by decide +kernel
theorem dX6_giveLength_39 : decode cX6_giveLength 39 = .ok (.iconst 1, 1) := by decide +kernel
theorem dX6_giveLength_40 : decode cX6_giveLength 40 = .ok (.goto 14, 3) := by decide +kernel
theorem dX6_giveLength_43 : decode cX6_giveLength 43 = .ok (.iload 5, 2) := by decide +kernel
theorem dX6_giveLength_45 : decode cX6_giveLength 45 = .ok (.iconst 5, 1) := by decide +kernel
theorem dX6_giveLength_46 : decode cX6_giveLength 46 = .ok (.if_icmp .ne 7, 3) := by decide +kernel
theorem dX6_giveLength_49 : decode cX6_giveLength 49 = .ok (.iconst (-1), 1) := by decide +kernel
theorem dX6_giveLength_50 : decode cX6_giveLength 50 = .ok (.goto 4, 3) := by decide +kernel
theorem dX6_giveLength_53 : decode cX6_giveLength 53 = .ok (.iconst 0, 1) := by decide +kernel
theorem dX6_giveLength_54 : decode cX6_giveLength 54 = .ok (.iadd, 1) := by decide +kernel
theorem dX6_giveLength_55 : decode cX6_giveLength 55 = .ok (.istore_n 3, 1) := by decide +kernel
theorem dX6_giveLength_56 : decode cX6_giveLength 56 = .ok (.iinc 4 1, 3) := by decide +kernel
theorem dX6_giveLength_59 : decode cX6_giveLength 59 = .ok (.goto (-54), 3) := by decide +kernel
theorem dX6_giveLength_62 : decode cX6_giveLength 62 = .ok (.aload_n 0, 1) := by decide +kernel
theorem dX6_giveLength_63 : decode cX6_giveLength 63 = .ok (.getfield 18, 3) := by decide +kernel
theorem dX6_giveLength_66 : decode cX6_giveLength 66 = .ok (.iload_n 1, 1) := by decide +kernel
theorem dX6_giveLength_67 : decode cX6_giveLength 67 = .ok (.iload_n 2, 1) := by decide +kernel
theorem dX6_giveLength_68 : decode cX6_giveLength 68 = .ok (.iastore, 1) := by decide +kernel
theorem dX6_giveLength_69 : decode cX6_giveLength 69 = .ok (.aload_n 0, 1) := by decide +kernel
theorem dX6_giveLength_70 : decode cX6_giveLength 70 = .ok (.getfield 21, 3) := by decide +kernel
theorem dX6_giveLength_73 : decode cX6_giveLength 73 = .ok (.iload_n 1, 1) := by decide +kernel
theorem dX6_giveLength_74 : decode cX6_giveLength 74 = .ok (.iload_n 3, 1) := by decide +kernel
theorem dX6_giveLength_75 : decode cX6_giveLength 75 = .ok (.iconst 1, 1) := by decide +kernel
theorem dX6_giveLength_76 : decode cX6_giveLength 76 = .ok (.invokestatic 62, 3) := by decide +kernel
theorem dX6_giveLength_79 : decode cX6_giveLength 79 = .ok (.iastore, 1) := by decide +kernel
theorem dX6_giveLength_80 : decode cX6_giveLength 80 = .ok (.return_, 1) := by decide +kernel
theorem dX6_keepsAtFirst_0 : decode cX6_keepsAtFirst 0 = .ok (.aload_n 0, 1) := by decide +kernel
theorem dX6_keepsAtFirst_1 : decode cX6_keepsAtFirst 1 = .ok (.aload_n 0, 1) := by decide +kernel
theorem dX6_keepsAtFirst_2 : decode cX6_keepsAtFirst 2 = .ok (.getfield 15, 3) := by decide +kernel
theorem dX6_keepsAtFirst_5 : decode cX6_keepsAtFirst 5 = .ok (.iload_n 1, 1) := by decide +kernel
theorem dX6_keepsAtFirst_6 : decode cX6_keepsAtFirst 6 = .ok (.iaload, 1) := by decide +kernel
theorem dX6_keepsAtFirst_7 : decode cX6_keepsAtFirst 7 = .ok (.aload_n 0, 1) := by decide +kernel
theorem dX6_keepsAtFirst_8 : decode cX6_keepsAtFirst 8 = .ok (.getfield 15, 3) := by decide +kernel
theorem dX6_keepsAtFirst_11 : decode cX6_keepsAtFirst 11 = .ok (.aload_n 0, 1) := by decide +kernel
theorem dX6_keepsAtFirst_12 : decode cX6_keepsAtFirst 12 = .ok (.iload_n 1, 1) := by decide +kernel
theorem dX6_keepsAtFirst_13 : decode cX6_keepsAtFirst 13 = .ok (.invokevirtual 74, 3) := by decide +kernel
theorem dX6_keepsAtFirst_16 : decode cX6_keepsAtFirst 16 = .ok (.iaload, 1) := by decide +kernel
theorem dX6_keepsAtFirst_17 : decode cX6_keepsAtFirst 17 = .ok (.invokevirtual 94, 3) := by decide +kernel
theorem dX6_keepsAtFirst_20 : decode cX6_keepsAtFirst 20 = .ok (.aload_n 0, 1) := by decide +kernel
theorem dX6_keepsAtFirst_21 : decode cX6_keepsAtFirst 21 = .ok (.getfield 21, 3) := by decide +kernel
theorem dX6_keepsAtFirst_24 : decode cX6_keepsAtFirst 24 = .ok (.iload_n 1, 1) := by decide +kernel
theorem dX6_keepsAtFirst_25 : decode cX6_keepsAtFirst 25 = .ok (.iaload, 1) := by decide +kernel
theorem dX6_keepsAtFirst_26 : decode cX6_keepsAtFirst 26 = .ok (.if_icmp .gt 7, 3) := by decide +kernel
theorem dX6_keepsAtFirst_29 : decode cX6_keepsAtFirst 29 = .ok (.iconst 1, 1) := by decide +kernel
theorem dX6_keepsAtFirst_30 : decode cX6_keepsAtFirst 30 = .ok (.goto 4, 3) := by decide +kernel
theorem dX6_keepsAtFirst_33 : decode cX6_keepsAtFirst 33 = .ok (.iconst 0, 1) := by decide +kernel
theorem dX6_keepsAtFirst_34 : decode cX6_keepsAtFirst 34 = .ok (.ireturn, 1) := by decide +kernel
theorem dX7_init_0 : decode cX7_init 0 = .ok (.aload_n 0, 1) := by decide +kernel
theorem dX7_init_1 : decode cX7_init 1 = .ok (.invokespecial 1, 3) := by decide +kernel
theorem dX7_init_4 : decode cX7_init 4 = .ok (.aload_n 0, 1) := by decide +kernel
theorem dX7_init_5 : decode cX7_init 5 = .ok (.new 7, 3) := by decide +kernel
theorem dX7_init_8 : decode cX7_init 8 = .ok (.dup, 1) := by decide +kernel
theorem dX7_init_9 : decode cX7_init 9 = .ok (.bipush 6, 2) := by decide +kernel
theorem dX7_init_11 : decode cX7_init 11 = .ok (.invokespecial 11, 3) := by decide +kernel
theorem dX7_init_14 : decode cX7_init 14 = .ok (.putfield 14, 3) := by decide +kernel
theorem dX7_init_17 : decode cX7_init 17 = .ok (.aload_n 0, 1) := by decide +kernel
theorem dX7_init_18 : decode cX7_init 18 = .ok (.new 7, 3) := by decide +kernel
theorem dX7_init_21 : decode cX7_init 21 = .ok (.dup, 1) := by decide +kernel
theorem dX7_init_22 : decode cX7_init 22 = .ok (.iconst 4, 1) := by decide +kernel
theorem dX7_init_23 : decode cX7_init 23 = .ok (.invokespecial 11, 3) := by decide +kernel
theorem dX7_init_26 : decode cX7_init 26 = .ok (.putfield 18, 3) := by decide +kernel
theorem dX7_init_29 : decode cX7_init 29 = .ok (.aload_n 0, 1) := by decide +kernel
theorem dX7_init_30 : decode cX7_init 30 = .ok (.new 21, 3) := by decide +kernel
theorem dX7_init_33 : decode cX7_init 33 = .ok (.dup, 1) := by decide +kernel
theorem dX7_init_34 : decode cX7_init 34 = .ok (.invokespecial 23, 3) := by decide +kernel
theorem dX7_init_37 : decode cX7_init 37 = .ok (.putfield 24, 3) := by decide +kernel
theorem dX7_init_40 : decode cX7_init 40 = .ok (.aload_n 0, 1) := by decide +kernel
theorem dX7_init_41 : decode cX7_init 41 = .ok (.new 28, 3) := by decide +kernel
theorem dX7_init_44 : decode cX7_init 44 = .ok (.dup, 1) := by decide +kernel
theorem dX7_init_45 : decode cX7_init 45 = .ok (.invokespecial 30, 3) := by decide +kernel
theorem dX7_init_48 : decode cX7_init 48 = .ok (.putfield 31, 3) := by decide +kernel
theorem dX7_init_51 : decode cX7_init 51 = .ok (.aload_n 0, 1) := by decide +kernel
theorem dX7_init_52 : decode cX7_init 52 = .ok (.iconst 3, 1) := by decide +kernel
theorem dX7_init_53 : decode cX7_init 53 = .ok (.anewarray 28, 3) := by decide +kernel
theorem dX7_init_56 : decode cX7_init 56 = .ok (.putfield 35, 3) := by decide +kernel
theorem dX7_init_59 : decode cX7_init 59 = .ok (.aload_n 0, 1) := by decide +kernel
theorem dX7_init_60 : decode cX7_init 60 = .ok (.new 39, 3) := by decide +kernel
theorem dX7_init_63 : decode cX7_init 63 = .ok (.dup, 1) := by decide +kernel
theorem dX7_init_64 : decode cX7_init 64 = .ok (.invokespecial 41, 3) := by decide +kernel
theorem dX7_init_67 : decode cX7_init 67 = .ok (.putfield 42, 3) := by decide +kernel
theorem dX7_init_70 : decode cX7_init 70 = .ok (.aload_n 0, 1) := by decide +kernel
theorem dX7_init_71 : decode cX7_init 71 = .ok (.new 46, 3) := by decide +kernel
theorem dX7_init_74 : decode cX7_init 74 = .ok (.dup, 1) := by decide +kernel
theorem dX7_init_75 : decode cX7_init 75 = .ok (.aload_n 0, 1) := by decide +kernel
theorem dX7_init_76 : decode cX7_init 76 = .ok (.getfield 42, 3) := by decide +kernel
theorem dX7_init_79 : decode cX7_init 79 = .ok (.invokespecial 48, 3) := by decide +kernel
theorem dX7_init_82 : decode cX7_init 82 = .ok (.putfield 51, 3) := by decide +kernel
theorem dX7_init_85 : decode cX7_init 85 = .ok (.aload_n 0, 1) := by decide +kernel
theorem dX7_init_86 : decode cX7_init 86 = .ok (.new 55, 3) := by decide +kernel
theorem dX7_init_89 : decode cX7_init 89 = .ok (.dup, 1) := by decide +kernel
theorem dX7_init_90 : decode cX7_init 90 = .ok (.aload_n 0, 1) := by decide +kernel
theorem dX7_init_91 : decode cX7_init 91 = .ok (.getfield 51, 3) := by decide +kernel
theorem dX7_init_94 : decode cX7_init 94 = .ok (.invokespecial 57, 3) := by decide +kernel
theorem dX7_init_97 : decode cX7_init 97 = .ok (.putfield 60, 3) := by decide +kernel
theorem dX7_init_100 : decode cX7_init 100 = .ok (.aload_n 0, 1) := by decide +kernel
theorem dX7_init_101 : decode cX7_init 101 = .ok (.bipush 8, 2) := by decide +kernel
theorem dX7_init_103 : decode cX7_init 103 = .ok (.newarray .int, 2) := by decide +kernel
theorem dX7_init_105 : decode cX7_init 105 = .ok (.putfield 64, 3) := by decide +kernel
theorem dX7_init_108 : decode cX7_init 108 = .ok (.aload_n 0, 1) := by decide +kernel
theorem dX7_init_109 : decode cX7_init 109 = .ok (.bipush 8, 2) := by decide +kernel
theorem dX7_init_111 : decode cX7_init 111 = .ok (.newarray .int, 2) := by decide +kernel
theorem dX7_init_113 : decode cX7_init 113 = .ok (.putfield 68, 3) := by decide +kernel
theorem dX7_init_116 : decode cX7_init 116 = .ok (.aload_n 0, 1) := by decide +kernel
theorem dX7_init_117 : decode cX7_init 117 = .ok (.bipush 6, 2) := by decide +kernel
theorem dX7_init_119 : decode cX7_init 119 = .ok (.newarray .int, 2) := by decide +kernel
theorem dX7_init_121 : decode cX7_init 121 = .ok (.putfield 71, 3) := by decide +kernel
theorem dX7_init_124 : decode cX7_init 124 = .ok (.aload_n 0, 1) := by decide +kernel
theorem dX7_init_125 : decode cX7_init 125 = .ok (.new 74, 3) := by decide +kernel
theorem dX7_init_128 : decode cX7_init 128 = .ok (.dup, 1) := by decide +kernel
theorem dX7_init_129 : decode cX7_init 129 = .ok (.invokespecial 76, 3) := by decide +kernel
theorem dX7_init_132 : decode cX7_init 132 = .ok (.putfield 77, 3) := by decide +kernel
theorem dX7_init_135 : decode cX7_init 135 = .ok (.aload_n 0, 1) := by decide +kernel
theorem dX7_init_136 : decode cX7_init 136 = .ok (.new 74, 3) := by decide +kernel
theorem dX7_init_139 : decode cX7_init 139 = .ok (.dup, 1) := by decide +kernel
theorem dX7_init_140 : decode cX7_init 140 = .ok (.invokespecial 76, 3) := by decide +kernel
theorem dX7_init_143 : decode cX7_init 143 = .ok (.putfield 81, 3) := by decide +kernel
theorem dX7_init_146 : decode cX7_init 146 = .ok (.iconst 0, 1) := by decide +kernel
theorem dX7_init_147 : decode cX7_init 147 = .ok (.istore_n 1, 1) := by decide +kernel
theorem dX7_init_148 : decode cX7_init 148 = .ok (.iload_n 1, 1) := by decide +kernel
theorem dX7_init_149 : decode cX7_init 149 = .ok (.iconst 3, 1) := by decide +kernel
theorem dX7_init_150 : decode cX7_init 150 = .ok (.if_icmp .ge 22, 3) := by decide +kernel
theorem dX7_init_153 : decode cX7_init 153 = .ok (.aload_n 0, 1) := by decide +kernel
theorem dX7_init_154 : decode cX7_init 154 = .ok (.getfield 35, 3) := by decide +kernel
theorem dX7_init_157 : decode cX7_init 157 = .ok (.iload_n 1, 1) := by decide +kernel
theorem dX7_init_158 : decode cX7_init 158 = .ok (.new 28, 3) := by decide +kernel
theorem dX7_init_161 : decode cX7_init 161 = .ok (.dup, 1) := by decide +kernel
theorem dX7_init_162 : decode cX7_init 162 = .ok (.invokespecial 30, 3) := by decide +kernel
theorem dX7_init_165 : decode cX7_init 165 = .ok (.aastore, 1) := by decide +kernel
theorem dX7_init_166 : decode cX7_init 166 = .ok (.iinc 1 1, 3) := by decide +kernel
theorem dX7_init_169 : decode cX7_init 169 = .ok (.goto (-21), 3) := by decide +kernel
theorem dX7_init_172 : decode cX7_init 172 = .ok (.aload_n 0, 1) := by decide +kernel
theorem dX7_init_173 : decode cX7_init 173 = .ok (.invokevirtual 84, 3) := by decide +kernel
theorem dX7_init_176 : decode cX7_init 176 = .ok (.return_, 1) := by decide +kernel
theorem dX7_row_0 : decode cX7_row 0 = .ok (.aload_n 0, 1) := by decide +kernel
theorem dX7_row_1 : decode cX7_row 1 = .ok (.aload_n 0, 1) := by decide +kernel
theorem dX7_row_2 : decode cX7_row 2 = .ok (.getfield 14, 3) := by decide +kernel
theorem dX7_row_5 : decode cX7_row 5 = .ok (.iload_n 1, 1) := by decide +kernel
theorem dX7_row_6 : decode cX7_row 6 = .ok (.iload_n 2, 1) := by decide +kernel
theorem dX7_row_7 : decode cX7_row 7 = .ok (.iconst 0, 1) := by decide +kernel
theorem dX7_row_8 : decode cX7_row 8 = .ok (.invokevirtual 87, 3) := by decide +kernel
theorem dX7_row_11 : decode cX7_row 11 = .ok (.ireturn, 1) := by decide +kernel
theorem dX7_lay_0 : decode cX7_lay 0 = .ok (.aload_n 0, 1) := by decide +kernel
theorem dX7_lay_1 : decode cX7_lay 1 = .ok (.aload_n 0, 1) := by decide +kernel
theorem dX7_lay_2 : decode cX7_lay 2 = .ok (.getfield 14, 3) := by decide +kernel
theorem dX7_lay_5 : decode cX7_lay 5 = .ok (.iload_n 1, 1) := by decide +kernel
theorem dX7_lay_6 : decode cX7_lay 6 = .ok (.iload_n 2, 1) := by decide +kernel
theorem dX7_lay_7 : decode cX7_lay 7 = .ok (.invokevirtual 91, 3) := by decide +kernel
theorem dX7_lay_10 : decode cX7_lay 10 = .ok (.istore 4, 2) := by decide +kernel
theorem dX7_lay_12 : decode cX7_lay 12 = .ok (.iload 4, 2) := by decide +kernel
theorem dX7_lay_14 : decode cX7_lay 14 = .ok (.ifCond .eq 6, 3) := by decide +kernel
theorem dX7_lay_17 : decode cX7_lay 17 = .ok (.iload 4, 2) := by decide +kernel
theorem dX7_lay_19 : decode cX7_lay 19 = .ok (.ireturn, 1) := by decide +kernel
theorem dX7_lay_20 : decode cX7_lay 20 = .ok (.aload_n 0, 1) := by decide +kernel
theorem dX7_lay_21 : decode cX7_lay 21 = .ok (.aload_n 0, 1) := by decide +kernel
theorem dX7_lay_22 : decode cX7_lay 22 = .ok (.getfield 14, 3) := by decide +kernel
theorem dX7_lay_25 : decode cX7_lay 25 = .ok (.iload_n 1, 1) := by decide +kernel
theorem dX7_lay_26 : decode cX7_lay 26 = .ok (.iload_n 2, 1) := by decide +kernel
theorem dX7_lay_27 : decode cX7_lay 27 = .ok (.invokevirtual 95, 3) := by decide +kernel
theorem dX7_lay_30 : decode cX7_lay 30 = .ok (.putfield 99, 3) := by decide +kernel
theorem dX7_lay_33 : decode cX7_lay 33 = .ok (.aload_n 0, 1) := by decide +kernel
theorem dX7_lay_34 : decode cX7_lay 34 = .ok (.getfield 14, 3) := by decide +kernel
theorem dX7_lay_37 : decode cX7_lay 37 = .ok (.iload_n 1, 1) := by decide +kernel
theorem dX7_lay_38 : decode cX7_lay 38 = .ok (.iload_n 2, 1) := by decide +kernel
theorem dX7_lay_39 : decode cX7_lay 39 = .ok (.iload_n 3, 1) := by decide +kernel
theorem dX7_lay_40 : decode cX7_lay 40 = .ok (.invokevirtual 103, 3) := by decide +kernel
theorem dX7_lay_43 : decode cX7_lay 43 = .ok (.iconst 1, 1) := by decide +kernel
theorem dX7_lay_44 : decode cX7_lay 44 = .ok (.ireturn, 1) := by decide +kernel
theorem dX7_at_0 : decode cX7_at 0 = .ok (.aload_n 0, 1) := by decide +kernel
theorem dX7_at_1 : decode cX7_at 1 = .ok (.aload_n 0, 1) := by decide +kernel
theorem dX7_at_2 : decode cX7_at 2 = .ok (.getfield 14, 3) := by decide +kernel
theorem dX7_at_5 : decode cX7_at 5 = .ok (.iload_n 1, 1) := by decide +kernel
theorem dX7_at_6 : decode cX7_at 6 = .ok (.iload_n 2, 1) := by decide +kernel
theorem dX7_at_7 : decode cX7_at 7 = .ok (.invokevirtual 91, 3) := by decide +kernel
theorem dX7_at_10 : decode cX7_at 10 = .ok (.istore_n 3, 1) := by decide +kernel
theorem dX7_at_11 : decode cX7_at 11 = .ok (.iload_n 3, 1) := by decide +kernel
theorem dX7_at_12 : decode cX7_at 12 = .ok (.ifCond .eq 5, 3) := by decide +kernel
theorem dX7_at_15 : decode cX7_at 15 = .ok (.iload_n 3, 1) := by decide +kernel
theorem dX7_at_16 : decode cX7_at 16 = .ok (.ireturn, 1) := by decide +kernel
theorem dX7_at_17 : decode cX7_at 17 = .ok (.aload_n 0, 1) := by decide +kernel
theorem dX7_at_18 : decode cX7_at 18 = .ok (.aload_n 0, 1) := by decide +kernel
theorem dX7_at_19 : decode cX7_at 19 = .ok (.getfield 14, 3) := by decide +kernel
theorem dX7_at_22 : decode cX7_at 22 = .ok (.iload_n 1, 1) := by decide +kernel
theorem dX7_at_23 : decode cX7_at 23 = .ok (.iload_n 2, 1) := by decide +kernel
theorem dX7_at_24 : decode cX7_at 24 = .ok (.invokevirtual 95, 3) := by decide +kernel
theorem dX7_at_27 : decode cX7_at 27 = .ok (.putfield 99, 3) := by decide +kernel
theorem dX7_at_30 : decode cX7_at 30 = .ok (.iconst 1, 1) := by decide +kernel
theorem dX7_at_31 : decode cX7_at 31 = .ok (.ireturn, 1) := by decide +kernel
theorem dX7_tear_0 : decode cX7_tear 0 = .ok (.aload_n 0, 1) := by decide +kernel
theorem dX7_tear_1 : decode cX7_tear 1 = .ok (.aload_n 0, 1) := by decide +kernel
theorem dX7_tear_2 : decode cX7_tear 2 = .ok (.getfield 14, 3) := by decide +kernel
theorem dX7_tear_5 : decode cX7_tear 5 = .ok (.iload_n 1, 1) := by decide +kernel
theorem dX7_tear_6 : decode cX7_tear 6 = .ok (.invokevirtual 107, 3) := by decide +kernel
theorem dX7_tear_9 : decode cX7_tear 9 = .ok (.istore_n 2, 1) := by decide +kernel
theorem dX7_tear_10 : decode cX7_tear 10 = .ok (.iload_n 2, 1) := by decide +kernel
theorem dX7_tear_11 : decode cX7_tear 11 = .ok (.ifCond .eq 5, 3) := by decide +kernel
theorem dX7_tear_14 : decode cX7_tear 14 = .ok (.iload_n 2, 1) := by decide +kernel
theorem dX7_tear_15 : decode cX7_tear 15 = .ok (.ireturn, 1) := by decide +kernel
theorem dX7_tear_16 : decode cX7_tear 16 = .ok (.aload_n 0, 1) := by decide +kernel
theorem dX7_tear_17 : decode cX7_tear 17 = .ok (.getfield 14, 3) := by decide +kernel
theorem dX7_tear_20 : decode cX7_tear 20 = .ok (.iload_n 1, 1) := by decide +kernel
theorem dX7_tear_21 : decode cX7_tear 21 = .ok (.invokevirtual 111, 3) := by decide +kernel
theorem dX7_tear_24 : decode cX7_tear 24 = .ok (.iconst 1, 1) := by decide +kernel
theorem dX7_tear_25 : decode cX7_tear 25 = .ok (.ireturn, 1) := by decide +kernel
theorem dX7_copy_0 : decode cX7_copy 0 = .ok (.aload_n 0, 1) := by decide +kernel
theorem dX7_copy_1 : decode cX7_copy 1 = .ok (.getfield 14, 3) := by decide +kernel
theorem dX7_copy_4 : decode cX7_copy 4 = .ok (.iload_n 1, 1) := by decide +kernel
theorem dX7_copy_5 : decode cX7_copy 5 = .ok (.invokevirtual 114, 3) := by decide +kernel
theorem dX7_copy_8 : decode cX7_copy 8 = .ok (.ifCond .eq 14, 3) := by decide +kernel
theorem dX7_copy_11 : decode cX7_copy 11 = .ok (.aload_n 0, 1) := by decide +kernel
theorem dX7_copy_12 : decode cX7_copy 12 = .ok (.getfield 14, 3) := by decide +kernel
theorem dX7_copy_15 : decode cX7_copy 15 = .ok (.iload_n 3, 1) := by decide +kernel
theorem dX7_copy_16 : decode cX7_copy 16 = .ok (.invokevirtual 114, 3) := by decide +kernel
theorem dX7_copy_19 : decode cX7_copy 19 = .ok (.ifCond .ne 5, 3) := by decide +kernel
theorem dX7_copy_22 : decode cX7_copy 22 = .ok (.iconst (-1), 1) := by decide +kernel
theorem dX7_copy_23 : decode cX7_copy 23 = .ok (.ireturn, 1) := by decide +kernel
theorem dX7_copy_24 : decode cX7_copy 24 = .ok (.iload 5, 2) := by decide +kernel
theorem dX7_copy_26 : decode cX7_copy 26 = .ok (.ifCond .ge 9, 3) := by decide +kernel
theorem dX7_copy_29 : decode cX7_copy 29 = .ok (.aload_n 0, 1) := by decide +kernel
theorem dX7_copy_30 : decode cX7_copy 30 = .ok (.iconst 5, 1) := by decide +kernel
theorem dX7_copy_31 : decode cX7_copy 31 = .ok (.invokevirtual 118, 3) := by decide +kernel
theorem dX7_copy_34 : decode cX7_copy 34 = .ok (.ireturn, 1) := by decide +kernel
theorem dX7_copy_35 : decode cX7_copy 35 = .ok (.aload_n 0, 1) := by decide +kernel
theorem dX7_copy_36 : decode cX7_copy 36 = .ok (.getfield 14, 3) := by decide +kernel
theorem dX7_copy_39 : decode cX7_copy 39 = .ok (.iload_n 1, 1) := by decide +kernel
theorem dX7_copy_40 : decode cX7_copy 40 = .ok (.invokevirtual 122, 3) := by decide +kernel
theorem dX7_copy_43 : decode cX7_copy 43 = .ok (.ifCond .eq 14, 3) := by decide +kernel
theorem dX7_copy_46 : decode cX7_copy 46 = .ok (.aload_n 0, 1) := by decide +kernel
theorem dX7_copy_47 : decode cX7_copy 47 = .ok (.getfield 14, 3) := by decide +kernel
theorem dX7_copy_50 : decode cX7_copy 50 = .ok (.iload_n 3, 1) := by decide +kernel
theorem dX7_copy_51 : decode cX7_copy 51 = .ok (.invokevirtual 122, 3) := by decide +kernel
theorem dX7_copy_54 : decode cX7_copy 54 = .ok (.ifCond .ne 9, 3) := by decide +kernel
theorem dX7_copy_57 : decode cX7_copy 57 = .ok (.aload_n 0, 1) := by decide +kernel
theorem dX7_copy_58 : decode cX7_copy 58 = .ok (.iconst 1, 1) := by decide +kernel
theorem dX7_copy_59 : decode cX7_copy 59 = .ok (.invokevirtual 118, 3) := by decide +kernel
theorem dX7_copy_62 : decode cX7_copy 62 = .ok (.ireturn, 1) := by decide +kernel
theorem dX7_copy_63 : decode cX7_copy 63 = .ok (.aload_n 0, 1) := by decide +kernel
theorem dX7_copy_64 : decode cX7_copy 64 = .ok (.getfield 14, 3) := by decide +kernel
theorem dX7_copy_67 : decode cX7_copy 67 = .ok (.iload_n 1, 1) := by decide +kernel
theorem dX7_copy_68 : decode cX7_copy 68 = .ok (.iload_n 2, 1) := by decide +kernel
theorem dX7_copy_69 : decode cX7_copy 69 = .ok (.iload 5, 2) := by decide +kernel
theorem dX7_copy_71 : decode cX7_copy 71 = .ok (.invokevirtual 125, 3) := by decide +kernel
theorem dX7_copy_74 : decode cX7_copy 74 = .ok (.ifCond .eq 18, 3) := by decide +kernel
theorem dX7_copy_77 : decode cX7_copy 77 = .ok (.aload_n 0, 1) := by decide +kernel
theorem dX7_copy_78 : decode cX7_copy 78 = .ok (.getfield 14, 3) := by decide +kernel
theorem dX7_copy_81 : decode cX7_copy 81 = .ok (.iload_n 3, 1) := by decide +kernel
theorem dX7_copy_82 : decode cX7_copy 82 = .ok (.iload 4, 2) := by decide +kernel
theorem dX7_copy_84 : decode cX7_copy 84 = .ok (.iload 5, 2) := by decide +kernel
theorem dX7_copy_86 : decode cX7_copy 86 = .ok (.invokevirtual 125, 3) := by decide +kernel
theorem dX7_copy_89 : decode cX7_copy 89 = .ok (.ifCond .ne 9, 3) := by decide +kernel
theorem dX7_copy_92 : decode cX7_copy 92 = .ok (.aload_n 0, 1) := by decide +kernel
theorem dX7_copy_93 : decode cX7_copy 93 = .ok (.iconst 2, 1) := by decide +kernel
theorem dX7_copy_94 : decode cX7_copy 94 = .ok (.invokevirtual 118, 3) := by decide +kernel
theorem dX7_copy_97 : decode cX7_copy 97 = .ok (.ireturn, 1) := by decide +kernel
theorem dX7_copy_98 : decode cX7_copy 98 = .ok (.aload_n 0, 1) := by decide +kernel
theorem dX7_copy_99 : decode cX7_copy 99 = .ok (.getfield 14, 3) := by decide +kernel
theorem dX7_copy_102 : decode cX7_copy 102 = .ok (.iload_n 1, 1) := by decide +kernel
theorem dX7_copy_103 : decode cX7_copy 103 = .ok (.iload_n 2, 1) := by decide +kernel
theorem dX7_copy_104 : decode cX7_copy 104 = .ok (.iload_n 3, 1) := by decide +kernel
theorem dX7_copy_105 : decode cX7_copy 105 = .ok (.iload 4, 2) := by decide +kernel
theorem dX7_copy_107 : decode cX7_copy 107 = .ok (.iload 5, 2) := by decide +kernel
theorem dX7_copy_109 : decode cX7_copy 109 = .ok (.invokevirtual 129, 3) := by decide +kernel
theorem dX7_copy_112 : decode cX7_copy 112 = .ok (.iconst 1, 1) := by decide +kernel
theorem dX7_copy_113 : decode cX7_copy 113 = .ok (.ireturn, 1) := by decide +kernel
theorem dX7_mean_0 : decode cX7_mean 0 = .ok (.aload_n 0, 1) := by decide +kernel
theorem dX7_mean_1 : decode cX7_mean 1 = .ok (.aload_n 0, 1) := by decide +kernel
theorem dX7_mean_2 : decode cX7_mean 2 = .ok (.getfield 14, 3) := by decide +kernel
theorem dX7_mean_5 : decode cX7_mean 5 = .ok (.iload_n 1, 1) := by decide +kernel
theorem dX7_mean_6 : decode cX7_mean 6 = .ok (.invokevirtual 107, 3) := by decide +kernel
theorem dX7_mean_9 : decode cX7_mean 9 = .ok (.istore_n 2, 1) := by decide +kernel
theorem dX7_mean_10 : decode cX7_mean 10 = .ok (.iload_n 2, 1) := by decide +kernel
theorem dX7_mean_11 : decode cX7_mean 11 = .ok (.ifCond .eq 5, 3) := by decide +kernel
theorem dX7_mean_14 : decode cX7_mean 14 = .ok (.iload_n 2, 1) := by decide +kernel
theorem dX7_mean_15 : decode cX7_mean 15 = .ok (.ireturn, 1) := by decide +kernel
theorem dX7_mean_16 : decode cX7_mean 16 = .ok (.aload_n 0, 1) := by decide +kernel
theorem dX7_mean_17 : decode cX7_mean 17 = .ok (.getfield 14, 3) := by decide +kernel
theorem dX7_mean_20 : decode cX7_mean 20 = .ok (.iload_n 1, 1) := by decide +kernel
theorem dX7_mean_21 : decode cX7_mean 21 = .ok (.invokevirtual 133, 3) := by decide +kernel
theorem dX7_mean_24 : decode cX7_mean 24 = .ok (.istore_n 3, 1) := by decide +kernel
theorem dX7_mean_25 : decode cX7_mean 25 = .ok (.iload_n 3, 1) := by decide +kernel
theorem dX7_mean_26 : decode cX7_mean 26 = .ok (.ifCond .gt 9, 3) := by decide +kernel
theorem dX7_mean_29 : decode cX7_mean 29 = .ok (.aload_n 0, 1) := by decide +kernel
theorem dX7_mean_30 : decode cX7_mean 30 = .ok (.iconst 4, 1) := by decide +kernel
theorem dX7_mean_31 : decode cX7_mean 31 = .ok (.invokevirtual 118, 3) := by decide +kernel
theorem dX7_mean_34 : decode cX7_mean 34 = .ok (.ireturn, 1) := by decide +kernel
theorem dX7_mean_35 : decode cX7_mean 35 = .ok (.lconst 0, 1) := by decide +kernel
theorem dX7_mean_36 : decode cX7_mean 36 = .ok (.lstore 4, 2) := by decide +kernel
theorem dX7_mean_38 : decode cX7_mean 38 = .ok (.iconst 0, 1) := by decide +kernel
theorem dX7_mean_39 : decode cX7_mean 39 = .ok (.istore 6, 2) := by decide +kernel
theorem dX7_mean_41 : decode cX7_mean 41 = .ok (.iload 6, 2) := by decide +kernel
theorem dX7_mean_43 : decode cX7_mean 43 = .ok (.iload_n 3, 1) := by decide +kernel
theorem dX7_mean_44 : decode cX7_mean 44 = .ok (.if_icmp .ge 25, 3) := by decide +kernel
theorem dX7_mean_47 : decode cX7_mean 47 = .ok (.lload 4, 2) := by decide +kernel
theorem dX7_mean_49 : decode cX7_mean 49 = .ok (.aload_n 0, 1) := by decide +kernel
theorem dX7_mean_50 : decode cX7_mean 50 = .ok (.getfield 14, 3) := by decide +kernel
theorem dX7_mean_53 : decode cX7_mean 53 = .ok (.iload_n 1, 1) := by decide +kernel
theorem dX7_mean_54 : decode cX7_mean 54 = .ok (.iload 6, 2) := by decide +kernel
theorem dX7_mean_56 : decode cX7_mean 56 = .ok (.invokevirtual 95, 3) := by decide +kernel
theorem dX7_mean_59 : decode cX7_mean 59 = .ok (.i2l, 1) := by decide +kernel
theorem dX7_mean_60 : decode cX7_mean 60 = .ok (.ladd, 1) := by decide +kernel
theorem dX7_mean_61 : decode cX7_mean 61 = .ok (.lstore 4, 2) := by decide +kernel
theorem dX7_mean_63 : decode cX7_mean 63 = .ok (.iinc 6 1, 3) := by decide +kernel
theorem dX7_mean_66 : decode cX7_mean 66 = .ok (.goto (-25), 3) := by decide +kernel
theorem dX7_mean_69 : decode cX7_mean 69 = .ok (.aload_n 0, 1) := by decide +kernel
theorem dX7_mean_70 : decode cX7_mean 70 = .ok (.lload 4, 2) := by decide +kernel
theorem dX7_mean_72 : decode cX7_mean 72 = .ok (.iload_n 3, 1) := by decide +kernel
theorem dX7_mean_73 : decode cX7_mean 73 = .ok (.i2l, 1) := by decide +kernel
theorem dX7_mean_74 : decode cX7_mean 74 = .ok (.ldiv, 1) := by decide +kernel
theorem dX7_mean_75 : decode cX7_mean 75 = .ok (.l2i, 1) := by decide +kernel
theorem dX7_mean_76 : decode cX7_mean 76 = .ok (.putfield 99, 3) := by decide +kernel
theorem dX7_mean_79 : decode cX7_mean 79 = .ok (.iconst 1, 1) := by decide +kernel
theorem dX7_mean_80 : decode cX7_mean 80 = .ok (.ireturn, 1) := by decide +kernel
theorem dX7_text_0 : decode cX7_text 0 = .ok (.aload_n 0, 1) := by decide +kernel
theorem dX7_text_1 : decode cX7_text 1 = .ok (.aload_n 0, 1) := by decide +kernel
theorem dX7_text_2 : decode cX7_text 2 = .ok (.getfield 18, 3) := by decide +kernel
theorem dX7_text_5 : decode cX7_text 5 = .ok (.iload_n 1, 1) := by decide +kernel
theorem dX7_text_6 : decode cX7_text 6 = .ok (.iload_n 2, 1) := by decide +kernel
theorem dX7_text_7 : decode cX7_text 7 = .ok (.bipush 32, 2) := by decide +kernel
theorem dX7_text_9 : decode cX7_text 9 = .ok (.invokevirtual 87, 3) := by decide +kernel
theorem dX7_text_12 : decode cX7_text 12 = .ok (.ireturn, 1) := by decide +kernel
theorem dX7_put_0 : decode cX7_put 0 = .ok (.aload_n 0, 1) := by decide +kernel
theorem dX7_put_1 : decode cX7_put 1 = .ok (.aload_n 0, 1) := by decide +kernel
theorem dX7_put_2 : decode cX7_put 2 = .ok (.getfield 18, 3) := by decide +kernel
theorem dX7_put_5 : decode cX7_put 5 = .ok (.iload_n 1, 1) := by decide +kernel
theorem dX7_put_6 : decode cX7_put 6 = .ok (.iload_n 2, 1) := by decide +kernel
theorem dX7_put_7 : decode cX7_put 7 = .ok (.invokevirtual 91, 3) := by decide +kernel
theorem dX7_put_10 : decode cX7_put 10 = .ok (.istore 4, 2) := by decide +kernel
theorem dX7_put_12 : decode cX7_put 12 = .ok (.iload 4, 2) := by decide +kernel
theorem dX7_put_14 : decode cX7_put 14 = .ok (.ifCond .eq 6, 3) := by decide +kernel
theorem dX7_put_17 : decode cX7_put 17 = .ok (.iload 4, 2) := by decide +kernel
theorem dX7_put_19 : decode cX7_put 19 = .ok (.ireturn, 1) := by decide +kernel
theorem dX7_put_20 : decode cX7_put 20 = .ok (.aload_n 0, 1) := by decide +kernel
theorem dX7_put_21 : decode cX7_put 21 = .ok (.getfield 18, 3) := by decide +kernel
theorem dX7_put_24 : decode cX7_put 24 = .ok (.iload_n 1, 1) := by decide +kernel
theorem dX7_put_25 : decode cX7_put 25 = .ok (.iload_n 2, 1) := by decide +kernel
theorem dX7_put_26 : decode cX7_put 26 = .ok (.invokevirtual 95, 3) := by decide +kernel
theorem dX7_put_29 : decode cX7_put 29 = .ok (.istore 5, 2) := by decide +kernel
theorem dX7_put_31 : decode cX7_put 31 = .ok (.aload_n 0, 1) := by decide +kernel
theorem dX7_put_32 : decode cX7_put 32 = .ok (.getfield 18, 3) := by decide +kernel
theorem dX7_put_35 : decode cX7_put 35 = .ok (.iload_n 1, 1) := by decide +kernel
theorem dX7_put_36 : decode cX7_put 36 = .ok (.iload_n 2, 1) := by decide +kernel
theorem dX7_put_37 : decode cX7_put 37 = .ok (.iload_n 3, 1) := by decide +kernel
theorem dX7_put_38 : decode cX7_put 38 = .ok (.i2b, 1) := by decide +kernel
theorem dX7_put_39 : decode cX7_put 39 = .ok (.invokevirtual 103, 3) := by decide +kernel
theorem dX7_put_42 : decode cX7_put 42 = .ok (.iload 5, 2) := by decide +kernel
theorem dX7_put_44 : decode cX7_put 44 = .ok (.sipush 1000, 3) := by decide +kernel
theorem dX7_put_47 : decode cX7_put 47 = .ok (.iadd, 1) := by decide +kernel
theorem dX7_put_48 : decode cX7_put 48 = .ok (.ireturn, 1) := by decide +kernel
theorem dX7_fault_0 : decode cX7_fault 0 = .ok (.aload_n 0, 1) := by decide +kernel
theorem dX7_fault_1 : decode cX7_fault 1 = .ok (.aload_n 0, 1) := by decide +kernel
theorem dX7_fault_2 : decode cX7_fault 2 = .ok (.getfield 18, 3) := by decide +kernel
theorem dX7_fault_5 : decode cX7_fault 5 = .ok (.iload_n 1, 1) := by decide +kernel
theorem dX7_fault_6 : decode cX7_fault 6 = .ok (.invokevirtual 107, 3) := by decide +kernel
theorem dX7_fault_9 : decode cX7_fault 9 = .ok (.istore_n 2, 1) := by decide +kernel
theorem dX7_fault_10 : decode cX7_fault 10 = .ok (.iload_n 2, 1) := by decide +kernel
theorem dX7_fault_11 : decode cX7_fault 11 = .ok (.ifCond .eq 7, 3) := by decide +kernel
theorem dX7_fault_14 : decode cX7_fault 14 = .ok (.iload_n 2, 1) := by decide +kernel
theorem dX7_fault_15 : decode cX7_fault 15 = .ok (.goto 19, 3) := by decide +kernel
theorem dX7_fault_18 : decode cX7_fault 18 = .ok (.aload_n 0, 1) := by decide +kernel
theorem dX7_fault_19 : decode cX7_fault 19 = .ok (.getfield 24, 3) := by decide +kernel
theorem dX7_fault_22 : decode cX7_fault 22 = .ok (.aload_n 0, 1) := by decide +kernel
theorem dX7_fault_23 : decode cX7_fault 23 = .ok (.getfield 18, 3) := by decide +kernel
theorem dX7_fault_26 : decode cX7_fault 26 = .ok (.iload_n 1, 1) := by decide +kernel
theorem dX7_fault_27 : decode cX7_fault 27 = .ok (.aload_n 0, 1) := by decide +kernel
theorem dX7_fault_28 : decode cX7_fault 28 = .ok (.getfield 81, 3) := by decide +kernel
theorem dX7_fault_31 : decode cX7_fault 31 = .ok (.invokevirtual 136, 3) := by decide +kernel
theorem dX7_fault_34 : decode cX7_fault 34 = .ok (.ireturn, 1) := by decide +kernel
theorem dX7_yard_0 : decode cX7_yard 0 = .ok (.aload_n 0, 1) := by decide +kernel
theorem dX7_yard_1 : decode cX7_yard 1 = .ok (.aload_n 0, 1) := by decide +kernel
theorem dX7_yard_2 : decode cX7_yard 2 = .ok (.getfield 18, 3) := by decide +kernel
theorem dX7_yard_5 : decode cX7_yard 5 = .ok (.iload_n 1, 1) := by decide +kernel
theorem dX7_yard_6 : decode cX7_yard 6 = .ok (.invokevirtual 107, 3) := by decide +kernel
theorem dX7_yard_9 : decode cX7_yard 9 = .ok (.istore_n 2, 1) := by decide +kernel
theorem dX7_yard_10 : decode cX7_yard 10 = .ok (.iload_n 2, 1) := by decide +kernel
theorem dX7_yard_11 : decode cX7_yard 11 = .ok (.ifCond .eq 5, 3) := by decide +kernel
theorem dX7_yard_14 : decode cX7_yard 14 = .ok (.iload_n 2, 1) := by decide +kernel
theorem dX7_yard_15 : decode cX7_yard 15 = .ok (.ireturn, 1) := by decide +kernel
theorem dX7_yard_16 : decode cX7_yard 16 = .ok (.aload_n 0, 1) := by decide +kernel
theorem dX7_yard_17 : decode cX7_yard 17 = .ok (.getfield 24, 3) := by decide +kernel
theorem dX7_yard_20 : decode cX7_yard 20 = .ok (.aload_n 0, 1) := by decide +kernel
theorem dX7_yard_21 : decode cX7_yard 21 = .ok (.getfield 18, 3) := by decide +kernel
theorem dX7_yard_24 : decode cX7_yard 24 = .ok (.iload_n 1, 1) := by decide +kernel
theorem dX7_yard_25 : decode cX7_yard 25 = .ok (.aload_n 0, 1) := by decide +kernel
theorem dX7_yard_26 : decode cX7_yard 26 = .ok (.getfield 81, 3) := by decide +kernel
theorem dX7_yard_29 : decode cX7_yard 29 = .ok (.invokevirtual 136, 3) := by decide +kernel
theorem dX7_yard_32 : decode cX7_yard 32 = .ok (.bipush (-9), 2) := by decide +kernel
theorem dX7_yard_34 : decode cX7_yard 34 = .ok (.if_icmp .eq 6, 3) := by decide +kernel
theorem dX7_yard_37 : decode cX7_yard 37 = .ok (.bipush (-4), 2) := by decide +kernel
theorem dX7_yard_39 : decode cX7_yard 39 = .ok (.ireturn, 1) := by decide +kernel
theorem dX7_yard_40 : decode cX7_yard 40 = .ok (.aload_n 0, 1) := by decide +kernel
theorem dX7_yard_41 : decode cX7_yard 41 = .ok (.getfield 77, 3) := by decide +kernel
theorem dX7_yard_44 : decode cX7_yard 44 = .ok (.astore_n 3, 1) := by decide +kernel
theorem dX7_yard_45 : decode cX7_yard 45 = .ok (.aload_n 0, 1) := by decide +kernel
theorem dX7_yard_46 : decode cX7_yard 46 = .ok (.aload_n 0, 1) := by decide +kernel
theorem dX7_yard_47 : decode cX7_yard 47 = .ok (.getfield 81, 3) := by decide +kernel
theorem dX7_yard_50 : decode cX7_yard 50 = .ok (.putfield 77, 3) := by decide +kernel
theorem dX7_yard_53 : decode cX7_yard 53 = .ok (.aload_n 0, 1) := by decide +kernel
theorem dX7_yard_54 : decode cX7_yard 54 = .ok (.aload_n 3, 1) := by decide +kernel
theorem dX7_yard_55 : decode cX7_yard 55 = .ok (.putfield 81, 3) := by decide +kernel
theorem dX7_yard_58 : decode cX7_yard 58 = .ok (.aload_n 0, 1) := by decide +kernel
theorem dX7_yard_59 : decode cX7_yard 59 = .ok (.getfield 31, 3) := by decide +kernel
theorem dX7_yard_62 : decode cX7_yard 62 = .ok (.aload_n 0, 1) := by decide +kernel
theorem dX7_yard_63 : decode cX7_yard 63 = .ok (.getfield 77, 3) := by decide +kernel
theorem dX7_yard_66 : decode cX7_yard 66 = .ok (.invokevirtual 140, 3) := by decide +kernel
theorem dX7_yard_69 : decode cX7_yard 69 = .ok (.invokevirtual 144, 3) := by decide +kernel
theorem dX7_yard_72 : decode cX7_yard 72 = .ok (.iconst 0, 1) := by decide +kernel
theorem dX7_yard_73 : decode cX7_yard 73 = .ok (.istore 4, 2) := by decide +kernel
theorem dX7_yard_75 : decode cX7_yard 75 = .ok (.iload 4, 2) := by decide +kernel
theorem dX7_yard_77 : decode cX7_yard 77 = .ok (.iconst 3, 1) := by decide +kernel
theorem dX7_yard_78 : decode cX7_yard 78 = .ok (.if_icmp .ge 20, 3) := by decide +kernel
theorem dX7_yard_81 : decode cX7_yard 81 = .ok (.aload_n 0, 1) := by decide +kernel
theorem dX7_yard_82 : decode cX7_yard 82 = .ok (.getfield 35, 3) := by decide +kernel
theorem dX7_yard_85 : decode cX7_yard 85 = .ok (.iload 4, 2) := by decide +kernel
theorem dX7_yard_87 : decode cX7_yard 87 = .ok (.aaload, 1) := by decide +kernel
theorem dX7_yard_88 : decode cX7_yard 88 = .ok (.iconst 0, 1) := by decide +kernel
theorem dX7_yard_89 : decode cX7_yard 89 = .ok (.putfield 147, 3) := by decide +kernel
theorem dX7_yard_92 : decode cX7_yard 92 = .ok (.iinc 4 1, 3) := by decide +kernel
theorem dX7_yard_95 : decode cX7_yard 95 = .ok (.goto (-20), 3) := by decide +kernel
theorem dX7_yard_98 : decode cX7_yard 98 = .ok (.aload_n 0, 1) := by decide +kernel
theorem dX7_yard_99 : decode cX7_yard 99 = .ok (.iconst 0, 1) := by decide +kernel
theorem dX7_yard_100 : decode cX7_yard 100 = .ok (.putfield 151, 3) := by decide +kernel
theorem dX7_yard_103 : decode cX7_yard 103 = .ok (.aload_n 0, 1) := by decide +kernel
theorem dX7_yard_104 : decode cX7_yard 104 = .ok (.invokevirtual 84, 3) := by decide +kernel
theorem dX7_yard_107 : decode cX7_yard 107 = .ok (.aload_n 0, 1) := by decide +kernel
theorem dX7_yard_108 : decode cX7_yard 108 = .ok (.getfield 77, 3) := by decide +kernel
theorem dX7_yard_111 : decode cX7_yard 111 = .ok (.getfield 154, 3) := by decide +kernel
theorem dX7_yard_114 : decode cX7_yard 114 = .ok (.ireturn, 1) := by decide +kernel
theorem dX7_man_0 : decode cX7_man 0 = .ok (.aload_n 0, 1) := by decide +kernel
theorem dX7_man_1 : decode cX7_man 1 = .ok (.iload_n 1, 1) := by decide +kernel
theorem dX7_man_2 : decode cX7_man 2 = .ok (.invokevirtual 157, 3) := by decide +kernel
theorem dX7_man_5 : decode cX7_man 5 = .ok (.ifCond .eq 12, 3) := by decide +kernel
theorem dX7_man_8 : decode cX7_man 8 = .ok (.iload_n 2, 1) := by decide +kernel
theorem dX7_man_9 : decode cX7_man 9 = .ok (.ifCond .lt 8, 3) := by decide +kernel
theorem dX7_man_12 : decode cX7_man 12 = .ok (.iload_n 2, 1) := by decide +kernel
theorem dX7_man_13 : decode cX7_man 13 = .ok (.iconst 3, 1) := by decide +kernel
theorem dX7_man_14 : decode cX7_man 14 = .ok (.if_icmp .le 5, 3) := by decide +kernel
theorem dX7_man_17 : decode cX7_man 17 = .ok (.iconst (-1), 1) := by decide +kernel
theorem dX7_man_18 : decode cX7_man 18 = .ok (.ireturn, 1) := by decide +kernel
theorem dX7_man_19 : decode cX7_man 19 = .ok (.aload_n 0, 1) := by decide +kernel
theorem dX7_man_20 : decode cX7_man 20 = .ok (.aload_n 0, 1) := by decide +kernel
theorem dX7_man_21 : decode cX7_man 21 = .ok (.iload_n 1, 1) := by decide +kernel
theorem dX7_man_22 : decode cX7_man 22 = .ok (.iload_n 2, 1) := by decide +kernel
theorem dX7_man_23 : decode cX7_man 23 = .ok (.invokevirtual 160, 3) := by decide +kernel
theorem dX7_man_26 : decode cX7_man 26 = .ok (.putfield 99, 3) := by decide +kernel
theorem dX7_man_29 : decode cX7_man 29 = .ok (.iconst 1, 1) := by decide +kernel
theorem dX7_man_30 : decode cX7_man 30 = .ok (.ireturn, 1) := by decide +kernel
theorem dX7_chain_0 : decode cX7_chain 0 = .ok (.aload_n 0, 1) := by decide +kernel
theorem dX7_chain_1 : decode cX7_chain 1 = .ok (.iload_n 1, 1) := by decide +kernel
theorem dX7_chain_2 : decode cX7_chain 2 = .ok (.invokevirtual 163, 3) := by decide +kernel
theorem dX7_chain_5 : decode cX7_chain 5 = .ok (.ifCond .eq 12, 3) := by decide +kernel
theorem dX7_chain_8 : decode cX7_chain 8 = .ok (.iload_n 2, 1) := by decide +kernel
theorem dX7_chain_9 : decode cX7_chain 9 = .ok (.ifCond .lt 8, 3) := by decide +kernel
theorem dX7_chain_12 : decode cX7_chain 12 = .ok (.iload_n 2, 1) := by decide +kernel
theorem dX7_chain_13 : decode cX7_chain 13 = .ok (.iconst 3, 1) := by decide +kernel
theorem dX7_chain_14 : decode cX7_chain 14 = .ok (.if_icmp .le 5, 3) := by decide +kernel
theorem dX7_chain_17 : decode cX7_chain 17 = .ok (.iconst (-1), 1) := by decide +kernel
theorem dX7_chain_18 : decode cX7_chain 18 = .ok (.ireturn, 1) := by decide +kernel
theorem dX7_chain_19 : decode cX7_chain 19 = .ok (.aload_n 0, 1) := by decide +kernel
theorem dX7_chain_20 : decode cX7_chain 20 = .ok (.aload_n 0, 1) := by decide +kernel
theorem dX7_chain_21 : decode cX7_chain 21 = .ok (.iload_n 1, 1) := by decide +kernel
theorem dX7_chain_22 : decode cX7_chain 22 = .ok (.iload_n 2, 1) := by decide +kernel
theorem dX7_chain_23 : decode cX7_chain 23 = .ok (.invokevirtual 166, 3) := by decide +kernel
theorem dX7_chain_26 : decode cX7_chain 26 = .ok (.putfield 99, 3) := by decide +kernel
theorem dX7_chain_29 : decode cX7_chain 29 = .ok (.iconst 1, 1) := by decide +kernel
theorem dX7_chain_30 : decode cX7_chain 30 = .ok (.ireturn, 1) := by decide +kernel
theorem dX7_mark_0 : decode cX7_mark 0 = .ok (.aload_n 0, 1) := by decide +kernel
theorem dX7_mark_1 : decode cX7_mark 1 = .ok (.iload_n 1, 1) := by decide +kernel
theorem dX7_mark_2 : decode cX7_mark 2 = .ok (.invokevirtual 157, 3) := by decide +kernel
theorem dX7_mark_5 : decode cX7_mark 5 = .ok (.ifCond .eq 13, 3) := by decide +kernel
theorem dX7_mark_8 : decode cX7_mark 8 = .ok (.iload_n 2, 1) := by decide +kernel
theorem dX7_mark_9 : decode cX7_mark 9 = .ok (.ifCond .le 9, 3) := by decide +kernel
theorem dX7_mark_12 : decode cX7_mark 12 = .ok (.iload_n 2, 1) := by decide +kernel
theorem dX7_mark_13 : decode cX7_mark 13 = .ok (.bipush 6, 2) := by decide +kernel
theorem dX7_mark_15 : decode cX7_mark 15 = .ok (.if_icmp .lt 5, 3) := by decide +kernel
theorem dX7_mark_18 : decode cX7_mark 18 = .ok (.iconst (-1), 1) := by decide +kernel
theorem dX7_mark_19 : decode cX7_mark 19 = .ok (.ireturn, 1) := by decide +kernel
theorem dX7_mark_20 : decode cX7_mark 20 = .ok (.aload_n 0, 1) := by decide +kernel
theorem dX7_mark_21 : decode cX7_mark 21 = .ok (.getfield 77, 3) := by decide +kernel
theorem dX7_mark_24 : decode cX7_mark 24 = .ok (.iload_n 1, 1) := by decide +kernel
theorem dX7_mark_25 : decode cX7_mark 25 = .ok (.iload_n 2, 1) := by decide +kernel
theorem dX7_mark_26 : decode cX7_mark 26 = .ok (.invokevirtual 169, 3) := by decide +kernel
theorem dX7_mark_29 : decode cX7_mark 29 = .ok (.ifCond .ne 9, 3) := by decide +kernel
theorem dX7_mark_32 : decode cX7_mark 32 = .ok (.aload_n 0, 1) := by decide +kernel
theorem dX7_mark_33 : decode cX7_mark 33 = .ok (.iconst 3, 1) := by decide +kernel
theorem dX7_mark_34 : decode cX7_mark 34 = .ok (.invokevirtual 118, 3) := by decide +kernel
theorem dX7_mark_37 : decode cX7_mark 37 = .ok (.ireturn, 1) := by decide +kernel
theorem dX7_mark_38 : decode cX7_mark 38 = .ok (.iload_n 2, 1) := by decide +kernel
theorem dX7_mark_39 : decode cX7_mark 39 = .ok (.tableswitch 58 1 4 #[29, 36, 43, 52], 29) := by decide +kernel
theorem dX7_mark_68 : decode cX7_mark 68 = .ok (.aload_n 0, 1) := by decide +kernel
theorem dX7_mark_69 : decode cX7_mark 69 = .ok (.iload_n 1, 1) := by decide +kernel
theorem dX7_mark_70 : decode cX7_mark 70 = .ok (.iconst 2, 1) := by decide +kernel
theorem dX7_mark_71 : decode cX7_mark 71 = .ok (.invokevirtual 173, 3) := by decide +kernel
theorem dX7_mark_74 : decode cX7_mark 74 = .ok (.ireturn, 1) := by decide +kernel
theorem dX7_mark_75 : decode cX7_mark 75 = .ok (.aload_n 0, 1) := by decide +kernel
theorem dX7_mark_76 : decode cX7_mark 76 = .ok (.iload_n 1, 1) := by decide +kernel
theorem dX7_mark_77 : decode cX7_mark 77 = .ok (.iconst 1, 1) := by decide +kernel
theorem dX7_mark_78 : decode cX7_mark 78 = .ok (.invokevirtual 173, 3) := by decide +kernel
theorem dX7_mark_81 : decode cX7_mark 81 = .ok (.ireturn, 1) := by decide +kernel
theorem dX7_mark_82 : decode cX7_mark 82 = .ok (.aload_n 0, 1) := by decide +kernel
theorem dX7_mark_83 : decode cX7_mark 83 = .ok (.iload_n 1, 1) := by decide +kernel
theorem dX7_mark_84 : decode cX7_mark 84 = .ok (.invokevirtual 176, 3) := by decide +kernel
theorem dX7_mark_87 : decode cX7_mark 87 = .ok (.invokestatic 179, 3) := by decide +kernel
theorem dX7_mark_90 : decode cX7_mark 90 = .ok (.ireturn, 1) := by decide +kernel
theorem dX7_mark_91 : decode cX7_mark 91 = .ok (.aload_n 0, 1) := by decide +kernel
theorem dX7_mark_92 : decode cX7_mark 92 = .ok (.iload_n 1, 1) := by decide +kernel
theorem dX7_mark_93 : decode cX7_mark 93 = .ok (.invokevirtual 184, 3) := by decide +kernel
theorem dX7_mark_96 : decode cX7_mark 96 = .ok (.ireturn, 1) := by decide +kernel
theorem dX7_mark_97 : decode cX7_mark 97 = .ok (.aload_n 0, 1) := by decide +kernel
theorem dX7_mark_98 : decode cX7_mark 98 = .ok (.iload_n 1, 1) := by decide +kernel
theorem dX7_mark_99 : decode cX7_mark 99 = .ok (.invokevirtual 187, 3) := by decide +kernel
theorem dX7_mark_102 : decode cX7_mark 102 = .ok (.ireturn, 1) := by decide +kernel
theorem dX7_tide_0 : decode cX7_tide 0 = .ok (.iload_n 1, 1) := by decide +kernel
theorem dX7_tide_1 : decode cX7_tide 1 = .ok (.ifCond .lt 8, 3) := by decide +kernel
theorem dX7_tide_4 : decode cX7_tide 4 = .ok (.iload_n 1, 1) := by decide +kernel
theorem dX7_tide_5 : decode cX7_tide 5 = .ok (.iconst 3, 1) := by decide +kernel
theorem dX7_tide_6 : decode cX7_tide 6 = .ok (.if_icmp .le 5, 3) := by decide +kernel
theorem dX7_tide_9 : decode cX7_tide 9 = .ok (.iconst (-1), 1) := by decide +kernel
theorem dX7_tide_10 : decode cX7_tide 10 = .ok (.ireturn, 1) := by decide +kernel
theorem dX7_tide_11 : decode cX7_tide 11 = .ok (.aload_n 0, 1) := by decide +kernel
theorem dX7_tide_12 : decode cX7_tide 12 = .ok (.getfield 77, 3) := by decide +kernel
theorem dX7_tide_15 : decode cX7_tide 15 = .ok (.getfield 190, 3) := by decide +kernel
theorem dX7_tide_18 : decode cX7_tide 18 = .ok (.ifCond .ne 6, 3) := by decide +kernel
theorem dX7_tide_21 : decode cX7_tide 21 = .ok (.bipush (-4), 2) := by decide +kernel
theorem dX7_tide_23 : decode cX7_tide 23 = .ok (.ireturn, 1) := by decide +kernel
theorem dX7_tide_24 : decode cX7_tide 24 = .ok (.aload_n 0, 1) := by decide +kernel
theorem dX7_tide_25 : decode cX7_tide 25 = .ok (.getfield 31, 3) := by decide +kernel
theorem dX7_tide_28 : decode cX7_tide 28 = .ok (.getfield 193, 3) := by decide +kernel
theorem dX7_tide_31 : decode cX7_tide 31 = .ok (.istore_n 2, 1) := by decide +kernel
theorem dX7_tide_32 : decode cX7_tide 32 = .ok (.aload_n 0, 1) := by decide +kernel
theorem dX7_tide_33 : decode cX7_tide 33 = .ok (.getfield 31, 3) := by decide +kernel
theorem dX7_tide_36 : decode cX7_tide 36 = .ok (.iload_n 1, 1) := by decide +kernel
theorem dX7_tide_37 : decode cX7_tide 37 = .ok (.putfield 193, 3) := by decide +kernel
theorem dX7_tide_40 : decode cX7_tide 40 = .ok (.aload_n 0, 1) := by decide +kernel
theorem dX7_tide_41 : decode cX7_tide 41 = .ok (.invokevirtual 84, 3) := by decide +kernel
theorem dX7_tide_44 : decode cX7_tide 44 = .ok (.iload_n 2, 1) := by decide +kernel
theorem dX7_tide_45 : decode cX7_tide 45 = .ok (.ireturn, 1) := by decide +kernel
theorem dX7_open_0 : decode cX7_open 0 = .ok (.aload_n 0, 1) := by decide +kernel
theorem dX7_open_1 : decode cX7_open 1 = .ok (.iload_n 1, 1) := by decide +kernel
theorem dX7_open_2 : decode cX7_open 2 = .ok (.invokevirtual 163, 3) := by decide +kernel
theorem dX7_open_5 : decode cX7_open 5 = .ok (.ifCond .eq 12, 3) := by decide +kernel
theorem dX7_open_8 : decode cX7_open 8 = .ok (.iload_n 2, 1) := by decide +kernel
theorem dX7_open_9 : decode cX7_open 9 = .ok (.ifCond .lt 8, 3) := by decide +kernel
theorem dX7_open_12 : decode cX7_open 12 = .ok (.iload_n 2, 1) := by decide +kernel
theorem dX7_open_13 : decode cX7_open 13 = .ok (.iconst 1, 1) := by decide +kernel
theorem dX7_open_14 : decode cX7_open 14 = .ok (.if_icmp .le 5, 3) := by decide +kernel
theorem dX7_open_17 : decode cX7_open 17 = .ok (.iconst (-1), 1) := by decide +kernel
theorem dX7_open_18 : decode cX7_open 18 = .ok (.ireturn, 1) := by decide +kernel
theorem dX7_open_19 : decode cX7_open 19 = .ok (.iload_n 2, 1) := by decide +kernel
theorem dX7_open_20 : decode cX7_open 20 = .ok (.ifCond .ne 21, 3) := by decide +kernel
theorem dX7_open_23 : decode cX7_open 23 = .ok (.aload_n 0, 1) := by decide +kernel
theorem dX7_open_24 : decode cX7_open 24 = .ok (.iload_n 1, 1) := by decide +kernel
theorem dX7_open_25 : decode cX7_open 25 = .ok (.iconst 2, 1) := by decide +kernel
theorem dX7_open_26 : decode cX7_open 26 = .ok (.invokevirtual 166, 3) := by decide +kernel
theorem dX7_open_29 : decode cX7_open 29 = .ok (.aload_n 0, 1) := by decide +kernel
theorem dX7_open_30 : decode cX7_open 30 = .ok (.iload_n 1, 1) := by decide +kernel
theorem dX7_open_31 : decode cX7_open 31 = .ok (.iconst 1, 1) := by decide +kernel
theorem dX7_open_32 : decode cX7_open 32 = .ok (.invokevirtual 166, 3) := by decide +kernel
theorem dX7_open_35 : decode cX7_open 35 = .ok (.if_icmp .le 6, 3) := by decide +kernel
theorem dX7_open_38 : decode cX7_open 38 = .ok (.bipush (-4), 2) := by decide +kernel
theorem dX7_open_40 : decode cX7_open 40 = .ok (.ireturn, 1) := by decide +kernel
theorem dX7_open_41 : decode cX7_open 41 = .ok (.aload_n 0, 1) := by decide +kernel
theorem dX7_open_42 : decode cX7_open 42 = .ok (.getfield 31, 3) := by decide +kernel
theorem dX7_open_45 : decode cX7_open 45 = .ok (.getfield 196, 3) := by decide +kernel
theorem dX7_open_48 : decode cX7_open 48 = .ok (.iload_n 1, 1) := by decide +kernel
theorem dX7_open_49 : decode cX7_open 49 = .ok (.ishr, 1) := by decide +kernel
theorem dX7_open_50 : decode cX7_open 50 = .ok (.iconst 1, 1) := by decide +kernel
theorem dX7_open_51 : decode cX7_open 51 = .ok (.iand, 1) := by decide +kernel
theorem dX7_open_52 : decode cX7_open 52 = .ok (.istore_n 3, 1) := by decide +kernel
theorem dX7_open_53 : decode cX7_open 53 = .ok (.aload_n 0, 1) := by decide +kernel
theorem dX7_open_54 : decode cX7_open 54 = .ok (.getfield 31, 3) := by decide +kernel
theorem dX7_open_57 : decode cX7_open 57 = .ok (.aload_n 0, 1) := by decide +kernel
theorem dX7_open_58 : decode cX7_open 58 = .ok (.getfield 31, 3) := by decide +kernel
theorem dX7_open_61 : decode cX7_open 61 = .ok (.getfield 196, 3) := by decide +kernel
theorem dX7_open_64 : decode cX7_open 64 = .ok (.iconst 1, 1) := by decide +kernel
theorem dX7_open_65 : decode cX7_open 65 = .ok (.iload_n 1, 1) := by decide +kernel
theorem dX7_open_66 : decode cX7_open 66 = .ok (.ishl, 1) := by decide +kernel
theorem dX7_open_67 : decode cX7_open 67 = .ok (.iconst (-1), 1) := by decide +kernel
theorem dX7_open_68 : decode cX7_open 68 = .ok (.ixor, 1) := by decide +kernel
theorem dX7_open_69 : decode cX7_open 69 = .ok (.iand, 1) := by decide +kernel
theorem dX7_open_70 : decode cX7_open 70 = .ok (.iload_n 2, 1) := by decide +kernel
theorem dX7_open_71 : decode cX7_open 71 = .ok (.iload_n 1, 1) := by decide +kernel
theorem dX7_open_72 : decode cX7_open 72 = .ok (.ishl, 1) := by decide +kernel
theorem dX7_open_73 : decode cX7_open 73 = .ok (.ior, 1) := by decide +kernel
theorem dX7_open_74 : decode cX7_open 74 = .ok (.putfield 196, 3) := by decide +kernel
theorem dX7_open_77 : decode cX7_open 77 = .ok (.aload_n 0, 1) := by decide +kernel
theorem dX7_open_78 : decode cX7_open 78 = .ok (.invokevirtual 84, 3) := by decide +kernel
theorem dX7_open_81 : decode cX7_open 81 = .ok (.iload_n 3, 1) := by decide +kernel
theorem dX7_open_82 : decode cX7_open 82 = .ok (.ireturn, 1) := by decide +kernel
theorem dX7_step_0 : decode cX7_step 0 = .ok (.aload_n 0, 1) := by decide +kernel
theorem dX7_step_1 : decode cX7_step 1 = .ok (.iload_n 1, 1) := by decide +kernel
theorem dX7_step_2 : decode cX7_step 2 = .ok (.invokevirtual 157, 3) := by decide +kernel
theorem dX7_step_5 : decode cX7_step 5 = .ok (.ifCond .eq 12, 3) := by decide +kernel
theorem dX7_step_8 : decode cX7_step 8 = .ok (.iload_n 2, 1) := by decide +kernel
theorem dX7_step_9 : decode cX7_step 9 = .ok (.ifCond .lt 8, 3) := by decide +kernel
theorem dX7_step_12 : decode cX7_step 12 = .ok (.iload_n 2, 1) := by decide +kernel
theorem dX7_step_13 : decode cX7_step 13 = .ok (.iconst 4, 1) := by decide +kernel
theorem dX7_step_14 : decode cX7_step 14 = .ok (.if_icmp .lt 5, 3) := by decide +kernel
theorem dX7_step_17 : decode cX7_step 17 = .ok (.iconst (-1), 1) := by decide +kernel
theorem dX7_step_18 : decode cX7_step 18 = .ok (.ireturn, 1) := by decide +kernel
theorem dX7_step_19 : decode cX7_step 19 = .ok (.aload_n 0, 1) := by decide +kernel
theorem dX7_step_20 : decode cX7_step 20 = .ok (.getfield 42, 3) := by decide +kernel
theorem dX7_step_23 : decode cX7_step 23 = .ok (.aload_n 0, 1) := by decide +kernel
theorem dX7_step_24 : decode cX7_step 24 = .ok (.getfield 31, 3) := by decide +kernel
theorem dX7_step_27 : decode cX7_step 27 = .ok (.getfield 199, 3) := by decide +kernel
theorem dX7_step_30 : decode cX7_step 30 = .ok (.iload_n 1, 1) := by decide +kernel
theorem dX7_step_31 : decode cX7_step 31 = .ok (.iload_n 2, 1) := by decide +kernel
theorem dX7_step_32 : decode cX7_step 32 = .ok (.invokevirtual 202, 3) := by decide +kernel
theorem dX7_step_35 : decode cX7_step 35 = .ok (.istore_n 3, 1) := by decide +kernel
theorem dX7_step_36 : decode cX7_step 36 = .ok (.iload_n 3, 1) := by decide +kernel
theorem dX7_step_37 : decode cX7_step 37 = .ok (.bipush (-9), 2) := by decide +kernel
theorem dX7_step_39 : decode cX7_step 39 = .ok (.if_icmp .ne 6, 3) := by decide +kernel
theorem dX7_step_42 : decode cX7_step 42 = .ok (.bipush (-4), 2) := by decide +kernel
theorem dX7_step_44 : decode cX7_step 44 = .ok (.ireturn, 1) := by decide +kernel
theorem dX7_step_45 : decode cX7_step 45 = .ok (.aload_n 0, 1) := by decide +kernel
theorem dX7_step_46 : decode cX7_step 46 = .ok (.getfield 31, 3) := by decide +kernel
theorem dX7_step_49 : decode cX7_step 49 = .ok (.getfield 206, 3) := by decide +kernel
theorem dX7_step_52 : decode cX7_step 52 = .ok (.bipush 60, 2) := by decide +kernel
theorem dX7_step_54 : decode cX7_step 54 = .ok (.if_icmp .lt 6, 3) := by decide +kernel
theorem dX7_step_57 : decode cX7_step 57 = .ok (.bipush (-2), 2) := by decide +kernel
theorem dX7_step_59 : decode cX7_step 59 = .ok (.ireturn, 1) := by decide +kernel
theorem dX7_step_60 : decode cX7_step 60 = .ok (.aload_n 0, 1) := by decide +kernel
theorem dX7_step_61 : decode cX7_step 61 = .ok (.getfield 31, 3) := by decide +kernel
theorem dX7_step_64 : decode cX7_step 64 = .ok (.iload_n 1, 1) := by decide +kernel
theorem dX7_step_65 : decode cX7_step 65 = .ok (.iload_n 2, 1) := by decide +kernel
theorem dX7_step_66 : decode cX7_step 66 = .ok (.invokestatic 209, 3) := by decide +kernel
theorem dX7_step_69 : decode cX7_step 69 = .ok (.iload_n 3, 1) := by decide +kernel
theorem dX7_step_70 : decode cX7_step 70 = .ok (.invokevirtual 212, 3) := by decide +kernel
theorem dX7_step_73 : decode cX7_step 73 = .ok (.aload_n 0, 1) := by decide +kernel
theorem dX7_step_74 : decode cX7_step 74 = .ok (.getfield 31, 3) := by decide +kernel
theorem dX7_step_77 : decode cX7_step 77 = .ok (.getfield 199, 3) := by decide +kernel
theorem dX7_step_80 : decode cX7_step 80 = .ok (.iload_n 1, 1) := by decide +kernel
theorem dX7_step_81 : decode cX7_step 81 = .ok (.invokestatic 216, 3) := by decide +kernel
theorem dX7_step_84 : decode cX7_step 84 = .ok (.ireturn, 1) := by decide +kernel
theorem dX7_can_0 : decode cX7_can 0 = .ok (.aload_n 0, 1) := by decide +kernel
theorem dX7_can_1 : decode cX7_can 1 = .ok (.iload_n 1, 1) := by decide +kernel
theorem dX7_can_2 : decode cX7_can 2 = .ok (.invokevirtual 157, 3) := by decide +kernel
theorem dX7_can_5 : decode cX7_can 5 = .ok (.ifCond .eq 11, 3) := by decide +kernel
theorem dX7_can_8 : decode cX7_can 8 = .ok (.aload_n 0, 1) := by decide +kernel
theorem dX7_can_9 : decode cX7_can 9 = .ok (.iload_n 1, 1) := by decide +kernel
theorem dX7_can_10 : decode cX7_can 10 = .ok (.invokevirtual 176, 3) := by decide +kernel
theorem dX7_can_13 : decode cX7_can 13 = .ok (.goto 4, 3) := by decide +kernel
theorem dX7_can_16 : decode cX7_can 16 = .ok (.iconst (-1), 1) := by decide +kernel
theorem dX7_can_17 : decode cX7_can 17 = .ok (.ireturn, 1) := by decide +kernel
theorem dX7_undo_0 : decode cX7_undo 0 = .ok (.iload_n 1, 1) := by decide +kernel
theorem dX7_undo_1 : decode cX7_undo 1 = .ok (.ifCond .lt 14, 3) := by decide +kernel
theorem dX7_undo_4 : decode cX7_undo 4 = .ok (.iload_n 1, 1) := by decide +kernel
theorem dX7_undo_5 : decode cX7_undo 5 = .ok (.aload_n 0, 1) := by decide +kernel
theorem dX7_undo_6 : decode cX7_undo 6 = .ok (.getfield 31, 3) := by decide +kernel
theorem dX7_undo_9 : decode cX7_undo 9 = .ok (.getfield 206, 3) := by decide +kernel
theorem dX7_undo_12 : decode cX7_undo 12 = .ok (.if_icmp .le 5, 3) := by decide +kernel
theorem dX7_undo_15 : decode cX7_undo 15 = .ok (.iconst (-1), 1) := by decide +kernel
theorem dX7_undo_16 : decode cX7_undo 16 = .ok (.ireturn, 1) := by decide +kernel
theorem dX7_undo_17 : decode cX7_undo 17 = .ok (.aload_n 0, 1) := by decide +kernel
theorem dX7_undo_18 : decode cX7_undo 18 = .ok (.getfield 31, 3) := by decide +kernel
theorem dX7_undo_21 : decode cX7_undo 21 = .ok (.getfield 206, 3) := by decide +kernel
theorem dX7_undo_24 : decode cX7_undo 24 = .ok (.iload_n 1, 1) := by decide +kernel
theorem dX7_undo_25 : decode cX7_undo 25 = .ok (.isub, 1) := by decide +kernel
theorem dX7_undo_26 : decode cX7_undo 26 = .ok (.istore_n 2, 1) := by decide +kernel
theorem dX7_undo_27 : decode cX7_undo 27 = .ok (.aload_n 0, 1) := by decide +kernel
theorem dX7_undo_28 : decode cX7_undo 28 = .ok (.getfield 31, 3) := by decide +kernel
theorem dX7_undo_31 : decode cX7_undo 31 = .ok (.iload_n 1, 1) := by decide +kernel
theorem dX7_undo_32 : decode cX7_undo 32 = .ok (.invokevirtual 219, 3) := by decide +kernel
theorem dX7_undo_35 : decode cX7_undo 35 = .ok (.iload_n 2, 1) := by decide +kernel
theorem dX7_undo_36 : decode cX7_undo 36 = .ok (.ireturn, 1) := by decide +kernel
theorem dX7_who_0 : decode cX7_who 0 = .ok (.aload_n 0, 1) := by decide +kernel
theorem dX7_who_1 : decode cX7_who 1 = .ok (.iload_n 1, 1) := by decide +kernel
theorem dX7_who_2 : decode cX7_who 2 = .ok (.invokevirtual 222, 3) := by decide +kernel
theorem dX7_who_5 : decode cX7_who 5 = .ok (.ifCond .ne 5, 3) := by decide +kernel
theorem dX7_who_8 : decode cX7_who 8 = .ok (.iconst (-1), 1) := by decide +kernel
theorem dX7_who_9 : decode cX7_who 9 = .ok (.ireturn, 1) := by decide +kernel
theorem dX7_who_10 : decode cX7_who 10 = .ok (.iconst 0, 1) := by decide +kernel
theorem dX7_who_11 : decode cX7_who 11 = .ok (.istore_n 2, 1) := by decide +kernel
theorem dX7_who_12 : decode cX7_who 12 = .ok (.iload_n 2, 1) := by decide +kernel
theorem dX7_who_13 : decode cX7_who 13 = .ok (.aload_n 0, 1) := by decide +kernel
theorem dX7_who_14 : decode cX7_who 14 = .ok (.getfield 77, 3) := by decide +kernel
theorem dX7_who_17 : decode cX7_who 17 = .ok (.getfield 154, 3) := by decide +kernel
theorem dX7_who_20 : decode cX7_who 20 = .ok (.if_icmp .ge 26, 3) := by decide +kernel
theorem dX7_who_23 : decode cX7_who 23 = .ok (.aload_n 0, 1) := by decide +kernel
theorem dX7_who_24 : decode cX7_who 24 = .ok (.getfield 31, 3) := by decide +kernel
theorem dX7_who_27 : decode cX7_who 27 = .ok (.getfield 199, 3) := by decide +kernel
theorem dX7_who_30 : decode cX7_who 30 = .ok (.iload_n 2, 1) := by decide +kernel
theorem dX7_who_31 : decode cX7_who 31 = .ok (.invokestatic 216, 3) := by decide +kernel
theorem dX7_who_34 : decode cX7_who 34 = .ok (.iload_n 1, 1) := by decide +kernel
theorem dX7_who_35 : decode cX7_who 35 = .ok (.if_icmp .ne 5, 3) := by decide +kernel
theorem dX7_who_38 : decode cX7_who 38 = .ok (.iload_n 2, 1) := by decide +kernel
theorem dX7_who_39 : decode cX7_who 39 = .ok (.ireturn, 1) := by decide +kernel
theorem dX7_who_40 : decode cX7_who 40 = .ok (.iinc 2 1, 3) := by decide +kernel
theorem dX7_who_43 : decode cX7_who 43 = .ok (.goto (-31), 3) := by decide +kernel
theorem dX7_who_46 : decode cX7_who 46 = .ok (.bipush (-9), 2) := by decide +kernel
theorem dX7_who_48 : decode cX7_who 48 = .ok (.ireturn, 1) := by decide +kernel
theorem dX7_keep_0 : decode cX7_keep 0 = .ok (.iload_n 1, 1) := by decide +kernel
