theorem dX6_solved_7 : decode M_X6_solved.2.1 7 = .ok (.iload_n 2, 1) := by decide +kernel
theorem dX6_solved_8 : decode M_X6_solved.2.1 8 = .ok (.invokestatic 92, 3) := by decide +kernel
theorem dX6_solved_11 : decode M_X6_solved.2.1 11 = .ok (.ifCond .ne 5, 3) := by decide +kernel
theorem dX6_solved_14 : decode M_X6_solved.2.1 14 = .ok (.lconst 0, 1) := by decide +kernel
theorem dX6_solved_15 : decode M_X6_solved.2.1 15 = .ok (.lreturn, 1) := by decide +kernel
theorem dX6_solved_16 : decode M_X6_solved.2.1 16 = .ok (.aload_n 0, 1) := by decide +kernel
theorem dX6_solved_17 : decode M_X6_solved.2.1 17 = .ok (.getfield 48, 3) := by decide +kernel
theorem dX6_solved_20 : decode M_X6_solved.2.1 20 = .ok (.bipush 9, 2) := by decide +kernel
theorem dX6_solved_22 : decode M_X6_solved.2.1 22 = .ok (.iload_n 1, 1) := by decide +kernel
theorem dX6_solved_23 : decode M_X6_solved.2.1 23 = .ok (.iconst 1, 1) := by decide +kernel
theorem dX6_solved_24 : decode M_X6_solved.2.1 24 = .ok (.iload_n 2, 1) := by decide +kernel
theorem dX6_solved_25 : decode M_X6_solved.2.1 25 = .ok (.ishl, 1) := by decide +kernel
theorem dX6_solved_26 : decode M_X6_solved.2.1 26 = .ok (.iconst 1, 1) := by decide +kernel
theorem dX6_solved_27 : decode M_X6_solved.2.1 27 = .ok (.isub, 1) := by decide +kernel
theorem dX6_solved_28 : decode M_X6_solved.2.1 28 = .ok (.iand, 1) := by decide +kernel
theorem dX6_solved_29 : decode M_X6_solved.2.1 29 = .ok (.invokestatic 125, 3) := by decide +kernel
theorem dX6_solved_32 : decode M_X6_solved.2.1 32 = .ok (.imul, 1) := by decide +kernel
theorem dX6_solved_33 : decode M_X6_solved.2.1 33 = .ok (.aload_n 0, 1) := by decide +kernel
theorem dX6_solved_34 : decode M_X6_solved.2.1 34 = .ok (.getfield 97, 3) := by decide +kernel
theorem dX6_solved_37 : decode M_X6_solved.2.1 37 = .ok (.iadd, 1) := by decide +kernel
theorem dX6_solved_38 : decode M_X6_solved.2.1 38 = .ok (.laload, 1) := by decide +kernel
theorem dX6_solved_39 : decode M_X6_solved.2.1 39 = .ok (.lstore_n 3, 1) := by decide +kernel
theorem dX6_solved_40 : decode M_X6_solved.2.1 40 = .ok (.aload_n 0, 1) := by decide +kernel
theorem dX6_solved_41 : decode M_X6_solved.2.1 41 = .ok (.invokevirtual 121, 3) := by decide +kernel
theorem dX6_solved_44 : decode M_X6_solved.2.1 44 = .ok (.lconst 0, 1) := by decide +kernel
theorem dX6_solved_45 : decode M_X6_solved.2.1 45 = .ok (.lcmp, 1) := by decide +kernel
theorem dX6_solved_46 : decode M_X6_solved.2.1 46 = .ok (.ifCond .le 7, 3) := by decide +kernel
theorem dX6_solved_49 : decode M_X6_solved.2.1 49 = .ok (.lload_n 3, 1) := by decide +kernel
theorem dX6_solved_50 : decode M_X6_solved.2.1 50 = .ok (.goto 5, 3) := by decide +kernel
theorem dX6_solved_53 : decode M_X6_solved.2.1 53 = .ok (.lload_n 3, 1) := by decide +kernel
theorem dX6_solved_54 : decode M_X6_solved.2.1 54 = .ok (.lneg, 1) := by decide +kernel
theorem dX6_solved_55 : decode M_X6_solved.2.1 55 = .ok (.lreturn, 1) := by decide +kernel
theorem dX6_meets_0 : decode M_X6_meets.2.1 0 = .ok (.aload_n 0, 1) := by decide +kernel
theorem dX6_meets_1 : decode M_X6_meets.2.1 1 = .ok (.getfield 128, 3) := by decide +kernel
theorem dX6_meets_4 : decode M_X6_meets.2.1 4 = .ok (.ifCond .eq 19, 3) := by decide +kernel
theorem dX6_meets_7 : decode M_X6_meets.2.1 7 = .ok (.lload_n 1, 1) := by decide +kernel
theorem dX6_meets_8 : decode M_X6_meets.2.1 8 = .ok (.aload_n 0, 1) := by decide +kernel
theorem dX6_meets_9 : decode M_X6_meets.2.1 9 = .ok (.getfield 132, 3) := by decide +kernel
theorem dX6_meets_12 : decode M_X6_meets.2.1 12 = .ok (.lmul, 1) := by decide +kernel
theorem dX6_meets_13 : decode M_X6_meets.2.1 13 = .ok (.aload_n 0, 1) := by decide +kernel
theorem dX6_meets_14 : decode M_X6_meets.2.1 14 = .ok (.getfield 136, 3) := by decide +kernel
theorem dX6_meets_17 : decode M_X6_meets.2.1 17 = .ok (.lload_n 3, 1) := by decide +kernel
theorem dX6_meets_18 : decode M_X6_meets.2.1 18 = .ok (.lmul, 1) := by decide +kernel
theorem dX6_meets_19 : decode M_X6_meets.2.1 19 = .ok (.lcmp, 1) := by decide +kernel
theorem dX6_meets_20 : decode M_X6_meets.2.1 20 = .ok (.ifCond .ge 13, 3) := by decide +kernel
theorem dX6_meets_23 : decode M_X6_meets.2.1 23 = .ok (.aload_n 0, 1) := by decide +kernel
theorem dX6_meets_24 : decode M_X6_meets.2.1 24 = .ok (.lload_n 1, 1) := by decide +kernel
theorem dX6_meets_25 : decode M_X6_meets.2.1 25 = .ok (.putfield 136, 3) := by decide +kernel
theorem dX6_meets_28 : decode M_X6_meets.2.1 28 = .ok (.aload_n 0, 1) := by decide +kernel
theorem dX6_meets_29 : decode M_X6_meets.2.1 29 = .ok (.lload_n 3, 1) := by decide +kernel
theorem dX6_meets_30 : decode M_X6_meets.2.1 30 = .ok (.putfield 132, 3) := by decide +kernel
theorem dX6_meets_33 : decode M_X6_meets.2.1 33 = .ok (.aload_n 0, 1) := by decide +kernel
theorem dX6_meets_34 : decode M_X6_meets.2.1 34 = .ok (.getfield 128, 3) := by decide +kernel
theorem dX6_meets_37 : decode M_X6_meets.2.1 37 = .ok (.ifCond .eq 19, 3) := by decide +kernel
theorem dX6_meets_40 : decode M_X6_meets.2.1 40 = .ok (.lload_n 1, 1) := by decide +kernel
theorem dX6_meets_41 : decode M_X6_meets.2.1 41 = .ok (.aload_n 0, 1) := by decide +kernel
theorem dX6_meets_42 : decode M_X6_meets.2.1 42 = .ok (.getfield 139, 3) := by decide +kernel
theorem dX6_meets_45 : decode M_X6_meets.2.1 45 = .ok (.lmul, 1) := by decide +kernel
theorem dX6_meets_46 : decode M_X6_meets.2.1 46 = .ok (.aload_n 0, 1) := by decide +kernel
theorem dX6_meets_47 : decode M_X6_meets.2.1 47 = .ok (.getfield 142, 3) := by decide +kernel
theorem dX6_meets_50 : decode M_X6_meets.2.1 50 = .ok (.lload_n 3, 1) := by decide +kernel
theorem dX6_meets_51 : decode M_X6_meets.2.1 51 = .ok (.lmul, 1) := by decide +kernel
theorem dX6_meets_52 : decode M_X6_meets.2.1 52 = .ok (.lcmp, 1) := by decide +kernel
theorem dX6_meets_53 : decode M_X6_meets.2.1 53 = .ok (.ifCond .le 13, 3) := by decide +kernel
theorem dX6_meets_56 : decode M_X6_meets.2.1 56 = .ok (.aload_n 0, 1) := by decide +kernel
theorem dX6_meets_57 : decode M_X6_meets.2.1 57 = .ok (.lload_n 1, 1) := by decide +kernel
theorem dX6_meets_58 : decode M_X6_meets.2.1 58 = .ok (.putfield 142, 3) := by decide +kernel
theorem dX6_meets_61 : decode M_X6_meets.2.1 61 = .ok (.aload_n 0, 1) := by decide +kernel
theorem dX6_meets_62 : decode M_X6_meets.2.1 62 = .ok (.lload_n 3, 1) := by decide +kernel
theorem dX6_meets_63 : decode M_X6_meets.2.1 63 = .ok (.putfield 139, 3) := by decide +kernel
theorem dX6_meets_66 : decode M_X6_meets.2.1 66 = .ok (.aload_n 0, 1) := by decide +kernel
theorem dX6_meets_67 : decode M_X6_meets.2.1 67 = .ok (.iconst 1, 1) := by decide +kernel
theorem dX6_meets_68 : decode M_X6_meets.2.1 68 = .ok (.putfield 128, 3) := by decide +kernel
theorem dX6_meets_71 : decode M_X6_meets.2.1 71 = .ok (.return_, 1) := by decide +kernel
theorem dX6_seeks_0 : decode M_X6_seeks.2.1 0 = .ok (.aload_n 0, 1) := by decide +kernel
theorem dX6_seeks_1 : decode M_X6_seeks.2.1 1 = .ok (.iconst 0, 1) := by decide +kernel
theorem dX6_seeks_2 : decode M_X6_seeks.2.1 2 = .ok (.putfield 128, 3) := by decide +kernel
theorem dX6_seeks_5 : decode M_X6_seeks.2.1 5 = .ok (.iconst 0, 1) := by decide +kernel
theorem dX6_seeks_6 : decode M_X6_seeks.2.1 6 = .ok (.istore_n 2, 1) := by decide +kernel
theorem dX6_seeks_7 : decode M_X6_seeks.2.1 7 = .ok (.iload_n 2, 1) := by decide +kernel
theorem dX6_seeks_8 : decode M_X6_seeks.2.1 8 = .ok (.iconst 1, 1) := by decide +kernel
theorem dX6_seeks_9 : decode M_X6_seeks.2.1 9 = .ok (.aload_n 0, 1) := by decide +kernel
theorem dX6_seeks_10 : decode M_X6_seeks.2.1 10 = .ok (.getfield 104, 3) := by decide +kernel
theorem dX6_seeks_13 : decode M_X6_seeks.2.1 13 = .ok (.ishl, 1) := by decide +kernel
theorem dX6_seeks_14 : decode M_X6_seeks.2.1 14 = .ok (.if_icmp .ge 62, 3) := by decide +kernel
theorem dX6_seeks_17 : decode M_X6_seeks.2.1 17 = .ok (.iload_n 2, 1) := by decide +kernel
theorem dX6_seeks_18 : decode M_X6_seeks.2.1 18 = .ok (.invokestatic 125, 3) := by decide +kernel
theorem dX6_seeks_21 : decode M_X6_seeks.2.1 21 = .ok (.aload_n 0, 1) := by decide +kernel
theorem dX6_seeks_22 : decode M_X6_seeks.2.1 22 = .ok (.getfield 97, 3) := by decide +kernel
theorem dX6_seeks_25 : decode M_X6_seeks.2.1 25 = .ok (.if_icmp .ne 45, 3) := by decide +kernel
theorem dX6_seeks_28 : decode M_X6_seeks.2.1 28 = .ok (.aload_n 0, 1) := by decide +kernel
theorem dX6_seeks_29 : decode M_X6_seeks.2.1 29 = .ok (.iload_n 2, 1) := by decide +kernel
theorem dX6_seeks_30 : decode M_X6_seeks.2.1 30 = .ok (.invokevirtual 145, 3) := by decide +kernel
theorem dX6_seeks_33 : decode M_X6_seeks.2.1 33 = .ok (.ifCond .eq 37, 3) := by decide +kernel
theorem dX6_seeks_36 : decode M_X6_seeks.2.1 36 = .ok (.aload_n 0, 1) := by decide +kernel
theorem dX6_seeks_37 : decode M_X6_seeks.2.1 37 = .ok (.invokevirtual 149, 3) := by decide +kernel
theorem dX6_seeks_40 : decode M_X6_seeks.2.1 40 = .ok (.ifCond .eq 30, 3) := by decide +kernel
theorem dX6_seeks_43 : decode M_X6_seeks.2.1 43 = .ok (.aload_n 0, 1) := by decide +kernel
theorem dX6_seeks_44 : decode M_X6_seeks.2.1 44 = .ok (.invokevirtual 121, 3) := by decide +kernel
theorem dX6_seeks_47 : decode M_X6_seeks.2.1 47 = .ok (.lstore_n 3, 1) := by decide +kernel
theorem dX6_seeks_48 : decode M_X6_seeks.2.1 48 = .ok (.aload_n 0, 1) := by decide +kernel
theorem dX6_seeks_49 : decode M_X6_seeks.2.1 49 = .ok (.aload_n 0, 1) := by decide +kernel
theorem dX6_seeks_50 : decode M_X6_seeks.2.1 50 = .ok (.iload_n 2, 1) := by decide +kernel
theorem dX6_seeks_51 : decode M_X6_seeks.2.1 51 = .ok (.iload_n 1, 1) := by decide +kernel
theorem dX6_seeks_52 : decode M_X6_seeks.2.1 52 = .ok (.invokevirtual 153, 3) := by decide +kernel
theorem dX6_seeks_55 : decode M_X6_seeks.2.1 55 = .ok (.lload_n 3, 1) := by decide +kernel
theorem dX6_seeks_56 : decode M_X6_seeks.2.1 56 = .ok (.lconst 0, 1) := by decide +kernel
theorem dX6_seeks_57 : decode M_X6_seeks.2.1 57 = .ok (.lcmp, 1) := by decide +kernel
theorem dX6_seeks_58 : decode M_X6_seeks.2.1 58 = .ok (.ifCond .ge 8, 3) := by decide +kernel
theorem dX6_seeks_61 : decode M_X6_seeks.2.1 61 = .ok (.lload_n 3, 1) := by decide +kernel
theorem dX6_seeks_62 : decode M_X6_seeks.2.1 62 = .ok (.lneg, 1) := by decide +kernel
theorem dX6_seeks_63 : decode M_X6_seeks.2.1 63 = .ok (.goto 4, 3) := by decide +kernel
theorem dX6_seeks_66 : decode M_X6_seeks.2.1 66 = .ok (.lload_n 3, 1) := by decide +kernel
theorem dX6_seeks_67 : decode M_X6_seeks.2.1 67 = .ok (.invokevirtual 157, 3) := by decide +kernel
theorem dX6_seeks_70 : decode M_X6_seeks.2.1 70 = .ok (.iinc 2 1, 3) := by decide +kernel
theorem dX6_seeks_73 : decode M_X6_seeks.2.1 73 = .ok (.goto (-66), 3) := by decide +kernel
theorem dX6_seeks_76 : decode M_X6_seeks.2.1 76 = .ok (.return_, 1) := by decide +kernel
theorem dX6_all_0 : decode M_X6_all.2.1 0 = .ok (.iconst 1, 1) := by decide +kernel
theorem dX6_all_1 : decode M_X6_all.2.1 1 = .ok (.aload_n 0, 1) := by decide +kernel
theorem dX6_all_2 : decode M_X6_all.2.1 2 = .ok (.invokevirtual 84, 3) := by decide +kernel
theorem dX6_all_5 : decode M_X6_all.2.1 5 = .ok (.ishl, 1) := by decide +kernel
theorem dX6_all_6 : decode M_X6_all.2.1 6 = .ok (.iconst 1, 1) := by decide +kernel
theorem dX6_all_7 : decode M_X6_all.2.1 7 = .ok (.isub, 1) := by decide +kernel
theorem dX6_all_8 : decode M_X6_all.2.1 8 = .ok (.ireturn, 1) := by decide +kernel
theorem dX6_canBalance_0 : decode M_X6_canBalance.2.1 0 = .ok (.aload_n 0, 1) := by decide +kernel
theorem dX6_canBalance_1 : decode M_X6_canBalance.2.1 1 = .ok (.invokevirtual 161, 3) := by decide +kernel
theorem dX6_canBalance_4 : decode M_X6_canBalance.2.1 4 = .ok (.aload_n 0, 1) := by decide +kernel
theorem dX6_canBalance_5 : decode M_X6_canBalance.2.1 5 = .ok (.iload_n 1, 1) := by decide +kernel
theorem dX6_canBalance_6 : decode M_X6_canBalance.2.1 6 = .ok (.bipush (-9), 2) := by decide +kernel
theorem dX6_canBalance_8 : decode M_X6_canBalance.2.1 8 = .ok (.iconst 0, 1) := by decide +kernel
theorem dX6_canBalance_9 : decode M_X6_canBalance.2.1 9 = .ok (.iconst 0, 1) := by decide +kernel
theorem dX6_canBalance_10 : decode M_X6_canBalance.2.1 10 = .ok (.invokevirtual 164, 3) := by decide +kernel
theorem dX6_canBalance_13 : decode M_X6_canBalance.2.1 13 = .ok (.aload_n 0, 1) := by decide +kernel
theorem dX6_canBalance_14 : decode M_X6_canBalance.2.1 14 = .ok (.bipush (-9), 2) := by decide +kernel
theorem dX6_canBalance_16 : decode M_X6_canBalance.2.1 16 = .ok (.invokevirtual 168, 3) := by decide +kernel
theorem dX6_canBalance_19 : decode M_X6_canBalance.2.1 19 = .ok (.aload_n 0, 1) := by decide +kernel
theorem dX6_canBalance_20 : decode M_X6_canBalance.2.1 20 = .ok (.getfield 128, 3) := by decide +kernel
theorem dX6_canBalance_23 : decode M_X6_canBalance.2.1 23 = .ok (.ireturn, 1) := by decide +kernel
theorem dX6_isResting_0 : decode M_X6_isResting.2.1 0 = .ok (.aload_n 0, 1) := by decide +kernel
theorem dX6_isResting_1 : decode M_X6_isResting.2.1 1 = .ok (.aload_n 0, 1) := by decide +kernel
theorem dX6_isResting_2 : decode M_X6_isResting.2.1 2 = .ok (.invokevirtual 171, 3) := by decide +kernel
theorem dX6_isResting_5 : decode M_X6_isResting.2.1 5 = .ok (.invokevirtual 174, 3) := by decide +kernel
theorem dX6_isResting_8 : decode M_X6_isResting.2.1 8 = .ok (.ireturn, 1) := by decide +kernel
theorem dX6_common_0 : decode M_X6_common.2.1 0 = .ok (.lload_n 0, 1) := by decide +kernel
theorem dX6_common_1 : decode M_X6_common.2.1 1 = .ok (.lstore 4, 2) := by decide +kernel
theorem dX6_common_3 : decode M_X6_common.2.1 3 = .ok (.lload_n 2, 1) := by decide +kernel
theorem dX6_common_4 : decode M_X6_common.2.1 4 = .ok (.lstore 6, 2) := by decide +kernel
theorem dX6_common_6 : decode M_X6_common.2.1 6 = .ok (.lload 6, 2) := by decide +kernel
theorem dX6_common_8 : decode M_X6_common.2.1 8 = .ok (.lconst 0, 1) := by decide +kernel
theorem dX6_common_9 : decode M_X6_common.2.1 9 = .ok (.lcmp, 1) := by decide +kernel
theorem dX6_common_10 : decode M_X6_common.2.1 10 = .ok (.ifCond .eq 21, 3) := by decide +kernel
theorem dX6_common_13 : decode M_X6_common.2.1 13 = .ok (.lload 4, 2) := by decide +kernel
theorem dX6_common_15 : decode M_X6_common.2.1 15 = .ok (.lload 6, 2) := by decide +kernel
theorem dX6_common_17 : decode M_X6_common.2.1 17 = .ok (.lrem, 1) := by decide +kernel
theorem dX6_common_18 : decode M_X6_common.2.1 18 = .ok (.lstore 8, 2) := by decide +kernel
theorem dX6_common_20 : decode M_X6_common.2.1 20 = .ok (.lload 6, 2) := by decide +kernel
theorem dX6_common_22 : decode M_X6_common.2.1 22 = .ok (.lstore 4, 2) := by decide +kernel
theorem dX6_common_24 : decode M_X6_common.2.1 24 = .ok (.lload 8, 2) := by decide +kernel
theorem dX6_common_26 : decode M_X6_common.2.1 26 = .ok (.lstore 6, 2) := by decide +kernel
theorem dX6_common_28 : decode M_X6_common.2.1 28 = .ok (.goto (-22), 3) := by decide +kernel
theorem dX6_common_31 : decode M_X6_common.2.1 31 = .ok (.lload 4, 2) := by decide +kernel
theorem dX6_common_33 : decode M_X6_common.2.1 33 = .ok (.lreturn, 1) := by decide +kernel
theorem dX6_told_0 : decode M_X6_told.2.1 0 = .ok (.iload_n 1, 1) := by decide +kernel
theorem dX6_told_1 : decode M_X6_told.2.1 1 = .ok (.iconst 2, 1) := by decide +kernel
theorem dX6_told_2 : decode M_X6_told.2.1 2 = .ok (.if_icmp .ge 10, 3) := by decide +kernel
theorem dX6_told_5 : decode M_X6_told.2.1 5 = .ok (.aload_n 0, 1) := by decide +kernel
theorem dX6_told_6 : decode M_X6_told.2.1 6 = .ok (.getfield 136, 3) := by decide +kernel
theorem dX6_told_9 : decode M_X6_told.2.1 9 = .ok (.goto 7, 3) := by decide +kernel
theorem dX6_told_12 : decode M_X6_told.2.1 12 = .ok (.aload_n 0, 1) := by decide +kernel
theorem dX6_told_13 : decode M_X6_told.2.1 13 = .ok (.getfield 142, 3) := by decide +kernel
theorem dX6_told_16 : decode M_X6_told.2.1 16 = .ok (.lstore_n 2, 1) := by decide +kernel
theorem dX6_told_17 : decode M_X6_told.2.1 17 = .ok (.iload_n 1, 1) := by decide +kernel
theorem dX6_told_18 : decode M_X6_told.2.1 18 = .ok (.iconst 2, 1) := by decide +kernel
theorem dX6_told_19 : decode M_X6_told.2.1 19 = .ok (.if_icmp .ge 10, 3) := by decide +kernel
theorem dX6_told_22 : decode M_X6_told.2.1 22 = .ok (.aload_n 0, 1) := by decide +kernel
theorem dX6_told_23 : decode M_X6_told.2.1 23 = .ok (.getfield 132, 3) := by decide +kernel
theorem dX6_told_26 : decode M_X6_told.2.1 26 = .ok (.goto 7, 3) := by decide +kernel
theorem dX6_told_29 : decode M_X6_told.2.1 29 = .ok (.aload_n 0, 1) := by decide +kernel
theorem dX6_told_30 : decode M_X6_told.2.1 30 = .ok (.getfield 139, 3) := by decide +kernel
theorem dX6_told_33 : decode M_X6_told.2.1 33 = .ok (.lstore 4, 2) := by decide +kernel
theorem dX6_told_35 : decode M_X6_told.2.1 35 = .ok (.lload 4, 2) := by decide +kernel
theorem dX6_told_37 : decode M_X6_told.2.1 37 = .ok (.lload_n 2, 1) := by decide +kernel
theorem dX6_told_38 : decode M_X6_told.2.1 38 = .ok (.invokestatic 177, 3) := by decide +kernel
theorem dX6_told_41 : decode M_X6_told.2.1 41 = .ok (.lstore 6, 2) := by decide +kernel
theorem dX6_told_43 : decode M_X6_told.2.1 43 = .ok (.iload_n 1, 1) := by decide +kernel
theorem dX6_told_44 : decode M_X6_told.2.1 44 = .ok (.iconst 2, 1) := by decide +kernel
theorem dX6_told_45 : decode M_X6_told.2.1 45 = .ok (.irem, 1) := by decide +kernel
theorem dX6_told_46 : decode M_X6_told.2.1 46 = .ok (.ifCond .ne 7, 3) := by decide +kernel
theorem dX6_told_49 : decode M_X6_told.2.1 49 = .ok (.lload_n 2, 1) := by decide +kernel
theorem dX6_told_50 : decode M_X6_told.2.1 50 = .ok (.goto 5, 3) := by decide +kernel
theorem dX6_told_53 : decode M_X6_told.2.1 53 = .ok (.lload 4, 2) := by decide +kernel
theorem dX6_told_55 : decode M_X6_told.2.1 55 = .ok (.lload 6, 2) := by decide +kernel
theorem dX6_told_57 : decode M_X6_told.2.1 57 = .ok (.ldiv, 1) := by decide +kernel
theorem dX6_told_58 : decode M_X6_told.2.1 58 = .ok (.lreturn, 1) := by decide +kernel
theorem dX6_skips_0 : decode M_X6_skips.2.1 0 = .ok (.aload_n 0, 1) := by decide +kernel
theorem dX6_skips_1 : decode M_X6_skips.2.1 1 = .ok (.getfield 181, 3) := by decide +kernel
theorem dX6_skips_4 : decode M_X6_skips.2.1 4 = .ok (.aload_n 0, 1) := by decide +kernel
theorem dX6_skips_5 : decode M_X6_skips.2.1 5 = .ok (.getfield 184, 3) := by decide +kernel
theorem dX6_skips_8 : decode M_X6_skips.2.1 8 = .ok (.if_icmp .ge 30, 3) := by decide +kernel
theorem dX6_skips_11 : decode M_X6_skips.2.1 11 = .ok (.aload_n 0, 1) := by decide +kernel
theorem dX6_skips_12 : decode M_X6_skips.2.1 12 = .ok (.getfield 23, 3) := by decide +kernel
theorem dX6_skips_15 : decode M_X6_skips.2.1 15 = .ok (.aload_n 0, 1) := by decide +kernel
theorem dX6_skips_16 : decode M_X6_skips.2.1 16 = .ok (.getfield 181, 3) := by decide +kernel
theorem dX6_skips_19 : decode M_X6_skips.2.1 19 = .ok (.iaload, 1) := by decide +kernel
theorem dX6_skips_20 : decode M_X6_skips.2.1 20 = .ok (.bipush 32, 2) := by decide +kernel
theorem dX6_skips_22 : decode M_X6_skips.2.1 22 = .ok (.if_icmp .ne 16, 3) := by decide +kernel
theorem dX6_skips_25 : decode M_X6_skips.2.1 25 = .ok (.aload_n 0, 1) := by decide +kernel
theorem dX6_skips_26 : decode M_X6_skips.2.1 26 = .ok (.dup, 1) := by decide +kernel
theorem dX6_skips_27 : decode M_X6_skips.2.1 27 = .ok (.getfield 181, 3) := by decide +kernel
theorem dX6_skips_30 : decode M_X6_skips.2.1 30 = .ok (.iconst 1, 1) := by decide +kernel
theorem dX6_skips_31 : decode M_X6_skips.2.1 31 = .ok (.iadd, 1) := by decide +kernel
theorem dX6_skips_32 : decode M_X6_skips.2.1 32 = .ok (.putfield 181, 3) := by decide +kernel
theorem dX6_skips_35 : decode M_X6_skips.2.1 35 = .ok (.goto (-35), 3) := by decide +kernel
theorem dX6_skips_38 : decode M_X6_skips.2.1 38 = .ok (.aload_n 0, 1) := by decide +kernel
theorem dX6_skips_39 : decode M_X6_skips.2.1 39 = .ok (.aload_n 0, 1) := by decide +kernel
theorem dX6_skips_40 : decode M_X6_skips.2.1 40 = .ok (.getfield 181, 3) := by decide +kernel
theorem dX6_skips_43 : decode M_X6_skips.2.1 43 = .ok (.putfield 187, 3) := by decide +kernel
theorem dX6_skips_46 : decode M_X6_skips.2.1 46 = .ok (.return_, 1) := by decide +kernel
theorem dX6_isFigure_0 : decode M_X6_isFigure.2.1 0 = .ok (.aload_n 0, 1) := by decide +kernel
theorem dX6_isFigure_1 : decode M_X6_isFigure.2.1 1 = .ok (.getfield 181, 3) := by decide +kernel
theorem dX6_isFigure_4 : decode M_X6_isFigure.2.1 4 = .ok (.aload_n 0, 1) := by decide +kernel
theorem dX6_isFigure_5 : decode M_X6_isFigure.2.1 5 = .ok (.getfield 184, 3) := by decide +kernel
theorem dX6_isFigure_8 : decode M_X6_isFigure.2.1 8 = .ok (.if_icmp .ge 26, 3) := by decide +kernel
theorem dX6_isFigure_11 : decode M_X6_isFigure.2.1 11 = .ok (.aload_n 0, 1) := by decide +kernel
theorem dX6_isFigure_12 : decode M_X6_isFigure.2.1 12 = .ok (.getfield 23, 3) := by decide +kernel
theorem dX6_isFigure_15 : decode M_X6_isFigure.2.1 15 = .ok (.aload_n 0, 1) := by decide +kernel
theorem dX6_isFigure_16 : decode M_X6_isFigure.2.1 16 = .ok (.getfield 181, 3) := by decide +kernel
theorem dX6_isFigure_19 : decode M_X6_isFigure.2.1 19 = .ok (.iaload, 1) := by decide +kernel
theorem dX6_isFigure_20 : decode M_X6_isFigure.2.1 20 = .ok (.bipush 48, 2) := by decide +kernel
theorem dX6_isFigure_22 : decode M_X6_isFigure.2.1 22 = .ok (.bipush 57, 2) := by decide +kernel
theorem dX6_isFigure_24 : decode M_X6_isFigure.2.1 24 = .ok (.invokestatic 54, 3) := by decide +kernel
theorem dX6_isFigure_27 : decode M_X6_isFigure.2.1 27 = .ok (.ifCond .eq 7, 3) := by decide +kernel
theorem dX6_isFigure_30 : decode M_X6_isFigure.2.1 30 = .ok (.iconst 1, 1) := by decide +kernel
theorem dX6_isFigure_31 : decode M_X6_isFigure.2.1 31 = .ok (.goto 4, 3) := by decide +kernel
theorem dX6_isFigure_34 : decode M_X6_isFigure.2.1 34 = .ok (.iconst 0, 1) := by decide +kernel
theorem dX6_isFigure_35 : decode M_X6_isFigure.2.1 35 = .ok (.ireturn, 1) := by decide +kernel
theorem dX6_passes_0 : decode M_X6_passes.2.1 0 = .ok (.aload_n 0, 1) := by decide +kernel
theorem dX6_passes_1 : decode M_X6_passes.2.1 1 = .ok (.invokevirtual 190, 3) := by decide +kernel
theorem dX6_passes_4 : decode M_X6_passes.2.1 4 = .ok (.aload_n 0, 1) := by decide +kernel
theorem dX6_passes_5 : decode M_X6_passes.2.1 5 = .ok (.getfield 181, 3) := by decide +kernel
theorem dX6_passes_8 : decode M_X6_passes.2.1 8 = .ok (.aload_n 0, 1) := by decide +kernel
theorem dX6_passes_9 : decode M_X6_passes.2.1 9 = .ok (.getfield 184, 3) := by decide +kernel
theorem dX6_passes_12 : decode M_X6_passes.2.1 12 = .ok (.if_icmp .ge 20, 3) := by decide +kernel
theorem dX6_passes_15 : decode M_X6_passes.2.1 15 = .ok (.aload_n 0, 1) := by decide +kernel
theorem dX6_passes_16 : decode M_X6_passes.2.1 16 = .ok (.getfield 23, 3) := by decide +kernel
theorem dX6_passes_19 : decode M_X6_passes.2.1 19 = .ok (.aload_n 0, 1) := by decide +kernel
theorem dX6_passes_20 : decode M_X6_passes.2.1 20 = .ok (.getfield 181, 3) := by decide +kernel
theorem dX6_passes_23 : decode M_X6_passes.2.1 23 = .ok (.iaload, 1) := by decide +kernel
theorem dX6_passes_24 : decode M_X6_passes.2.1 24 = .ok (.iload_n 1, 1) := by decide +kernel
theorem dX6_passes_25 : decode M_X6_passes.2.1 25 = .ok (.if_icmp .ne 7, 3) := by decide +kernel
theorem dX6_passes_28 : decode M_X6_passes.2.1 28 = .ok (.iconst 1, 1) := by decide +kernel
theorem dX6_passes_29 : decode M_X6_passes.2.1 29 = .ok (.goto 4, 3) := by decide +kernel
theorem dX6_passes_32 : decode M_X6_passes.2.1 32 = .ok (.iconst 0, 1) := by decide +kernel
theorem dX6_passes_33 : decode M_X6_passes.2.1 33 = .ok (.istore_n 2, 1) := by decide +kernel
theorem dX6_passes_34 : decode M_X6_passes.2.1 34 = .ok (.aload_n 0, 1) := by decide +kernel
theorem dX6_passes_35 : decode M_X6_passes.2.1 35 = .ok (.dup, 1) := by decide +kernel
theorem dX6_passes_36 : decode M_X6_passes.2.1 36 = .ok (.getfield 181, 3) := by decide +kernel
theorem dX6_passes_39 : decode M_X6_passes.2.1 39 = .ok (.iload_n 2, 1) := by decide +kernel
theorem dX6_passes_40 : decode M_X6_passes.2.1 40 = .ok (.ifCond .eq 7, 3) := by decide +kernel
theorem dX6_passes_43 : decode M_X6_passes.2.1 43 = .ok (.iconst 1, 1) := by decide +kernel
theorem dX6_passes_44 : decode M_X6_passes.2.1 44 = .ok (.goto 4, 3) := by decide +kernel
theorem dX6_passes_47 : decode M_X6_passes.2.1 47 = .ok (.iconst 0, 1) := by decide +kernel
theorem dX6_passes_48 : decode M_X6_passes.2.1 48 = .ok (.iadd, 1) := by decide +kernel
theorem dX6_passes_49 : decode M_X6_passes.2.1 49 = .ok (.putfield 181, 3) := by decide +kernel
theorem dX6_passes_52 : decode M_X6_passes.2.1 52 = .ok (.iload_n 2, 1) := by decide +kernel
theorem dX6_passes_53 : decode M_X6_passes.2.1 53 = .ok (.ireturn, 1) := by decide +kernel
theorem dX6_number_0 : decode M_X6_number.2.1 0 = .ok (.aload_n 0, 1) := by decide +kernel
theorem dX6_number_1 : decode M_X6_number.2.1 1 = .ok (.invokevirtual 190, 3) := by decide +kernel
theorem dX6_number_4 : decode M_X6_number.2.1 4 = .ok (.iconst 0, 1) := by decide +kernel
theorem dX6_number_5 : decode M_X6_number.2.1 5 = .ok (.istore_n 3, 1) := by decide +kernel
theorem dX6_number_6 : decode M_X6_number.2.1 6 = .ok (.iconst 0, 1) := by decide +kernel
theorem dX6_number_7 : decode M_X6_number.2.1 7 = .ok (.istore 4, 2) := by decide +kernel
theorem dX6_number_9 : decode M_X6_number.2.1 9 = .ok (.aload_n 0, 1) := by decide +kernel
theorem dX6_number_10 : decode M_X6_number.2.1 10 = .ok (.invokevirtual 193, 3) := by decide +kernel
theorem dX6_number_13 : decode M_X6_number.2.1 13 = .ok (.ifCond .eq 48, 3) := by decide +kernel
theorem dX6_number_16 : decode M_X6_number.2.1 16 = .ok (.iload_n 3, 1) := by decide +kernel
theorem dX6_number_17 : decode M_X6_number.2.1 17 = .ok (.bipush 99, 2) := by decide +kernel
theorem dX6_number_19 : decode M_X6_number.2.1 19 = .ok (.if_icmp .le 8, 3) := by decide +kernel
theorem dX6_number_22 : decode M_X6_number.2.1 22 = .ok (.bipush 100, 2) := by decide +kernel
theorem dX6_number_24 : decode M_X6_number.2.1 24 = .ok (.goto 20, 3) := by decide +kernel
theorem dX6_number_27 : decode M_X6_number.2.1 27 = .ok (.bipush 10, 2) := by decide +kernel
theorem dX6_number_29 : decode M_X6_number.2.1 29 = .ok (.iload_n 3, 1) := by decide +kernel
theorem dX6_number_30 : decode M_X6_number.2.1 30 = .ok (.imul, 1) := by decide +kernel
theorem dX6_number_31 : decode M_X6_number.2.1 31 = .ok (.aload_n 0, 1) := by decide +kernel
theorem dX6_number_32 : decode M_X6_number.2.1 32 = .ok (.getfield 23, 3) := by decide +kernel
theorem dX6_number_35 : decode M_X6_number.2.1 35 = .ok (.aload_n 0, 1) := by decide +kernel
theorem dX6_number_36 : decode M_X6_number.2.1 36 = .ok (.getfield 181, 3) := by decide +kernel
theorem dX6_number_39 : decode M_X6_number.2.1 39 = .ok (.iaload, 1) := by decide +kernel
theorem dX6_number_40 : decode M_X6_number.2.1 40 = .ok (.iadd, 1) := by decide +kernel
theorem dX6_number_41 : decode M_X6_number.2.1 41 = .ok (.bipush 48, 2) := by decide +kernel
theorem dX6_number_43 : decode M_X6_number.2.1 43 = .ok (.isub, 1) := by decide +kernel
theorem dX6_number_44 : decode M_X6_number.2.1 44 = .ok (.istore_n 3, 1) := by decide +kernel
theorem dX6_number_45 : decode M_X6_number.2.1 45 = .ok (.aload_n 0, 1) := by decide +kernel
theorem dX6_number_46 : decode M_X6_number.2.1 46 = .ok (.dup, 1) := by decide +kernel
theorem dX6_number_47 : decode M_X6_number.2.1 47 = .ok (.getfield 181, 3) := by decide +kernel
theorem dX6_number_50 : decode M_X6_number.2.1 50 = .ok (.iconst 1, 1) := by decide +kernel
theorem dX6_number_51 : decode M_X6_number.2.1 51 = .ok (.iadd, 1) := by decide +kernel
theorem dX6_number_52 : decode M_X6_number.2.1 52 = .ok (.putfield 181, 3) := by decide +kernel
theorem dX6_number_55 : decode M_X6_number.2.1 55 = .ok (.iinc 4 1, 3) := by decide +kernel
theorem dX6_number_58 : decode M_X6_number.2.1 58 = .ok (.goto (-49), 3) := by decide +kernel
theorem dX6_number_61 : decode M_X6_number.2.1 61 = .ok (.iload 4, 2) := by decide +kernel
theorem dX6_number_63 : decode M_X6_number.2.1 63 = .ok (.ifCond .le 42, 3) := by decide +kernel
theorem dX6_number_66 : decode M_X6_number.2.1 66 = .ok (.iload_n 3, 1) := by decide +kernel
theorem dX6_number_67 : decode M_X6_number.2.1 67 = .ok (.bipush 99, 2) := by decide +kernel
theorem dX6_number_69 : decode M_X6_number.2.1 69 = .ok (.if_icmp .gt 36, 3) := by decide +kernel
theorem dX6_number_72 : decode M_X6_number.2.1 72 = .ok (.iload 4, 2) := by decide +kernel
theorem dX6_number_74 : decode M_X6_number.2.1 74 = .ok (.iconst 1, 1) := by decide +kernel
theorem dX6_number_75 : decode M_X6_number.2.1 75 = .ok (.if_icmp .eq 17, 3) := by decide +kernel
theorem dX6_number_78 : decode M_X6_number.2.1 78 = .ok (.aload_n 0, 1) := by decide +kernel
theorem dX6_number_79 : decode M_X6_number.2.1 79 = .ok (.getfield 23, 3) := by decide +kernel
theorem dX6_number_82 : decode M_X6_number.2.1 82 = .ok (.aload_n 0, 1) := by decide +kernel
theorem dX6_number_83 : decode M_X6_number.2.1 83 = .ok (.getfield 187, 3) := by decide +kernel
theorem dX6_number_86 : decode M_X6_number.2.1 86 = .ok (.iaload, 1) := by decide +kernel
theorem dX6_number_87 : decode M_X6_number.2.1 87 = .ok (.bipush 48, 2) := by decide +kernel
theorem dX6_number_89 : decode M_X6_number.2.1 89 = .ok (.if_icmp .eq 16, 3) := by decide +kernel
theorem dX6_number_92 : decode M_X6_number.2.1 92 = .ok (.iload_n 3, 1) := by decide +kernel
theorem dX6_number_93 : decode M_X6_number.2.1 93 = .ok (.iload_n 1, 1) := by decide +kernel
theorem dX6_number_94 : decode M_X6_number.2.1 94 = .ok (.iload_n 2, 1) := by decide +kernel
theorem dX6_number_95 : decode M_X6_number.2.1 95 = .ok (.invokestatic 54, 3) := by decide +kernel
theorem dX6_number_98 : decode M_X6_number.2.1 98 = .ok (.ifCond .eq 7, 3) := by decide +kernel
theorem dX6_number_101 : decode M_X6_number.2.1 101 = .ok (.iconst 1, 1) := by decide +kernel
theorem dX6_number_102 : decode M_X6_number.2.1 102 = .ok (.goto 4, 3) := by decide +kernel
theorem dX6_number_105 : decode M_X6_number.2.1 105 = .ok (.iconst 0, 1) := by decide +kernel
theorem dX6_number_106 : decode M_X6_number.2.1 106 = .ok (.istore 5, 2) := by decide +kernel
theorem dX6_number_108 : decode M_X6_number.2.1 108 = .ok (.iload 5, 2) := by decide +kernel
theorem dX6_number_110 : decode M_X6_number.2.1 110 = .ok (.ifCond .eq 7, 3) := by decide +kernel
theorem dX6_number_113 : decode M_X6_number.2.1 113 = .ok (.iload_n 3, 1) := by decide +kernel
theorem dX6_number_114 : decode M_X6_number.2.1 114 = .ok (.goto 4, 3) := by decide +kernel
theorem dX6_number_117 : decode M_X6_number.2.1 117 = .ok (.iconst (-1), 1) := by decide +kernel
theorem dX6_number_118 : decode M_X6_number.2.1 118 = .ok (.ireturn, 1) := by decide +kernel
theorem dX6_readsBlock_0 : decode M_X6_readsBlock.2.1 0 = .ok (.aload_n 0, 1) := by decide +kernel
theorem dX6_readsBlock_1 : decode M_X6_readsBlock.2.1 1 = .ok (.getfield 7, 3) := by decide +kernel
theorem dX6_readsBlock_4 : decode M_X6_readsBlock.2.1 4 = .ok (.iconst 0, 1) := by decide +kernel
theorem dX6_readsBlock_5 : decode M_X6_readsBlock.2.1 5 = .ok (.iaload, 1) := by decide +kernel
theorem dX6_readsBlock_6 : decode M_X6_readsBlock.2.1 6 = .ok (.iconst 4, 1) := by decide +kernel
theorem dX6_readsBlock_7 : decode M_X6_readsBlock.2.1 7 = .ok (.if_icmp .ne 5, 3) := by decide +kernel
theorem dX6_readsBlock_10 : decode M_X6_readsBlock.2.1 10 = .ok (.iconst 0, 1) := by decide +kernel
theorem dX6_readsBlock_11 : decode M_X6_readsBlock.2.1 11 = .ok (.ireturn, 1) := by decide +kernel
theorem dX6_readsBlock_12 : decode M_X6_readsBlock.2.1 12 = .ok (.aload_n 0, 1) := by decide +kernel
theorem dX6_readsBlock_13 : decode M_X6_readsBlock.2.1 13 = .ok (.iconst 0, 1) := by decide +kernel
theorem dX6_readsBlock_14 : decode M_X6_readsBlock.2.1 14 = .ok (.bipush 9, 2) := by decide +kernel
theorem dX6_readsBlock_16 : decode M_X6_readsBlock.2.1 16 = .ok (.invokevirtual 196, 3) := by decide +kernel
theorem dX6_readsBlock_19 : decode M_X6_readsBlock.2.1 19 = .ok (.istore_n 1, 1) := by decide +kernel
theorem dX6_readsBlock_20 : decode M_X6_readsBlock.2.1 20 = .ok (.iload_n 1, 1) := by decide +kernel
theorem dX6_readsBlock_21 : decode M_X6_readsBlock.2.1 21 = .ok (.ifCond .ge 7, 3) := by decide +kernel
theorem dX6_readsBlock_24 : decode M_X6_readsBlock.2.1 24 = .ok (.iconst (-1), 1) := by decide +kernel
theorem dX6_readsBlock_25 : decode M_X6_readsBlock.2.1 25 = .ok (.goto 9, 3) := by decide +kernel
theorem dX6_readsBlock_28 : decode M_X6_readsBlock.2.1 28 = .ok (.aload_n 0, 1) := by decide +kernel
theorem dX6_readsBlock_29 : decode M_X6_readsBlock.2.1 29 = .ok (.iconst 1, 1) := by decide +kernel
theorem dX6_readsBlock_30 : decode M_X6_readsBlock.2.1 30 = .ok (.iconst 3, 1) := by decide +kernel
theorem dX6_readsBlock_31 : decode M_X6_readsBlock.2.1 31 = .ok (.invokevirtual 196, 3) := by decide +kernel
theorem dX6_readsBlock_34 : decode M_X6_readsBlock.2.1 34 = .ok (.istore_n 2, 1) := by decide +kernel
theorem dX6_readsBlock_35 : decode M_X6_readsBlock.2.1 35 = .ok (.iload_n 2, 1) := by decide +kernel
theorem dX6_readsBlock_36 : decode M_X6_readsBlock.2.1 36 = .ok (.ifCond .ge 7, 3) := by decide +kernel
theorem dX6_readsBlock_39 : decode M_X6_readsBlock.2.1 39 = .ok (.iconst (-1), 1) := by decide +kernel
theorem dX6_readsBlock_40 : decode M_X6_readsBlock.2.1 40 = .ok (.goto 10, 3) := by decide +kernel
theorem dX6_readsBlock_43 : decode M_X6_readsBlock.2.1 43 = .ok (.aload_n 0, 1) := by decide +kernel
theorem dX6_readsBlock_44 : decode M_X6_readsBlock.2.1 44 = .ok (.iconst 1, 1) := by decide +kernel
theorem dX6_readsBlock_45 : decode M_X6_readsBlock.2.1 45 = .ok (.bipush 9, 2) := by decide +kernel
theorem dX6_readsBlock_47 : decode M_X6_readsBlock.2.1 47 = .ok (.invokevirtual 196, 3) := by decide +kernel
theorem dX6_readsBlock_50 : decode M_X6_readsBlock.2.1 50 = .ok (.istore_n 3, 1) := by decide +kernel
theorem dX6_readsBlock_51 : decode M_X6_readsBlock.2.1 51 = .ok (.iload_n 3, 1) := by decide +kernel
theorem dX6_readsBlock_52 : decode M_X6_readsBlock.2.1 52 = .ok (.ifCond .lt 12, 3) := by decide +kernel
theorem dX6_readsBlock_55 : decode M_X6_readsBlock.2.1 55 = .ok (.aload_n 0, 1) := by decide +kernel
theorem dX6_readsBlock_56 : decode M_X6_readsBlock.2.1 56 = .ok (.bipush 59, 2) := by decide +kernel
theorem dX6_readsBlock_58 : decode M_X6_readsBlock.2.1 58 = .ok (.invokevirtual 199, 3) := by decide +kernel
theorem dX6_readsBlock_61 : decode M_X6_readsBlock.2.1 61 = .ok (.ifCond .ne 5, 3) := by decide +kernel
theorem dX6_readsBlock_64 : decode M_X6_readsBlock.2.1 64 = .ok (.iconst 0, 1) := by decide +kernel
theorem dX6_readsBlock_65 : decode M_X6_readsBlock.2.1 65 = .ok (.ireturn, 1) := by decide +kernel
theorem dX6_readsBlock_66 : decode M_X6_readsBlock.2.1 66 = .ok (.aload_n 0, 1) := by decide +kernel
theorem dX6_readsBlock_67 : decode M_X6_readsBlock.2.1 67 = .ok (.iload_n 1, 1) := by decide +kernel
theorem dX6_readsBlock_68 : decode M_X6_readsBlock.2.1 68 = .ok (.iload_n 2, 1) := by decide +kernel
theorem dX6_readsBlock_69 : decode M_X6_readsBlock.2.1 69 = .ok (.iload_n 3, 1) := by decide +kernel
theorem dX6_readsBlock_70 : decode M_X6_readsBlock.2.1 70 = .ok (.invokevirtual 202, 3) := by decide +kernel
theorem dX6_readsBlock_73 : decode M_X6_readsBlock.2.1 73 = .ok (.iconst 1, 1) := by decide +kernel
theorem dX6_readsBlock_74 : decode M_X6_readsBlock.2.1 74 = .ok (.ireturn, 1) := by decide +kernel
theorem dX6_readsLoad_0 : decode M_X6_readsLoad.2.1 0 = .ok (.aload_n 0, 1) := by decide +kernel
theorem dX6_readsLoad_1 : decode M_X6_readsLoad.2.1 1 = .ok (.iconst 0, 1) := by decide +kernel
theorem dX6_readsLoad_2 : decode M_X6_readsLoad.2.1 2 = .ok (.aload_n 0, 1) := by decide +kernel
theorem dX6_readsLoad_3 : decode M_X6_readsLoad.2.1 3 = .ok (.getfield 7, 3) := by decide +kernel
theorem dX6_readsLoad_6 : decode M_X6_readsLoad.2.1 6 = .ok (.iconst 0, 1) := by decide +kernel
theorem dX6_readsLoad_7 : decode M_X6_readsLoad.2.1 7 = .ok (.iaload, 1) := by decide +kernel
theorem dX6_readsLoad_8 : decode M_X6_readsLoad.2.1 8 = .ok (.iconst 1, 1) := by decide +kernel
theorem dX6_readsLoad_9 : decode M_X6_readsLoad.2.1 9 = .ok (.isub, 1) := by decide +kernel
theorem dX6_readsLoad_10 : decode M_X6_readsLoad.2.1 10 = .ok (.invokevirtual 196, 3) := by decide +kernel
theorem dX6_readsLoad_13 : decode M_X6_readsLoad.2.1 13 = .ok (.istore_n 1, 1) := by decide +kernel
theorem dX6_readsLoad_14 : decode M_X6_readsLoad.2.1 14 = .ok (.iload_n 1, 1) := by decide +kernel
theorem dX6_readsLoad_15 : decode M_X6_readsLoad.2.1 15 = .ok (.ifCond .ge 7, 3) := by decide +kernel
theorem dX6_readsLoad_18 : decode M_X6_readsLoad.2.1 18 = .ok (.iconst (-1), 1) := by decide +kernel
theorem dX6_readsLoad_19 : decode M_X6_readsLoad.2.1 19 = .ok (.goto 16, 3) := by decide +kernel
theorem dX6_readsLoad_22 : decode M_X6_readsLoad.2.1 22 = .ok (.aload_n 0, 1) := by decide +kernel
theorem dX6_readsLoad_23 : decode M_X6_readsLoad.2.1 23 = .ok (.iconst 0, 1) := by decide +kernel
theorem dX6_readsLoad_24 : decode M_X6_readsLoad.2.1 24 = .ok (.iconst 2, 1) := by decide +kernel
theorem dX6_readsLoad_25 : decode M_X6_readsLoad.2.1 25 = .ok (.aload_n 0, 1) := by decide +kernel
theorem dX6_readsLoad_26 : decode M_X6_readsLoad.2.1 26 = .ok (.iload_n 1, 1) := by decide +kernel
theorem dX6_readsLoad_27 : decode M_X6_readsLoad.2.1 27 = .ok (.iconst 2, 1) := by decide +kernel
theorem dX6_readsLoad_28 : decode M_X6_readsLoad.2.1 28 = .ok (.invokevirtual 58, 3) := by decide +kernel
theorem dX6_readsLoad_31 : decode M_X6_readsLoad.2.1 31 = .ok (.imul, 1) := by decide +kernel
theorem dX6_readsLoad_32 : decode M_X6_readsLoad.2.1 32 = .ok (.invokevirtual 196, 3) := by decide +kernel
theorem dX6_readsLoad_35 : decode M_X6_readsLoad.2.1 35 = .ok (.istore_n 2, 1) := by decide +kernel
theorem dX6_readsLoad_36 : decode M_X6_readsLoad.2.1 36 = .ok (.iload_n 2, 1) := by decide +kernel
theorem dX6_readsLoad_37 : decode M_X6_readsLoad.2.1 37 = .ok (.ifCond .ge 7, 3) := by decide +kernel
theorem dX6_readsLoad_40 : decode M_X6_readsLoad.2.1 40 = .ok (.iconst (-1), 1) := by decide +kernel
theorem dX6_readsLoad_41 : decode M_X6_readsLoad.2.1 41 = .ok (.goto 10, 3) := by decide +kernel
theorem dX6_readsLoad_44 : decode M_X6_readsLoad.2.1 44 = .ok (.aload_n 0, 1) := by decide +kernel
theorem dX6_readsLoad_45 : decode M_X6_readsLoad.2.1 45 = .ok (.iconst 0, 1) := by decide +kernel
theorem dX6_readsLoad_46 : decode M_X6_readsLoad.2.1 46 = .ok (.bipush 20, 2) := by decide +kernel
theorem dX6_readsLoad_48 : decode M_X6_readsLoad.2.1 48 = .ok (.invokevirtual 196, 3) := by decide +kernel
theorem dX6_readsLoad_51 : decode M_X6_readsLoad.2.1 51 = .ok (.istore_n 3, 1) := by decide +kernel
theorem dX6_readsLoad_52 : decode M_X6_readsLoad.2.1 52 = .ok (.iload_n 3, 1) := by decide +kernel
theorem dX6_readsLoad_53 : decode M_X6_readsLoad.2.1 53 = .ok (.ifCond .lt 12, 3) := by decide +kernel
theorem dX6_readsLoad_56 : decode M_X6_readsLoad.2.1 56 = .ok (.aload_n 0, 1) := by decide +kernel
theorem dX6_readsLoad_57 : decode M_X6_readsLoad.2.1 57 = .ok (.bipush 59, 2) := by decide +kernel
theorem dX6_readsLoad_59 : decode M_X6_readsLoad.2.1 59 = .ok (.invokevirtual 199, 3) := by decide +kernel
theorem dX6_readsLoad_62 : decode M_X6_readsLoad.2.1 62 = .ok (.ifCond .ne 5, 3) := by decide +kernel
theorem dX6_readsLoad_65 : decode M_X6_readsLoad.2.1 65 = .ok (.iconst 0, 1) := by decide +kernel
theorem dX6_readsLoad_66 : decode M_X6_readsLoad.2.1 66 = .ok (.ireturn, 1) := by decide +kernel
theorem dX6_readsLoad_67 : decode M_X6_readsLoad.2.1 67 = .ok (.aload_n 0, 1) := by decide +kernel
theorem dX6_readsLoad_68 : decode M_X6_readsLoad.2.1 68 = .ok (.getfield 7, 3) := by decide +kernel
theorem dX6_readsLoad_71 : decode M_X6_readsLoad.2.1 71 = .ok (.iconst 5, 1) := by decide +kernel
theorem dX6_readsLoad_72 : decode M_X6_readsLoad.2.1 72 = .ok (.iload_n 1, 1) := by decide +kernel
theorem dX6_readsLoad_73 : decode M_X6_readsLoad.2.1 73 = .ok (.imul, 1) := by decide +kernel
theorem dX6_readsLoad_74 : decode M_X6_readsLoad.2.1 74 = .ok (.iconst 4, 1) := by decide +kernel
theorem dX6_readsLoad_75 : decode M_X6_readsLoad.2.1 75 = .ok (.iadd, 1) := by decide +kernel
theorem dX6_readsLoad_76 : decode M_X6_readsLoad.2.1 76 = .ok (.iload_n 3, 1) := by decide +kernel
theorem dX6_readsLoad_77 : decode M_X6_readsLoad.2.1 77 = .ok (.iastore, 1) := by decide +kernel
theorem dX6_readsLoad_78 : decode M_X6_readsLoad.2.1 78 = .ok (.aload_n 0, 1) := by decide +kernel
theorem dX6_readsLoad_79 : decode M_X6_readsLoad.2.1 79 = .ok (.getfield 7, 3) := by decide +kernel
theorem dX6_readsLoad_82 : decode M_X6_readsLoad.2.1 82 = .ok (.iconst 5, 1) := by decide +kernel
theorem dX6_readsLoad_83 : decode M_X6_readsLoad.2.1 83 = .ok (.iload_n 1, 1) := by decide +kernel
theorem dX6_readsLoad_84 : decode M_X6_readsLoad.2.1 84 = .ok (.imul, 1) := by decide +kernel
theorem dX6_readsLoad_85 : decode M_X6_readsLoad.2.1 85 = .ok (.iconst 5, 1) := by decide +kernel
theorem dX6_readsLoad_86 : decode M_X6_readsLoad.2.1 86 = .ok (.iadd, 1) := by decide +kernel
theorem dX6_readsLoad_87 : decode M_X6_readsLoad.2.1 87 = .ok (.iload_n 2, 1) := by decide +kernel
theorem dX6_readsLoad_88 : decode M_X6_readsLoad.2.1 88 = .ok (.iastore, 1) := by decide +kernel
theorem dX6_readsLoad_89 : decode M_X6_readsLoad.2.1 89 = .ok (.iconst 1, 1) := by decide +kernel
theorem dX6_readsLoad_90 : decode M_X6_readsLoad.2.1 90 = .ok (.ireturn, 1) := by decide +kernel
theorem dX6_reads_0 : decode M_X6_reads.2.1 0 = .ok (.aload_n 0, 1) := by decide +kernel
theorem dX6_reads_1 : decode M_X6_reads.2.1 1 = .ok (.iconst 0, 1) := by decide +kernel
theorem dX6_reads_2 : decode M_X6_reads.2.1 2 = .ok (.putfield 181, 3) := by decide +kernel
theorem dX6_reads_5 : decode M_X6_reads.2.1 5 = .ok (.aload_n 0, 1) := by decide +kernel
theorem dX6_reads_6 : decode M_X6_reads.2.1 6 = .ok (.iconst 0, 1) := by decide +kernel
theorem dX6_reads_7 : decode M_X6_reads.2.1 7 = .ok (.putfield 205, 3) := by decide +kernel
theorem dX6_reads_10 : decode M_X6_reads.2.1 10 = .ok (.aload_n 0, 1) := by decide +kernel
theorem dX6_reads_11 : decode M_X6_reads.2.1 11 = .ok (.getfield 7, 3) := by decide +kernel
theorem dX6_reads_14 : decode M_X6_reads.2.1 14 = .ok (.iconst 0, 1) := by decide +kernel
theorem dX6_reads_15 : decode M_X6_reads.2.1 15 = .ok (.iconst 0, 1) := by decide +kernel
theorem dX6_reads_16 : decode M_X6_reads.2.1 16 = .ok (.iastore, 1) := by decide +kernel
theorem dX6_reads_17 : decode M_X6_reads.2.1 17 = .ok (.aload_n 0, 1) := by decide +kernel
theorem dX6_reads_18 : decode M_X6_reads.2.1 18 = .ok (.invokevirtual 190, 3) := by decide +kernel
theorem dX6_reads_21 : decode M_X6_reads.2.1 21 = .ok (.aload_n 0, 1) := by decide +kernel
theorem dX6_reads_22 : decode M_X6_reads.2.1 22 = .ok (.getfield 181, 3) := by decide +kernel
theorem dX6_reads_25 : decode M_X6_reads.2.1 25 = .ok (.aload_n 0, 1) := by decide +kernel
theorem dX6_reads_26 : decode M_X6_reads.2.1 26 = .ok (.getfield 184, 3) := by decide +kernel
theorem dX6_reads_29 : decode M_X6_reads.2.1 29 = .ok (.if_icmp .ge 64, 3) := by decide +kernel
theorem dX6_reads_32 : decode M_X6_reads.2.1 32 = .ok (.aload_n 0, 1) := by decide +kernel
theorem dX6_reads_33 : decode M_X6_reads.2.1 33 = .ok (.bipush 98, 2) := by decide +kernel
theorem dX6_reads_35 : decode M_X6_reads.2.1 35 = .ok (.invokevirtual 199, 3) := by decide +kernel
theorem dX6_reads_38 : decode M_X6_reads.2.1 38 = .ok (.ifCond .eq 10, 3) := by decide +kernel
theorem dX6_reads_41 : decode M_X6_reads.2.1 41 = .ok (.aload_n 0, 1) := by decide +kernel
theorem dX6_reads_42 : decode M_X6_reads.2.1 42 = .ok (.invokevirtual 208, 3) := by decide +kernel
theorem dX6_reads_45 : decode M_X6_reads.2.1 45 = .ok (.goto 24, 3) := by decide +kernel
theorem dX6_reads_48 : decode M_X6_reads.2.1 48 = .ok (.aload_n 0, 1) := by decide +kernel
theorem dX6_reads_49 : decode M_X6_reads.2.1 49 = .ok (.bipush 108, 2) := by decide +kernel
theorem dX6_reads_51 : decode M_X6_reads.2.1 51 = .ok (.invokevirtual 199, 3) := by decide +kernel
theorem dX6_reads_54 : decode M_X6_reads.2.1 54 = .ok (.ifCond .eq 14, 3) := by decide +kernel
theorem dX6_reads_57 : decode M_X6_reads.2.1 57 = .ok (.aload_n 0, 1) := by decide +kernel
theorem dX6_reads_58 : decode M_X6_reads.2.1 58 = .ok (.invokevirtual 211, 3) := by decide +kernel
theorem dX6_reads_61 : decode M_X6_reads.2.1 61 = .ok (.ifCond .eq 7, 3) := by decide +kernel
theorem dX6_reads_64 : decode M_X6_reads.2.1 64 = .ok (.iconst 1, 1) := by decide +kernel
theorem dX6_reads_65 : decode M_X6_reads.2.1 65 = .ok (.goto 4, 3) := by decide +kernel
theorem dX6_reads_68 : decode M_X6_reads.2.1 68 = .ok (.iconst 0, 1) := by decide +kernel
theorem dX6_reads_69 : decode M_X6_reads.2.1 69 = .ok (.istore_n 1, 1) := by decide +kernel
theorem dX6_reads_70 : decode M_X6_reads.2.1 70 = .ok (.iload_n 1, 1) := by decide +kernel
theorem dX6_reads_71 : decode M_X6_reads.2.1 71 = .ok (.ifCond .ne 5, 3) := by decide +kernel
theorem dX6_reads_74 : decode M_X6_reads.2.1 74 = .ok (.iconst 0, 1) := by decide +kernel
theorem dX6_reads_75 : decode M_X6_reads.2.1 75 = .ok (.ireturn, 1) := by decide +kernel
theorem dX6_reads_76 : decode M_X6_reads.2.1 76 = .ok (.aload_n 0, 1) := by decide +kernel
theorem dX6_reads_77 : decode M_X6_reads.2.1 77 = .ok (.dup, 1) := by decide +kernel
theorem dX6_reads_78 : decode M_X6_reads.2.1 78 = .ok (.getfield 205, 3) := by decide +kernel
theorem dX6_reads_81 : decode M_X6_reads.2.1 81 = .ok (.iconst 1, 1) := by decide +kernel
theorem dX6_reads_82 : decode M_X6_reads.2.1 82 = .ok (.iadd, 1) := by decide +kernel
theorem dX6_reads_83 : decode M_X6_reads.2.1 83 = .ok (.putfield 205, 3) := by decide +kernel
theorem dX6_reads_86 : decode M_X6_reads.2.1 86 = .ok (.aload_n 0, 1) := by decide +kernel
theorem dX6_reads_87 : decode M_X6_reads.2.1 87 = .ok (.invokevirtual 190, 3) := by decide +kernel
theorem dX6_reads_90 : decode M_X6_reads.2.1 90 = .ok (.goto (-69), 3) := by decide +kernel
theorem dX6_reads_93 : decode M_X6_reads.2.1 93 = .ok (.iconst 1, 1) := by decide +kernel
theorem dX6_reads_94 : decode M_X6_reads.2.1 94 = .ok (.ireturn, 1) := by decide +kernel
theorem dX6_type_0 : decode M_X6_type.2.1 0 = .ok (.iload_n 1, 1) := by decide +kernel
theorem dX6_type_1 : decode M_X6_type.2.1 1 = .ok (.iconst 0, 1) := by decide +kernel
theorem dX6_type_2 : decode M_X6_type.2.1 2 = .ok (.sipush 255, 3) := by decide +kernel
theorem dX6_type_5 : decode M_X6_type.2.1 5 = .ok (.invokestatic 54, 3) := by decide +kernel
theorem dX6_type_8 : decode M_X6_type.2.1 8 = .ok (.ifCond .ne 5, 3) := by decide +kernel
theorem dX6_type_11 : decode M_X6_type.2.1 11 = .ok (.iconst (-1), 1) := by decide +kernel
theorem dX6_type_12 : decode M_X6_type.2.1 12 = .ok (.ireturn, 1) := by decide +kernel
theorem dX6_type_13 : decode M_X6_type.2.1 13 = .ok (.aload_n 0, 1) := by decide +kernel
theorem dX6_type_14 : decode M_X6_type.2.1 14 = .ok (.getfield 184, 3) := by decide +kernel
theorem dX6_type_17 : decode M_X6_type.2.1 17 = .ok (.bipush 120, 2) := by decide +kernel
theorem dX6_type_19 : decode M_X6_type.2.1 19 = .ok (.if_icmp .ne 6, 3) := by decide +kernel
theorem dX6_type_22 : decode M_X6_type.2.1 22 = .ok (.bipush (-3), 2) := by decide +kernel
theorem dX6_type_24 : decode M_X6_type.2.1 24 = .ok (.ireturn, 1) := by decide +kernel
theorem dX6_type_25 : decode M_X6_type.2.1 25 = .ok (.aload_n 0, 1) := by decide +kernel
theorem dX6_type_26 : decode M_X6_type.2.1 26 = .ok (.getfield 23, 3) := by decide +kernel
theorem dX6_type_29 : decode M_X6_type.2.1 29 = .ok (.aload_n 0, 1) := by decide +kernel
theorem dX6_type_30 : decode M_X6_type.2.1 30 = .ok (.getfield 184, 3) := by decide +kernel
theorem dX6_type_33 : decode M_X6_type.2.1 33 = .ok (.iload_n 1, 1) := by decide +kernel
theorem dX6_type_34 : decode M_X6_type.2.1 34 = .ok (.iastore, 1) := by decide +kernel
theorem dX6_type_35 : decode M_X6_type.2.1 35 = .ok (.aload_n 0, 1) := by decide +kernel
theorem dX6_type_36 : decode M_X6_type.2.1 36 = .ok (.dup, 1) := by decide +kernel
theorem dX6_type_37 : decode M_X6_type.2.1 37 = .ok (.getfield 184, 3) := by decide +kernel
theorem dX6_type_40 : decode M_X6_type.2.1 40 = .ok (.iconst 1, 1) := by decide +kernel
theorem dX6_type_41 : decode M_X6_type.2.1 41 = .ok (.iadd, 1) := by decide +kernel
theorem dX6_type_42 : decode M_X6_type.2.1 42 = .ok (.putfield 184, 3) := by decide +kernel
theorem dX6_type_45 : decode M_X6_type.2.1 45 = .ok (.aload_n 0, 1) := by decide +kernel
theorem dX6_type_46 : decode M_X6_type.2.1 46 = .ok (.getfield 184, 3) := by decide +kernel
theorem dX6_type_49 : decode M_X6_type.2.1 49 = .ok (.ireturn, 1) := by decide +kernel
theorem dX6_clear_0 : decode M_X6_clear.2.1 0 = .ok (.aload_n 0, 1) := by decide +kernel
theorem dX6_clear_1 : decode M_X6_clear.2.1 1 = .ok (.getfield 184, 3) := by decide +kernel
theorem dX6_clear_4 : decode M_X6_clear.2.1 4 = .ok (.istore_n 1, 1) := by decide +kernel
theorem dX6_clear_5 : decode M_X6_clear.2.1 5 = .ok (.aload_n 0, 1) := by decide +kernel
theorem dX6_clear_6 : decode M_X6_clear.2.1 6 = .ok (.iconst 0, 1) := by decide +kernel
theorem dX6_clear_7 : decode M_X6_clear.2.1 7 = .ok (.putfield 184, 3) := by decide +kernel
theorem dX6_clear_10 : decode M_X6_clear.2.1 10 = .ok (.iload_n 1, 1) := by decide +kernel
theorem dX6_clear_11 : decode M_X6_clear.2.1 11 = .ok (.ireturn, 1) := by decide +kernel
theorem dX6_lays_0 : decode M_X6_lays.2.1 0 = .ok (.iconst 0, 1) := by decide +kernel
theorem dX6_lays_1 : decode M_X6_lays.2.1 1 = .ok (.istore_n 3, 1) := by decide +kernel
theorem dX6_lays_2 : decode M_X6_lays.2.1 2 = .ok (.iload_n 3, 1) := by decide +kernel
theorem dX6_lays_3 : decode M_X6_lays.2.1 3 = .ok (.bipush 21, 2) := by decide +kernel
theorem dX6_lays_5 : decode M_X6_lays.2.1 5 = .ok (.if_icmp .ge 20, 3) := by decide +kernel
theorem dX6_lays_8 : decode M_X6_lays.2.1 8 = .ok (.aload_n 1, 1) := by decide +kernel
theorem dX6_lays_9 : decode M_X6_lays.2.1 9 = .ok (.iload_n 2, 1) := by decide +kernel
theorem dX6_lays_10 : decode M_X6_lays.2.1 10 = .ok (.iload_n 3, 1) := by decide +kernel
theorem dX6_lays_11 : decode M_X6_lays.2.1 11 = .ok (.iadd, 1) := by decide +kernel
theorem dX6_lays_12 : decode M_X6_lays.2.1 12 = .ok (.aload_n 0, 1) := by decide +kernel
theorem dX6_lays_13 : decode M_X6_lays.2.1 13 = .ok (.getfield 7, 3) := by decide +kernel
theorem dX6_lays_16 : decode M_X6_lays.2.1 16 = .ok (.iload_n 3, 1) := by decide +kernel
theorem dX6_lays_17 : decode M_X6_lays.2.1 17 = .ok (.iaload, 1) := by decide +kernel
theorem dX6_lays_18 : decode M_X6_lays.2.1 18 = .ok (.iastore, 1) := by decide +kernel
theorem dX6_lays_19 : decode M_X6_lays.2.1 19 = .ok (.iinc 3 1, 3) := by decide +kernel
theorem dX6_lays_22 : decode M_X6_lays.2.1 22 = .ok (.goto (-20), 3) := by decide +kernel
theorem dX6_lays_25 : decode M_X6_lays.2.1 25 = .ok (.return_, 1) := by decide +kernel
theorem dX6_takes_0 : decode M_X6_takes.2.1 0 = .ok (.iconst 0, 1) := by decide +kernel
theorem dX6_takes_1 : decode M_X6_takes.2.1 1 = .ok (.istore_n 3, 1) := by decide +kernel
theorem dX6_takes_2 : decode M_X6_takes.2.1 2 = .ok (.iload_n 3, 1) := by decide +kernel
theorem dX6_takes_3 : decode M_X6_takes.2.1 3 = .ok (.bipush 21, 2) := by decide +kernel
theorem dX6_takes_5 : decode M_X6_takes.2.1 5 = .ok (.if_icmp .ge 20, 3) := by decide +kernel
theorem dX6_takes_8 : decode M_X6_takes.2.1 8 = .ok (.aload_n 0, 1) := by decide +kernel
theorem dX6_takes_9 : decode M_X6_takes.2.1 9 = .ok (.getfield 7, 3) := by decide +kernel
theorem dX6_takes_12 : decode M_X6_takes.2.1 12 = .ok (.iload_n 3, 1) := by decide +kernel
theorem dX6_takes_13 : decode M_X6_takes.2.1 13 = .ok (.aload_n 1, 1) := by decide +kernel
theorem dX6_takes_14 : decode M_X6_takes.2.1 14 = .ok (.iload_n 2, 1) := by decide +kernel
theorem dX6_takes_15 : decode M_X6_takes.2.1 15 = .ok (.iload_n 3, 1) := by decide +kernel
theorem dX6_takes_16 : decode M_X6_takes.2.1 16 = .ok (.iadd, 1) := by decide +kernel
theorem dX6_takes_17 : decode M_X6_takes.2.1 17 = .ok (.iaload, 1) := by decide +kernel
theorem dX6_takes_18 : decode M_X6_takes.2.1 18 = .ok (.iastore, 1) := by decide +kernel
theorem dX6_takes_19 : decode M_X6_takes.2.1 19 = .ok (.iinc 3 1, 3) := by decide +kernel
theorem dX6_takes_22 : decode M_X6_takes.2.1 22 = .ok (.goto (-20), 3) := by decide +kernel
theorem dX6_takes_25 : decode M_X6_takes.2.1 25 = .ok (.return_, 1) := by decide +kernel
theorem dX6_keeps_0 : decode M_X6_keeps.2.1 0 = .ok (.aload_n 0, 1) := by decide +kernel
theorem dX6_keeps_1 : decode M_X6_keeps.2.1 1 = .ok (.getfield 214, 3) := by decide +kernel
theorem dX6_keeps_4 : decode M_X6_keeps.2.1 4 = .ok (.bipush 6, 2) := by decide +kernel
theorem dX6_keeps_6 : decode M_X6_keeps.2.1 6 = .ok (.if_icmp .ne 42, 3) := by decide +kernel
theorem dX6_keeps_9 : decode M_X6_keeps.2.1 9 = .ok (.iconst 0, 1) := by decide +kernel
theorem dX6_keeps_10 : decode M_X6_keeps.2.1 10 = .ok (.istore_n 1, 1) := by decide +kernel
theorem dX6_keeps_11 : decode M_X6_keeps.2.1 11 = .ok (.iload_n 1, 1) := by decide +kernel
theorem dX6_keeps_12 : decode M_X6_keeps.2.1 12 = .ok (.bipush 105, 2) := by decide +kernel
theorem dX6_keeps_14 : decode M_X6_keeps.2.1 14 = .ok (.if_icmp .ge 24, 3) := by decide +kernel
theorem dX6_keeps_17 : decode M_X6_keeps.2.1 17 = .ok (.aload_n 0, 1) := by decide +kernel
theorem dX6_keeps_18 : decode M_X6_keeps.2.1 18 = .ok (.getfield 13, 3) := by decide +kernel
theorem dX6_keeps_21 : decode M_X6_keeps.2.1 21 = .ok (.iload_n 1, 1) := by decide +kernel
theorem dX6_keeps_22 : decode M_X6_keeps.2.1 22 = .ok (.aload_n 0, 1) := by decide +kernel
theorem dX6_keeps_23 : decode M_X6_keeps.2.1 23 = .ok (.getfield 13, 3) := by decide +kernel
theorem dX6_keeps_26 : decode M_X6_keeps.2.1 26 = .ok (.iload_n 1, 1) := by decide +kernel
theorem dX6_keeps_27 : decode M_X6_keeps.2.1 27 = .ok (.bipush 21, 2) := by decide +kernel
theorem dX6_keeps_29 : decode M_X6_keeps.2.1 29 = .ok (.iadd, 1) := by decide +kernel
theorem dX6_keeps_30 : decode M_X6_keeps.2.1 30 = .ok (.iaload, 1) := by decide +kernel
theorem dX6_keeps_31 : decode M_X6_keeps.2.1 31 = .ok (.iastore, 1) := by decide +kernel
theorem dX6_keeps_32 : decode M_X6_keeps.2.1 32 = .ok (.iinc 1 1, 3) := by decide +kernel
theorem dX6_keeps_35 : decode M_X6_keeps.2.1 35 = .ok (.goto (-24), 3) := by decide +kernel
theorem dX6_keeps_38 : decode M_X6_keeps.2.1 38 = .ok (.aload_n 0, 1) := by decide +kernel
theorem dX6_keeps_39 : decode M_X6_keeps.2.1 39 = .ok (.dup, 1) := by decide +kernel
theorem dX6_keeps_40 : decode M_X6_keeps.2.1 40 = .ok (.getfield 214, 3) := by decide +kernel
theorem dX6_keeps_43 : decode M_X6_keeps.2.1 43 = .ok (.iconst 1, 1) := by decide +kernel
theorem dX6_keeps_44 : decode M_X6_keeps.2.1 44 = .ok (.isub, 1) := by decide +kernel
theorem dX6_keeps_45 : decode M_X6_keeps.2.1 45 = .ok (.putfield 214, 3) := by decide +kernel
theorem dX6_keeps_48 : decode M_X6_keeps.2.1 48 = .ok (.iconst 0, 1) := by decide +kernel
theorem dX6_keeps_49 : decode M_X6_keeps.2.1 49 = .ok (.istore_n 1, 1) := by decide +kernel
theorem dX6_keeps_50 : decode M_X6_keeps.2.1 50 = .ok (.iload_n 1, 1) := by decide +kernel
theorem dX6_keeps_51 : decode M_X6_keeps.2.1 51 = .ok (.bipush 21, 2) := by decide +kernel
theorem dX6_keeps_53 : decode M_X6_keeps.2.1 53 = .ok (.if_icmp .ge 29, 3) := by decide +kernel
theorem dX6_keeps_56 : decode M_X6_keeps.2.1 56 = .ok (.aload_n 0, 1) := by decide +kernel
theorem dX6_keeps_57 : decode M_X6_keeps.2.1 57 = .ok (.getfield 13, 3) := by decide +kernel
theorem dX6_keeps_60 : decode M_X6_keeps.2.1 60 = .ok (.bipush 21, 2) := by decide +kernel
theorem dX6_keeps_62 : decode M_X6_keeps.2.1 62 = .ok (.aload_n 0, 1) := by decide +kernel
theorem dX6_keeps_63 : decode M_X6_keeps.2.1 63 = .ok (.getfield 214, 3) := by decide +kernel
theorem dX6_keeps_66 : decode M_X6_keeps.2.1 66 = .ok (.imul, 1) := by decide +kernel
theorem dX6_keeps_67 : decode M_X6_keeps.2.1 67 = .ok (.iload_n 1, 1) := by decide +kernel
theorem dX6_keeps_68 : decode M_X6_keeps.2.1 68 = .ok (.iadd, 1) := by decide +kernel
theorem dX6_keeps_69 : decode M_X6_keeps.2.1 69 = .ok (.aload_n 0, 1) := by decide +kernel
theorem dX6_keeps_70 : decode M_X6_keeps.2.1 70 = .ok (.getfield 51, 3) := by decide +kernel
theorem dX6_keeps_73 : decode M_X6_keeps.2.1 73 = .ok (.iload_n 1, 1) := by decide +kernel
theorem dX6_keeps_74 : decode M_X6_keeps.2.1 74 = .ok (.iaload, 1) := by decide +kernel
theorem dX6_keeps_75 : decode M_X6_keeps.2.1 75 = .ok (.iastore, 1) := by decide +kernel
theorem dX6_keeps_76 : decode M_X6_keeps.2.1 76 = .ok (.iinc 1 1, 3) := by decide +kernel
theorem dX6_keeps_79 : decode M_X6_keeps.2.1 79 = .ok (.goto (-29), 3) := by decide +kernel
theorem dX6_keeps_82 : decode M_X6_keeps.2.1 82 = .ok (.aload_n 0, 1) := by decide +kernel
theorem dX6_keeps_83 : decode M_X6_keeps.2.1 83 = .ok (.dup, 1) := by decide +kernel
theorem dX6_keeps_84 : decode M_X6_keeps.2.1 84 = .ok (.getfield 214, 3) := by decide +kernel
theorem dX6_keeps_87 : decode M_X6_keeps.2.1 87 = .ok (.iconst 1, 1) := by decide +kernel
theorem dX6_keeps_88 : decode M_X6_keeps.2.1 88 = .ok (.iadd, 1) := by decide +kernel
theorem dX6_keeps_89 : decode M_X6_keeps.2.1 89 = .ok (.putfield 214, 3) := by decide +kernel
theorem dX6_keeps_92 : decode M_X6_keeps.2.1 92 = .ok (.return_, 1) := by decide +kernel
theorem dX6_tells_0 : decode M_X6_tells.2.1 0 = .ok (.aload_n 0, 1) := by decide +kernel
theorem dX6_tells_1 : decode M_X6_tells.2.1 1 = .ok (.aload_n 0, 1) := by decide +kernel
theorem dX6_tells_2 : decode M_X6_tells.2.1 2 = .ok (.getfield 51, 3) := by decide +kernel
theorem dX6_tells_5 : decode M_X6_tells.2.1 5 = .ok (.iconst 0, 1) := by decide +kernel
theorem dX6_tells_6 : decode M_X6_tells.2.1 6 = .ok (.invokevirtual 217, 3) := by decide +kernel
theorem dX6_tells_9 : decode M_X6_tells.2.1 9 = .ok (.aload_n 0, 1) := by decide +kernel
theorem dX6_tells_10 : decode M_X6_tells.2.1 10 = .ok (.invokevirtual 221, 3) := by decide +kernel
theorem dX6_tells_13 : decode M_X6_tells.2.1 13 = .ok (.ifCond .ne 20, 3) := by decide +kernel
theorem dX6_tells_16 : decode M_X6_tells.2.1 16 = .ok (.aload_n 0, 1) := by decide +kernel
theorem dX6_tells_17 : decode M_X6_tells.2.1 17 = .ok (.aload_n 0, 1) := by decide +kernel
theorem dX6_tells_18 : decode M_X6_tells.2.1 18 = .ok (.getfield 51, 3) := by decide +kernel
theorem dX6_tells_21 : decode M_X6_tells.2.1 21 = .ok (.iconst 0, 1) := by decide +kernel
theorem dX6_tells_22 : decode M_X6_tells.2.1 22 = .ok (.invokevirtual 224, 3) := by decide +kernel
theorem dX6_tells_25 : decode M_X6_tells.2.1 25 = .ok (.bipush (-10), 2) := by decide +kernel
theorem dX6_tells_27 : decode M_X6_tells.2.1 27 = .ok (.aload_n 0, 1) := by decide +kernel
theorem dX6_tells_28 : decode M_X6_tells.2.1 28 = .ok (.getfield 187, 3) := by decide +kernel
theorem dX6_tells_31 : decode M_X6_tells.2.1 31 = .ok (.isub, 1) := by decide +kernel
theorem dX6_tells_32 : decode M_X6_tells.2.1 32 = .ok (.ireturn, 1) := by decide +kernel
theorem dX6_tells_33 : decode M_X6_tells.2.1 33 = .ok (.aload_n 0, 1) := by decide +kernel
theorem dX6_tells_34 : decode M_X6_tells.2.1 34 = .ok (.invokevirtual 227, 3) := by decide +kernel
theorem dX6_tells_37 : decode M_X6_tells.2.1 37 = .ok (.aload_n 0, 1) := by decide +kernel
theorem dX6_tells_38 : decode M_X6_tells.2.1 38 = .ok (.iconst 0, 1) := by decide +kernel
theorem dX6_tells_39 : decode M_X6_tells.2.1 39 = .ok (.putfield 184, 3) := by decide +kernel
theorem dX6_tells_42 : decode M_X6_tells.2.1 42 = .ok (.aload_n 0, 1) := by decide +kernel
theorem dX6_tells_43 : decode M_X6_tells.2.1 43 = .ok (.getfield 205, 3) := by decide +kernel
theorem dX6_tells_46 : decode M_X6_tells.2.1 46 = .ok (.ireturn, 1) := by decide +kernel
theorem dX6_drops_0 : decode M_X6_drops.2.1 0 = .ok (.iload_n 1, 1) := by decide +kernel
theorem dX6_drops_1 : decode M_X6_drops.2.1 1 = .ok (.iload_n 2, 1) := by decide +kernel
theorem dX6_drops_2 : decode M_X6_drops.2.1 2 = .ok (.iload_n 3, 1) := by decide +kernel
theorem dX6_drops_3 : decode M_X6_drops.2.1 3 = .ok (.invokestatic 230, 3) := by decide +kernel
theorem dX6_drops_6 : decode M_X6_drops.2.1 6 = .ok (.ifCond .ne 5, 3) := by decide +kernel
theorem dX6_drops_9 : decode M_X6_drops.2.1 9 = .ok (.iconst (-1), 1) := by decide +kernel
theorem dX6_drops_10 : decode M_X6_drops.2.1 10 = .ok (.ireturn, 1) := by decide +kernel
theorem dX6_drops_11 : decode M_X6_drops.2.1 11 = .ok (.aload_n 0, 1) := by decide +kernel
theorem dX6_drops_12 : decode M_X6_drops.2.1 12 = .ok (.getfield 7, 3) := by decide +kernel
theorem dX6_drops_15 : decode M_X6_drops.2.1 15 = .ok (.iconst 0, 1) := by decide +kernel
theorem dX6_drops_16 : decode M_X6_drops.2.1 16 = .ok (.iaload, 1) := by decide +kernel
theorem dX6_drops_17 : decode M_X6_drops.2.1 17 = .ok (.iconst 4, 1) := by decide +kernel
theorem dX6_drops_18 : decode M_X6_drops.2.1 18 = .ok (.if_icmp .ne 6, 3) := by decide +kernel
theorem dX6_drops_21 : decode M_X6_drops.2.1 21 = .ok (.bipush (-3), 2) := by decide +kernel
theorem dX6_drops_23 : decode M_X6_drops.2.1 23 = .ok (.ireturn, 1) := by decide +kernel
theorem dX6_drops_24 : decode M_X6_drops.2.1 24 = .ok (.aload_n 0, 1) := by decide +kernel
theorem dX6_drops_25 : decode M_X6_drops.2.1 25 = .ok (.aload_n 0, 1) := by decide +kernel
theorem dX6_drops_26 : decode M_X6_drops.2.1 26 = .ok (.getfield 51, 3) := by decide +kernel
theorem dX6_drops_29 : decode M_X6_drops.2.1 29 = .ok (.iconst 0, 1) := by decide +kernel
theorem dX6_drops_30 : decode M_X6_drops.2.1 30 = .ok (.invokevirtual 217, 3) := by decide +kernel
theorem dX6_drops_33 : decode M_X6_drops.2.1 33 = .ok (.aload_n 0, 1) := by decide +kernel
theorem dX6_drops_34 : decode M_X6_drops.2.1 34 = .ok (.invokevirtual 227, 3) := by decide +kernel
theorem dX6_drops_37 : decode M_X6_drops.2.1 37 = .ok (.aload_n 0, 1) := by decide +kernel
theorem dX6_drops_38 : decode M_X6_drops.2.1 38 = .ok (.iload_n 1, 1) := by decide +kernel
theorem dX6_drops_39 : decode M_X6_drops.2.1 39 = .ok (.iload_n 2, 1) := by decide +kernel
theorem dX6_drops_40 : decode M_X6_drops.2.1 40 = .ok (.iload_n 3, 1) := by decide +kernel
theorem dX6_drops_41 : decode M_X6_drops.2.1 41 = .ok (.invokevirtual 202, 3) := by decide +kernel
theorem dX6_drops_44 : decode M_X6_drops.2.1 44 = .ok (.aload_n 0, 1) := by decide +kernel
theorem dX6_drops_45 : decode M_X6_drops.2.1 45 = .ok (.invokevirtual 161, 3) := by decide +kernel
theorem dX6_drops_48 : decode M_X6_drops.2.1 48 = .ok (.aload_n 0, 1) := by decide +kernel
theorem dX6_drops_49 : decode M_X6_drops.2.1 49 = .ok (.getfield 26, 3) := by decide +kernel
theorem dX6_drops_52 : decode M_X6_drops.2.1 52 = .ok (.aload_n 0, 1) := by decide +kernel
theorem dX6_drops_53 : decode M_X6_drops.2.1 53 = .ok (.getfield 7, 3) := by decide +kernel
theorem dX6_drops_56 : decode M_X6_drops.2.1 56 = .ok (.iconst 0, 1) := by decide +kernel
theorem dX6_drops_57 : decode M_X6_drops.2.1 57 = .ok (.iaload, 1) := by decide +kernel
theorem dX6_drops_58 : decode M_X6_drops.2.1 58 = .ok (.iconst 1, 1) := by decide +kernel
theorem dX6_drops_59 : decode M_X6_drops.2.1 59 = .ok (.isub, 1) := by decide +kernel
theorem dX6_drops_60 : decode M_X6_drops.2.1 60 = .ok (.iaload, 1) := by decide +kernel
theorem dX6_drops_61 : decode M_X6_drops.2.1 61 = .ok (.ireturn, 1) := by decide +kernel
theorem dX6_lifts_0 : decode M_X6_lifts.2.1 0 = .ok (.aload_n 0, 1) := by decide +kernel
theorem dX6_lifts_1 : decode M_X6_lifts.2.1 1 = .ok (.iload_n 1, 1) := by decide +kernel
theorem dX6_lifts_2 : decode M_X6_lifts.2.1 2 = .ok (.invokevirtual 233, 3) := by decide +kernel
theorem dX6_lifts_5 : decode M_X6_lifts.2.1 5 = .ok (.ifCond .ne 5, 3) := by decide +kernel
theorem dX6_lifts_8 : decode M_X6_lifts.2.1 8 = .ok (.iconst (-1), 1) := by decide +kernel
theorem dX6_lifts_9 : decode M_X6_lifts.2.1 9 = .ok (.ireturn, 1) := by decide +kernel
theorem dX6_lifts_10 : decode M_X6_lifts.2.1 10 = .ok (.aload_n 0, 1) := by decide +kernel
theorem dX6_lifts_11 : decode M_X6_lifts.2.1 11 = .ok (.invokevirtual 161, 3) := by decide +kernel
theorem dX6_lifts_14 : decode M_X6_lifts.2.1 14 = .ok (.aload_n 0, 1) := by decide +kernel
theorem dX6_lifts_15 : decode M_X6_lifts.2.1 15 = .ok (.iload_n 1, 1) := by decide +kernel
theorem dX6_lifts_16 : decode M_X6_lifts.2.1 16 = .ok (.invokevirtual 236, 3) := by decide +kernel
theorem dX6_lifts_19 : decode M_X6_lifts.2.1 19 = .ok (.ifCond .eq 6, 3) := by decide +kernel
theorem dX6_lifts_22 : decode M_X6_lifts.2.1 22 = .ok (.bipush (-2), 2) := by decide +kernel
theorem dX6_lifts_24 : decode M_X6_lifts.2.1 24 = .ok (.ireturn, 1) := by decide +kernel
theorem dX6_lifts_25 : decode M_X6_lifts.2.1 25 = .ok (.aload_n 0, 1) := by decide +kernel
theorem dX6_lifts_26 : decode M_X6_lifts.2.1 26 = .ok (.aload_n 0, 1) := by decide +kernel
theorem dX6_lifts_27 : decode M_X6_lifts.2.1 27 = .ok (.getfield 51, 3) := by decide +kernel
theorem dX6_lifts_30 : decode M_X6_lifts.2.1 30 = .ok (.iconst 0, 1) := by decide +kernel
theorem dX6_lifts_31 : decode M_X6_lifts.2.1 31 = .ok (.invokevirtual 217, 3) := by decide +kernel
theorem dX6_lifts_34 : decode M_X6_lifts.2.1 34 = .ok (.aload_n 0, 1) := by decide +kernel
theorem dX6_lifts_35 : decode M_X6_lifts.2.1 35 = .ok (.invokevirtual 227, 3) := by decide +kernel
theorem dX6_lifts_38 : decode M_X6_lifts.2.1 38 = .ok (.aload_n 0, 1) := by decide +kernel
theorem dX6_lifts_39 : decode M_X6_lifts.2.1 39 = .ok (.iload_n 1, 1) := by decide +kernel
theorem dX6_lifts_40 : decode M_X6_lifts.2.1 40 = .ok (.invokevirtual 239, 3) := by decide +kernel
theorem dX6_lifts_43 : decode M_X6_lifts.2.1 43 = .ok (.aload_n 0, 1) := by decide +kernel
theorem dX6_lifts_44 : decode M_X6_lifts.2.1 44 = .ok (.getfield 7, 3) := by decide +kernel
theorem dX6_lifts_47 : decode M_X6_lifts.2.1 47 = .ok (.iconst 0, 1) := by decide +kernel
theorem dX6_lifts_48 : decode M_X6_lifts.2.1 48 = .ok (.iaload, 1) := by decide +kernel
theorem dX6_lifts_49 : decode M_X6_lifts.2.1 49 = .ok (.ireturn, 1) := by decide +kernel
theorem dX6_weighs_0 : decode M_X6_weighs.2.1 0 = .ok (.aload_n 0, 1) := by decide +kernel
theorem dX6_weighs_1 : decode M_X6_weighs.2.1 1 = .ok (.iload_n 1, 1) := by decide +kernel
theorem dX6_weighs_2 : decode M_X6_weighs.2.1 2 = .ok (.invokevirtual 233, 3) := by decide +kernel
theorem dX6_weighs_5 : decode M_X6_weighs.2.1 5 = .ok (.ifCond .eq 13, 3) := by decide +kernel
theorem dX6_weighs_8 : decode M_X6_weighs.2.1 8 = .ok (.iload_n 2, 1) := by decide +kernel
theorem dX6_weighs_9 : decode M_X6_weighs.2.1 9 = .ok (.iconst 1, 1) := by decide +kernel
theorem dX6_weighs_10 : decode M_X6_weighs.2.1 10 = .ok (.bipush 9, 2) := by decide +kernel
theorem dX6_weighs_12 : decode M_X6_weighs.2.1 12 = .ok (.invokestatic 54, 3) := by decide +kernel
theorem dX6_weighs_15 : decode M_X6_weighs.2.1 15 = .ok (.ifCond .ne 5, 3) := by decide +kernel
theorem dX6_weighs_18 : decode M_X6_weighs.2.1 18 = .ok (.iconst (-1), 1) := by decide +kernel
theorem dX6_weighs_19 : decode M_X6_weighs.2.1 19 = .ok (.ireturn, 1) := by decide +kernel
theorem dX6_weighs_20 : decode M_X6_weighs.2.1 20 = .ok (.aload_n 0, 1) := by decide +kernel
theorem dX6_weighs_21 : decode M_X6_weighs.2.1 21 = .ok (.iload_n 1, 1) := by decide +kernel
theorem dX6_weighs_22 : decode M_X6_weighs.2.1 22 = .ok (.iconst 3, 1) := by decide +kernel
theorem dX6_weighs_23 : decode M_X6_weighs.2.1 23 = .ok (.invokevirtual 58, 3) := by decide +kernel
theorem dX6_weighs_26 : decode M_X6_weighs.2.1 26 = .ok (.istore_n 3, 1) := by decide +kernel
theorem dX6_weighs_27 : decode M_X6_weighs.2.1 27 = .ok (.iload_n 3, 1) := by decide +kernel
theorem dX6_weighs_28 : decode M_X6_weighs.2.1 28 = .ok (.iload_n 2, 1) := by decide +kernel
theorem dX6_weighs_29 : decode M_X6_weighs.2.1 29 = .ok (.if_icmp .ne 6, 3) := by decide +kernel
theorem dX6_weighs_32 : decode M_X6_weighs.2.1 32 = .ok (.bipush (-2), 2) := by decide +kernel
theorem dX6_weighs_34 : decode M_X6_weighs.2.1 34 = .ok (.ireturn, 1) := by decide +kernel
theorem dX6_weighs_35 : decode M_X6_weighs.2.1 35 = .ok (.aload_n 0, 1) := by decide +kernel
theorem dX6_weighs_36 : decode M_X6_weighs.2.1 36 = .ok (.aload_n 0, 1) := by decide +kernel
theorem dX6_weighs_37 : decode M_X6_weighs.2.1 37 = .ok (.getfield 51, 3) := by decide +kernel
theorem dX6_weighs_40 : decode M_X6_weighs.2.1 40 = .ok (.iconst 0, 1) := by decide +kernel
theorem dX6_weighs_41 : decode M_X6_weighs.2.1 41 = .ok (.invokevirtual 217, 3) := by decide +kernel
theorem dX6_weighs_44 : decode M_X6_weighs.2.1 44 = .ok (.aload_n 0, 1) := by decide +kernel
theorem dX6_weighs_45 : decode M_X6_weighs.2.1 45 = .ok (.invokevirtual 227, 3) := by decide +kernel
theorem dX6_weighs_48 : decode M_X6_weighs.2.1 48 = .ok (.aload_n 0, 1) := by decide +kernel
theorem dX6_weighs_49 : decode M_X6_weighs.2.1 49 = .ok (.getfield 7, 3) := by decide +kernel
theorem dX6_weighs_52 : decode M_X6_weighs.2.1 52 = .ok (.iconst 5, 1) := by decide +kernel
theorem dX6_weighs_53 : decode M_X6_weighs.2.1 53 = .ok (.iload_n 1, 1) := by decide +kernel
theorem dX6_weighs_54 : decode M_X6_weighs.2.1 54 = .ok (.imul, 1) := by decide +kernel
theorem dX6_weighs_55 : decode M_X6_weighs.2.1 55 = .ok (.iconst 3, 1) := by decide +kernel
theorem dX6_weighs_56 : decode M_X6_weighs.2.1 56 = .ok (.iadd, 1) := by decide +kernel
theorem dX6_weighs_57 : decode M_X6_weighs.2.1 57 = .ok (.iload_n 2, 1) := by decide +kernel
theorem dX6_weighs_58 : decode M_X6_weighs.2.1 58 = .ok (.iastore, 1) := by decide +kernel
theorem dX6_weighs_59 : decode M_X6_weighs.2.1 59 = .ok (.iload_n 3, 1) := by decide +kernel
theorem dX6_weighs_60 : decode M_X6_weighs.2.1 60 = .ok (.ireturn, 1) := by decide +kernel
theorem dX6_isSpot_0 : decode M_X6_isSpot.2.1 0 = .ok (.aload_n 0, 1) := by decide +kernel
theorem dX6_isSpot_1 : decode M_X6_isSpot.2.1 1 = .ok (.iload_n 1, 1) := by decide +kernel
theorem dX6_isSpot_2 : decode M_X6_isSpot.2.1 2 = .ok (.invokevirtual 233, 3) := by decide +kernel
theorem dX6_isSpot_5 : decode M_X6_isSpot.2.1 5 = .ok (.ifCond .eq 23, 3) := by decide +kernel
theorem dX6_isSpot_8 : decode M_X6_isSpot.2.1 8 = .ok (.iload_n 2, 1) := by decide +kernel
theorem dX6_isSpot_9 : decode M_X6_isSpot.2.1 9 = .ok (.iconst 0, 1) := by decide +kernel
theorem dX6_isSpot_10 : decode M_X6_isSpot.2.1 10 = .ok (.iconst 2, 1) := by decide +kernel
theorem dX6_isSpot_11 : decode M_X6_isSpot.2.1 11 = .ok (.aload_n 0, 1) := by decide +kernel
theorem dX6_isSpot_12 : decode M_X6_isSpot.2.1 12 = .ok (.iload_n 1, 1) := by decide +kernel
theorem dX6_isSpot_13 : decode M_X6_isSpot.2.1 13 = .ok (.iconst 2, 1) := by decide +kernel
theorem dX6_isSpot_14 : decode M_X6_isSpot.2.1 14 = .ok (.invokevirtual 58, 3) := by decide +kernel
theorem dX6_isSpot_17 : decode M_X6_isSpot.2.1 17 = .ok (.imul, 1) := by decide +kernel
theorem dX6_isSpot_18 : decode M_X6_isSpot.2.1 18 = .ok (.invokestatic 54, 3) := by decide +kernel
theorem dX6_isSpot_21 : decode M_X6_isSpot.2.1 21 = .ok (.ifCond .eq 7, 3) := by decide +kernel
theorem dX6_isSpot_24 : decode M_X6_isSpot.2.1 24 = .ok (.iconst 1, 1) := by decide +kernel
theorem dX6_isSpot_25 : decode M_X6_isSpot.2.1 25 = .ok (.goto 4, 3) := by decide +kernel
theorem dX6_isSpot_28 : decode M_X6_isSpot.2.1 28 = .ok (.iconst 0, 1) := by decide +kernel
theorem dX6_isSpot_29 : decode M_X6_isSpot.2.1 29 = .ok (.ireturn, 1) := by decide +kernel
theorem dX6_loads_0 : decode M_X6_loads.2.1 0 = .ok (.aload_n 0, 1) := by decide +kernel
theorem dX6_loads_1 : decode M_X6_loads.2.1 1 = .ok (.iload_n 1, 1) := by decide +kernel
theorem dX6_loads_2 : decode M_X6_loads.2.1 2 = .ok (.iload_n 2, 1) := by decide +kernel
theorem dX6_loads_3 : decode M_X6_loads.2.1 3 = .ok (.invokevirtual 242, 3) := by decide +kernel
theorem dX6_loads_6 : decode M_X6_loads.2.1 6 = .ok (.ifCond .eq 13, 3) := by decide +kernel
theorem dX6_loads_9 : decode M_X6_loads.2.1 9 = .ok (.iload_n 3, 1) := by decide +kernel
theorem dX6_loads_10 : decode M_X6_loads.2.1 10 = .ok (.iconst 0, 1) := by decide +kernel
theorem dX6_loads_11 : decode M_X6_loads.2.1 11 = .ok (.bipush 20, 2) := by decide +kernel
theorem dX6_loads_13 : decode M_X6_loads.2.1 13 = .ok (.invokestatic 54, 3) := by decide +kernel
theorem dX6_loads_16 : decode M_X6_loads.2.1 16 = .ok (.ifCond .ne 5, 3) := by decide +kernel
theorem dX6_loads_19 : decode M_X6_loads.2.1 19 = .ok (.iconst (-1), 1) := by decide +kernel
theorem dX6_loads_20 : decode M_X6_loads.2.1 20 = .ok (.ireturn, 1) := by decide +kernel
theorem dX6_loads_21 : decode M_X6_loads.2.1 21 = .ok (.aload_n 0, 1) := by decide +kernel
theorem dX6_loads_22 : decode M_X6_loads.2.1 22 = .ok (.iload_n 1, 1) := by decide +kernel
theorem dX6_loads_23 : decode M_X6_loads.2.1 23 = .ok (.iconst 4, 1) := by decide +kernel
theorem dX6_loads_24 : decode M_X6_loads.2.1 24 = .ok (.invokevirtual 58, 3) := by decide +kernel
theorem dX6_loads_27 : decode M_X6_loads.2.1 27 = .ok (.istore 4, 2) := by decide +kernel
theorem dX6_loads_29 : decode M_X6_loads.2.1 29 = .ok (.iload 4, 2) := by decide +kernel
theorem dX6_loads_31 : decode M_X6_loads.2.1 31 = .ok (.iload_n 3, 1) := by decide +kernel
theorem dX6_loads_32 : decode M_X6_loads.2.1 32 = .ok (.if_icmp .ne 16, 3) := by decide +kernel
theorem dX6_loads_35 : decode M_X6_loads.2.1 35 = .ok (.aload_n 0, 1) := by decide +kernel
theorem dX6_loads_36 : decode M_X6_loads.2.1 36 = .ok (.iload_n 1, 1) := by decide +kernel
theorem dX6_loads_37 : decode M_X6_loads.2.1 37 = .ok (.iconst 5, 1) := by decide +kernel
theorem dX6_loads_38 : decode M_X6_loads.2.1 38 = .ok (.invokevirtual 58, 3) := by decide +kernel
theorem dX6_loads_41 : decode M_X6_loads.2.1 41 = .ok (.iload_n 2, 1) := by decide +kernel
theorem dX6_loads_42 : decode M_X6_loads.2.1 42 = .ok (.if_icmp .ne 6, 3) := by decide +kernel
theorem dX6_loads_45 : decode M_X6_loads.2.1 45 = .ok (.bipush (-2), 2) := by decide +kernel
theorem dX6_loads_47 : decode M_X6_loads.2.1 47 = .ok (.ireturn, 1) := by decide +kernel
theorem dX6_loads_48 : decode M_X6_loads.2.1 48 = .ok (.aload_n 0, 1) := by decide +kernel
theorem dX6_loads_49 : decode M_X6_loads.2.1 49 = .ok (.aload_n 0, 1) := by decide +kernel
theorem dX6_loads_50 : decode M_X6_loads.2.1 50 = .ok (.getfield 51, 3) := by decide +kernel
theorem dX6_loads_53 : decode M_X6_loads.2.1 53 = .ok (.iconst 0, 1) := by decide +kernel
theorem dX6_loads_54 : decode M_X6_loads.2.1 54 = .ok (.invokevirtual 217, 3) := by decide +kernel
theorem dX6_loads_57 : decode M_X6_loads.2.1 57 = .ok (.aload_n 0, 1) := by decide +kernel
theorem dX6_loads_58 : decode M_X6_loads.2.1 58 = .ok (.invokevirtual 227, 3) := by decide +kernel
theorem dX6_loads_61 : decode M_X6_loads.2.1 61 = .ok (.aload_n 0, 1) := by decide +kernel
theorem dX6_loads_62 : decode M_X6_loads.2.1 62 = .ok (.getfield 7, 3) := by decide +kernel
theorem dX6_loads_65 : decode M_X6_loads.2.1 65 = .ok (.iconst 5, 1) := by decide +kernel
theorem dX6_loads_66 : decode M_X6_loads.2.1 66 = .ok (.iload_n 1, 1) := by decide +kernel
theorem dX6_loads_67 : decode M_X6_loads.2.1 67 = .ok (.imul, 1) := by decide +kernel
theorem dX6_loads_68 : decode M_X6_loads.2.1 68 = .ok (.iconst 4, 1) := by decide +kernel
theorem dX6_loads_69 : decode M_X6_loads.2.1 69 = .ok (.iadd, 1) := by decide +kernel
theorem dX6_loads_70 : decode M_X6_loads.2.1 70 = .ok (.iload_n 3, 1) := by decide +kernel
theorem dX6_loads_71 : decode M_X6_loads.2.1 71 = .ok (.iastore, 1) := by decide +kernel
theorem dX6_loads_72 : decode M_X6_loads.2.1 72 = .ok (.aload_n 0, 1) := by decide +kernel
theorem dX6_loads_73 : decode M_X6_loads.2.1 73 = .ok (.getfield 7, 3) := by decide +kernel
theorem dX6_loads_76 : decode M_X6_loads.2.1 76 = .ok (.iconst 5, 1) := by decide +kernel
theorem dX6_loads_77 : decode M_X6_loads.2.1 77 = .ok (.iload_n 1, 1) := by decide +kernel
theorem dX6_loads_78 : decode M_X6_loads.2.1 78 = .ok (.imul, 1) := by decide +kernel
theorem dX6_loads_79 : decode M_X6_loads.2.1 79 = .ok (.iconst 5, 1) := by decide +kernel
theorem dX6_loads_80 : decode M_X6_loads.2.1 80 = .ok (.iadd, 1) := by decide +kernel
theorem dX6_loads_81 : decode M_X6_loads.2.1 81 = .ok (.iload_n 2, 1) := by decide +kernel
theorem dX6_loads_82 : decode M_X6_loads.2.1 82 = .ok (.iastore, 1) := by decide +kernel
theorem dX6_loads_83 : decode M_X6_loads.2.1 83 = .ok (.iload 4, 2) := by decide +kernel
theorem dX6_loads_85 : decode M_X6_loads.2.1 85 = .ok (.ireturn, 1) := by decide +kernel
theorem dX6_undo_0 : decode M_X6_undo.2.1 0 = .ok (.aload_n 0, 1) := by decide +kernel
theorem dX6_undo_1 : decode M_X6_undo.2.1 1 = .ok (.getfield 214, 3) := by decide +kernel
theorem dX6_undo_4 : decode M_X6_undo.2.1 4 = .ok (.ifCond .ne 6, 3) := by decide +kernel
theorem dX6_undo_7 : decode M_X6_undo.2.1 7 = .ok (.bipush (-2), 2) := by decide +kernel
theorem dX6_undo_9 : decode M_X6_undo.2.1 9 = .ok (.ireturn, 1) := by decide +kernel
theorem dX6_undo_10 : decode M_X6_undo.2.1 10 = .ok (.aload_n 0, 1) := by decide +kernel
theorem dX6_undo_11 : decode M_X6_undo.2.1 11 = .ok (.dup, 1) := by decide +kernel
theorem dX6_undo_12 : decode M_X6_undo.2.1 12 = .ok (.getfield 214, 3) := by decide +kernel
theorem dX6_undo_15 : decode M_X6_undo.2.1 15 = .ok (.iconst 1, 1) := by decide +kernel
theorem dX6_undo_16 : decode M_X6_undo.2.1 16 = .ok (.isub, 1) := by decide +kernel
theorem dX6_undo_17 : decode M_X6_undo.2.1 17 = .ok (.putfield 214, 3) := by decide +kernel
theorem dX6_undo_20 : decode M_X6_undo.2.1 20 = .ok (.aload_n 0, 1) := by decide +kernel
theorem dX6_undo_21 : decode M_X6_undo.2.1 21 = .ok (.aload_n 0, 1) := by decide +kernel
theorem dX6_undo_22 : decode M_X6_undo.2.1 22 = .ok (.getfield 13, 3) := by decide +kernel
theorem dX6_undo_25 : decode M_X6_undo.2.1 25 = .ok (.bipush 21, 2) := by decide +kernel
theorem dX6_undo_27 : decode M_X6_undo.2.1 27 = .ok (.aload_n 0, 1) := by decide +kernel
theorem dX6_undo_28 : decode M_X6_undo.2.1 28 = .ok (.getfield 214, 3) := by decide +kernel
theorem dX6_undo_31 : decode M_X6_undo.2.1 31 = .ok (.imul, 1) := by decide +kernel
theorem dX6_undo_32 : decode M_X6_undo.2.1 32 = .ok (.invokevirtual 224, 3) := by decide +kernel
theorem dX6_undo_35 : decode M_X6_undo.2.1 35 = .ok (.aload_n 0, 1) := by decide +kernel
theorem dX6_undo_36 : decode M_X6_undo.2.1 36 = .ok (.getfield 214, 3) := by decide +kernel
theorem dX6_undo_39 : decode M_X6_undo.2.1 39 = .ok (.ireturn, 1) := by decide +kernel
theorem dX6_tellBlock_0 : decode M_X6_tellBlock.2.1 0 = .ok (.iload_n 2, 1) := by decide +kernel
theorem dX6_tellBlock_1 : decode M_X6_tellBlock.2.1 1 = .ok (.iconst 5, 1) := by decide +kernel
theorem dX6_tellBlock_2 : decode M_X6_tellBlock.2.1 2 = .ok (.if_icmp .ge 12, 3) := by decide +kernel
theorem dX6_tellBlock_5 : decode M_X6_tellBlock.2.1 5 = .ok (.aload_n 0, 1) := by decide +kernel
theorem dX6_tellBlock_6 : decode M_X6_tellBlock.2.1 6 = .ok (.iload_n 1, 1) := by decide +kernel
theorem dX6_tellBlock_7 : decode M_X6_tellBlock.2.1 7 = .ok (.iload_n 2, 1) := by decide +kernel
theorem dX6_tellBlock_8 : decode M_X6_tellBlock.2.1 8 = .ok (.iconst 1, 1) := by decide +kernel
theorem dX6_tellBlock_9 : decode M_X6_tellBlock.2.1 9 = .ok (.iadd, 1) := by decide +kernel
theorem dX6_tellBlock_10 : decode M_X6_tellBlock.2.1 10 = .ok (.invokevirtual 58, 3) := by decide +kernel
theorem dX6_tellBlock_13 : decode M_X6_tellBlock.2.1 13 = .ok (.ireturn, 1) := by decide +kernel
theorem dX6_tellBlock_14 : decode M_X6_tellBlock.2.1 14 = .ok (.aload_n 0, 1) := by decide +kernel
theorem dX6_tellBlock_15 : decode M_X6_tellBlock.2.1 15 = .ok (.invokevirtual 161, 3) := by decide +kernel
theorem dX6_tellBlock_18 : decode M_X6_tellBlock.2.1 18 = .ok (.iload_n 2, 1) := by decide +kernel
theorem dX6_tellBlock_19 : decode M_X6_tellBlock.2.1 19 = .ok (.iconst 5, 1) := by decide +kernel
theorem dX6_tellBlock_20 : decode M_X6_tellBlock.2.1 20 = .ok (.if_icmp .ne 12, 3) := by decide +kernel
theorem dX6_tellBlock_23 : decode M_X6_tellBlock.2.1 23 = .ok (.aload_n 0, 1) := by decide +kernel
theorem dX6_tellBlock_24 : decode M_X6_tellBlock.2.1 24 = .ok (.getfield 26, 3) := by decide +kernel
theorem dX6_tellBlock_27 : decode M_X6_tellBlock.2.1 27 = .ok (.iload_n 1, 1) := by decide +kernel
theorem dX6_tellBlock_28 : decode M_X6_tellBlock.2.1 28 = .ok (.iaload, 1) := by decide +kernel
theorem dX6_tellBlock_29 : decode M_X6_tellBlock.2.1 29 = .ok (.goto 23, 3) := by decide +kernel
theorem dX6_tellBlock_32 : decode M_X6_tellBlock.2.1 32 = .ok (.iload_n 2, 1) := by decide +kernel
theorem dX6_tellBlock_33 : decode M_X6_tellBlock.2.1 33 = .ok (.bipush 6, 2) := by decide +kernel
theorem dX6_tellBlock_35 : decode M_X6_tellBlock.2.1 35 = .ok (.if_icmp .ne 12, 3) := by decide +kernel
theorem dX6_tellBlock_38 : decode M_X6_tellBlock.2.1 38 = .ok (.aload_n 0, 1) := by decide +kernel
theorem dX6_tellBlock_39 : decode M_X6_tellBlock.2.1 39 = .ok (.getfield 29, 3) := by decide +kernel
theorem dX6_tellBlock_42 : decode M_X6_tellBlock.2.1 42 = .ok (.iload_n 1, 1) := by decide +kernel
theorem dX6_tellBlock_43 : decode M_X6_tellBlock.2.1 43 = .ok (.iaload, 1) := by decide +kernel
theorem dX6_tellBlock_44 : decode M_X6_tellBlock.2.1 44 = .ok (.goto 8, 3) := by decide +kernel
theorem dX6_tellBlock_47 : decode M_X6_tellBlock.2.1 47 = .ok (.aload_n 0, 1) := by decide +kernel
theorem dX6_tellBlock_48 : decode M_X6_tellBlock.2.1 48 = .ok (.iload_n 1, 1) := by decide +kernel
theorem dX6_tellBlock_49 : decode M_X6_tellBlock.2.1 49 = .ok (.invokevirtual 236, 3) := by decide +kernel
theorem dX6_tellBlock_52 : decode M_X6_tellBlock.2.1 52 = .ok (.ireturn, 1) := by decide +kernel
theorem dX6_block_0 : decode M_X6_block.2.1 0 = .ok (.aload_n 0, 1) := by decide +kernel
theorem dX6_block_1 : decode M_X6_block.2.1 1 = .ok (.iload_n 1, 1) := by decide +kernel
theorem dX6_block_2 : decode M_X6_block.2.1 2 = .ok (.invokevirtual 233, 3) := by decide +kernel
theorem dX6_block_5 : decode M_X6_block.2.1 5 = .ok (.ifCond .eq 22, 3) := by decide +kernel
theorem dX6_block_8 : decode M_X6_block.2.1 8 = .ok (.iload_n 2, 1) := by decide +kernel
theorem dX6_block_9 : decode M_X6_block.2.1 9 = .ok (.iconst 0, 1) := by decide +kernel
theorem dX6_block_10 : decode M_X6_block.2.1 10 = .ok (.bipush 7, 2) := by decide +kernel
theorem dX6_block_12 : decode M_X6_block.2.1 12 = .ok (.invokestatic 54, 3) := by decide +kernel
theorem dX6_block_15 : decode M_X6_block.2.1 15 = .ok (.ifCond .eq 12, 3) := by decide +kernel
theorem dX6_block_18 : decode M_X6_block.2.1 18 = .ok (.aload_n 0, 1) := by decide +kernel
theorem dX6_block_19 : decode M_X6_block.2.1 19 = .ok (.iload_n 1, 1) := by decide +kernel
theorem dX6_block_20 : decode M_X6_block.2.1 20 = .ok (.iload_n 2, 1) := by decide +kernel
theorem dX6_block_21 : decode M_X6_block.2.1 21 = .ok (.invokevirtual 245, 3) := by decide +kernel
theorem dX6_block_24 : decode M_X6_block.2.1 24 = .ok (.goto 4, 3) := by decide +kernel
theorem dX6_block_27 : decode M_X6_block.2.1 27 = .ok (.iconst (-1), 1) := by decide +kernel
theorem dX6_block_28 : decode M_X6_block.2.1 28 = .ok (.ireturn, 1) := by decide +kernel
theorem dX6_isContact_0 : decode M_X6_isContact.2.1 0 = .ok (.aload_n 0, 1) := by decide +kernel
theorem dX6_isContact_1 : decode M_X6_isContact.2.1 1 = .ok (.invokevirtual 161, 3) := by decide +kernel
theorem dX6_isContact_4 : decode M_X6_isContact.2.1 4 = .ok (.iload_n 1, 1) := by decide +kernel
theorem dX6_isContact_5 : decode M_X6_isContact.2.1 5 = .ok (.iconst 0, 1) := by decide +kernel
theorem dX6_isContact_6 : decode M_X6_isContact.2.1 6 = .ok (.aload_n 0, 1) := by decide +kernel
theorem dX6_isContact_7 : decode M_X6_isContact.2.1 7 = .ok (.getfield 72, 3) := by decide +kernel
theorem dX6_isContact_10 : decode M_X6_isContact.2.1 10 = .ok (.iconst 1, 1) := by decide +kernel
theorem dX6_isContact_11 : decode M_X6_isContact.2.1 11 = .ok (.isub, 1) := by decide +kernel
theorem dX6_isContact_12 : decode M_X6_isContact.2.1 12 = .ok (.invokestatic 54, 3) := by decide +kernel
theorem dX6_isContact_15 : decode M_X6_isContact.2.1 15 = .ok (.ireturn, 1) := by decide +kernel
theorem dX6_contact_0 : decode M_X6_contact.2.1 0 = .ok (.aload_n 0, 1) := by decide +kernel
theorem dX6_contact_1 : decode M_X6_contact.2.1 1 = .ok (.iload_n 1, 1) := by decide +kernel
