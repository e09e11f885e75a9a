theorem dX4_next_32 : decode M_X4_next.2.1 32 = .ok (.getfield 19, 3) := by decide +kernel
theorem dX4_next_35 : decode M_X4_next.2.1 35 = .ok (.saload, 1) := by decide +kernel
theorem dX4_next_36 : decode M_X4_next.2.1 36 = .ok (.goto 4, 3) := by decide +kernel
theorem dX4_next_39 : decode M_X4_next.2.1 39 = .ok (.iconst (-1), 1) := by decide +kernel
theorem dX4_next_40 : decode M_X4_next.2.1 40 = .ok (.ireturn, 1) := by decide +kernel
theorem dX4_isFigure_0 : decode M_X4_isFigure.2.1 0 = .ok (.iload_n 0, 1) := by decide +kernel
theorem dX4_isFigure_1 : decode M_X4_isFigure.2.1 1 = .ok (.bipush 48, 2) := by decide +kernel
theorem dX4_isFigure_3 : decode M_X4_isFigure.2.1 3 = .ok (.bipush 57, 2) := by decide +kernel
theorem dX4_isFigure_5 : decode M_X4_isFigure.2.1 5 = .ok (.invokestatic 74, 3) := by decide +kernel
theorem dX4_isFigure_8 : decode M_X4_isFigure.2.1 8 = .ok (.ireturn, 1) := by decide +kernel
theorem dX5_init_0 : decode M_X5_init.2.1 0 = .ok (.aload_n 0, 1) := by decide +kernel
theorem dX5_init_1 : decode M_X5_init.2.1 1 = .ok (.invokespecial 1, 3) := by decide +kernel
theorem dX5_init_4 : decode M_X5_init.2.1 4 = .ok (.aload_n 0, 1) := by decide +kernel
theorem dX5_init_5 : decode M_X5_init.2.1 5 = .ok (.new 7, 3) := by decide +kernel
theorem dX5_init_8 : decode M_X5_init.2.1 8 = .ok (.dup, 1) := by decide +kernel
theorem dX5_init_9 : decode M_X5_init.2.1 9 = .ok (.invokespecial 9, 3) := by decide +kernel
theorem dX5_init_12 : decode M_X5_init.2.1 12 = .ok (.putfield 10, 3) := by decide +kernel
theorem dX5_init_15 : decode M_X5_init.2.1 15 = .ok (.aload_n 0, 1) := by decide +kernel
theorem dX5_init_16 : decode M_X5_init.2.1 16 = .ok (.new 7, 3) := by decide +kernel
theorem dX5_init_19 : decode M_X5_init.2.1 19 = .ok (.dup, 1) := by decide +kernel
theorem dX5_init_20 : decode M_X5_init.2.1 20 = .ok (.invokespecial 9, 3) := by decide +kernel
theorem dX5_init_23 : decode M_X5_init.2.1 23 = .ok (.putfield 16, 3) := by decide +kernel
theorem dX5_init_26 : decode M_X5_init.2.1 26 = .ok (.aload_n 0, 1) := by decide +kernel
theorem dX5_init_27 : decode M_X5_init.2.1 27 = .ok (.new 19, 3) := by decide +kernel
theorem dX5_init_30 : decode M_X5_init.2.1 30 = .ok (.dup, 1) := by decide +kernel
theorem dX5_init_31 : decode M_X5_init.2.1 31 = .ok (.invokespecial 21, 3) := by decide +kernel
theorem dX5_init_34 : decode M_X5_init.2.1 34 = .ok (.putfield 22, 3) := by decide +kernel
theorem dX5_init_37 : decode M_X5_init.2.1 37 = .ok (.aload_n 0, 1) := by decide +kernel
theorem dX5_init_38 : decode M_X5_init.2.1 38 = .ok (.new 26, 3) := by decide +kernel
theorem dX5_init_41 : decode M_X5_init.2.1 41 = .ok (.dup, 1) := by decide +kernel
theorem dX5_init_42 : decode M_X5_init.2.1 42 = .ok (.invokespecial 28, 3) := by decide +kernel
theorem dX5_init_45 : decode M_X5_init.2.1 45 = .ok (.putfield 29, 3) := by decide +kernel
theorem dX5_init_48 : decode M_X5_init.2.1 48 = .ok (.aload_n 0, 1) := by decide +kernel
theorem dX5_init_49 : decode M_X5_init.2.1 49 = .ok (.new 33, 3) := by decide +kernel
theorem dX5_init_52 : decode M_X5_init.2.1 52 = .ok (.dup, 1) := by decide +kernel
theorem dX5_init_53 : decode M_X5_init.2.1 53 = .ok (.invokespecial 35, 3) := by decide +kernel
theorem dX5_init_56 : decode M_X5_init.2.1 56 = .ok (.putfield 36, 3) := by decide +kernel
theorem dX5_init_59 : decode M_X5_init.2.1 59 = .ok (.aload_n 0, 1) := by decide +kernel
theorem dX5_init_60 : decode M_X5_init.2.1 60 = .ok (.new 40, 3) := by decide +kernel
theorem dX5_init_63 : decode M_X5_init.2.1 63 = .ok (.dup, 1) := by decide +kernel
theorem dX5_init_64 : decode M_X5_init.2.1 64 = .ok (.bipush 6, 2) := by decide +kernel
theorem dX5_init_66 : decode M_X5_init.2.1 66 = .ok (.invokespecial 42, 3) := by decide +kernel
theorem dX5_init_69 : decode M_X5_init.2.1 69 = .ok (.putfield 45, 3) := by decide +kernel
theorem dX5_init_72 : decode M_X5_init.2.1 72 = .ok (.aload_n 0, 1) := by decide +kernel
theorem dX5_init_73 : decode M_X5_init.2.1 73 = .ok (.new 40, 3) := by decide +kernel
theorem dX5_init_76 : decode M_X5_init.2.1 76 = .ok (.dup, 1) := by decide +kernel
theorem dX5_init_77 : decode M_X5_init.2.1 77 = .ok (.iconst 2, 1) := by decide +kernel
theorem dX5_init_78 : decode M_X5_init.2.1 78 = .ok (.invokespecial 42, 3) := by decide +kernel
theorem dX5_init_81 : decode M_X5_init.2.1 81 = .ok (.putfield 49, 3) := by decide +kernel
theorem dX5_init_84 : decode M_X5_init.2.1 84 = .ok (.aload_n 0, 1) := by decide +kernel
theorem dX5_init_85 : decode M_X5_init.2.1 85 = .ok (.iconst 2, 1) := by decide +kernel
theorem dX5_init_86 : decode M_X5_init.2.1 86 = .ok (.newarray .boolean, 2) := by decide +kernel
theorem dX5_init_88 : decode M_X5_init.2.1 88 = .ok (.putfield 52, 3) := by decide +kernel
theorem dX5_init_91 : decode M_X5_init.2.1 91 = .ok (.aload_n 0, 1) := by decide +kernel
theorem dX5_init_92 : decode M_X5_init.2.1 92 = .ok (.iconst 0, 1) := by decide +kernel
theorem dX5_init_93 : decode M_X5_init.2.1 93 = .ok (.putfield 56, 3) := by decide +kernel
theorem dX5_init_96 : decode M_X5_init.2.1 96 = .ok (.return_, 1) := by decide +kernel
theorem dX5_type_0 : decode M_X5_type.2.1 0 = .ok (.iload_n 1, 1) := by decide +kernel
theorem dX5_type_1 : decode M_X5_type.2.1 1 = .ok (.iconst 0, 1) := by decide +kernel
theorem dX5_type_2 : decode M_X5_type.2.1 2 = .ok (.sipush 255, 3) := by decide +kernel
theorem dX5_type_5 : decode M_X5_type.2.1 5 = .ok (.invokestatic 60, 3) := by decide +kernel
theorem dX5_type_8 : decode M_X5_type.2.1 8 = .ok (.ifCond .ne 5, 3) := by decide +kernel
theorem dX5_type_11 : decode M_X5_type.2.1 11 = .ok (.iconst (-1), 1) := by decide +kernel
theorem dX5_type_12 : decode M_X5_type.2.1 12 = .ok (.ireturn, 1) := by decide +kernel
theorem dX5_type_13 : decode M_X5_type.2.1 13 = .ok (.aload_n 0, 1) := by decide +kernel
theorem dX5_type_14 : decode M_X5_type.2.1 14 = .ok (.getfield 36, 3) := by decide +kernel
theorem dX5_type_17 : decode M_X5_type.2.1 17 = .ok (.iload_n 1, 1) := by decide +kernel
theorem dX5_type_18 : decode M_X5_type.2.1 18 = .ok (.invokevirtual 64, 3) := by decide +kernel
theorem dX5_type_21 : decode M_X5_type.2.1 21 = .ok (.ifCond .eq 13, 3) := by decide +kernel
theorem dX5_type_24 : decode M_X5_type.2.1 24 = .ok (.aload_n 0, 1) := by decide +kernel
theorem dX5_type_25 : decode M_X5_type.2.1 25 = .ok (.getfield 36, 3) := by decide +kernel
theorem dX5_type_28 : decode M_X5_type.2.1 28 = .ok (.invokevirtual 68, 3) := by decide +kernel
theorem dX5_type_31 : decode M_X5_type.2.1 31 = .ok (.goto 5, 3) := by decide +kernel
theorem dX5_type_34 : decode M_X5_type.2.1 34 = .ok (.bipush (-3), 2) := by decide +kernel
theorem dX5_type_36 : decode M_X5_type.2.1 36 = .ok (.ireturn, 1) := by decide +kernel
theorem dX5_clear_0 : decode M_X5_clear.2.1 0 = .ok (.aload_n 0, 1) := by decide +kernel
theorem dX5_clear_1 : decode M_X5_clear.2.1 1 = .ok (.getfield 36, 3) := by decide +kernel
theorem dX5_clear_4 : decode M_X5_clear.2.1 4 = .ok (.invokevirtual 68, 3) := by decide +kernel
theorem dX5_clear_7 : decode M_X5_clear.2.1 7 = .ok (.istore_n 1, 1) := by decide +kernel
theorem dX5_clear_8 : decode M_X5_clear.2.1 8 = .ok (.aload_n 0, 1) := by decide +kernel
theorem dX5_clear_9 : decode M_X5_clear.2.1 9 = .ok (.getfield 36, 3) := by decide +kernel
theorem dX5_clear_12 : decode M_X5_clear.2.1 12 = .ok (.invokevirtual 72, 3) := by decide +kernel
theorem dX5_clear_15 : decode M_X5_clear.2.1 15 = .ok (.iload_n 1, 1) := by decide +kernel
theorem dX5_clear_16 : decode M_X5_clear.2.1 16 = .ok (.ireturn, 1) := by decide +kernel
theorem dX5_tells_0 : decode M_X5_tells.2.1 0 = .ok (.aload_n 0, 1) := by decide +kernel
theorem dX5_tells_1 : decode M_X5_tells.2.1 1 = .ok (.getfield 36, 3) := by decide +kernel
theorem dX5_tells_4 : decode M_X5_tells.2.1 4 = .ok (.aload_n 0, 1) := by decide +kernel
theorem dX5_tells_5 : decode M_X5_tells.2.1 5 = .ok (.getfield 16, 3) := by decide +kernel
theorem dX5_tells_8 : decode M_X5_tells.2.1 8 = .ok (.invokevirtual 75, 3) := by decide +kernel
theorem dX5_tells_11 : decode M_X5_tells.2.1 11 = .ok (.istore_n 1, 1) := by decide +kernel
theorem dX5_tells_12 : decode M_X5_tells.2.1 12 = .ok (.iload_n 1, 1) := by decide +kernel
theorem dX5_tells_13 : decode M_X5_tells.2.1 13 = .ok (.ifCond .ge 14, 3) := by decide +kernel
theorem dX5_tells_16 : decode M_X5_tells.2.1 16 = .ok (.bipush (-10), 2) := by decide +kernel
theorem dX5_tells_18 : decode M_X5_tells.2.1 18 = .ok (.aload_n 0, 1) := by decide +kernel
theorem dX5_tells_19 : decode M_X5_tells.2.1 19 = .ok (.getfield 36, 3) := by decide +kernel
theorem dX5_tells_22 : decode M_X5_tells.2.1 22 = .ok (.invokevirtual 79, 3) := by decide +kernel
theorem dX5_tells_25 : decode M_X5_tells.2.1 25 = .ok (.isub, 1) := by decide +kernel
theorem dX5_tells_26 : decode M_X5_tells.2.1 26 = .ok (.ireturn, 1) := by decide +kernel
theorem dX5_tells_27 : decode M_X5_tells.2.1 27 = .ok (.aload_n 0, 1) := by decide +kernel
theorem dX5_tells_28 : decode M_X5_tells.2.1 28 = .ok (.invokevirtual 82, 3) := by decide +kernel
theorem dX5_tells_31 : decode M_X5_tells.2.1 31 = .ok (.aload_n 0, 1) := by decide +kernel
theorem dX5_tells_32 : decode M_X5_tells.2.1 32 = .ok (.getfield 10, 3) := by decide +kernel
theorem dX5_tells_35 : decode M_X5_tells.2.1 35 = .ok (.aload_n 0, 1) := by decide +kernel
theorem dX5_tells_36 : decode M_X5_tells.2.1 36 = .ok (.getfield 16, 3) := by decide +kernel
theorem dX5_tells_39 : decode M_X5_tells.2.1 39 = .ok (.invokevirtual 85, 3) := by decide +kernel
theorem dX5_tells_42 : decode M_X5_tells.2.1 42 = .ok (.aload_n 0, 1) := by decide +kernel
theorem dX5_tells_43 : decode M_X5_tells.2.1 43 = .ok (.getfield 36, 3) := by decide +kernel
theorem dX5_tells_46 : decode M_X5_tells.2.1 46 = .ok (.invokevirtual 72, 3) := by decide +kernel
theorem dX5_tells_49 : decode M_X5_tells.2.1 49 = .ok (.iload_n 1, 1) := by decide +kernel
theorem dX5_tells_50 : decode M_X5_tells.2.1 50 = .ok (.ireturn, 1) := by decide +kernel
theorem dX5_drops_0 : decode M_X5_drops.2.1 0 = .ok (.iload_n 1, 1) := by decide +kernel
theorem dX5_drops_1 : decode M_X5_drops.2.1 1 = .ok (.iconst 0, 1) := by decide +kernel
theorem dX5_drops_2 : decode M_X5_drops.2.1 2 = .ok (.bipush 9, 2) := by decide +kernel
theorem dX5_drops_4 : decode M_X5_drops.2.1 4 = .ok (.invokestatic 60, 3) := by decide +kernel
theorem dX5_drops_7 : decode M_X5_drops.2.1 7 = .ok (.ifCond .eq 11, 3) := by decide +kernel
theorem dX5_drops_10 : decode M_X5_drops.2.1 10 = .ok (.iload_n 2, 1) := by decide +kernel
theorem dX5_drops_11 : decode M_X5_drops.2.1 11 = .ok (.iload_n 3, 1) := by decide +kernel
theorem dX5_drops_12 : decode M_X5_drops.2.1 12 = .ok (.invokestatic 89, 3) := by decide +kernel
theorem dX5_drops_15 : decode M_X5_drops.2.1 15 = .ok (.ifCond .ne 5, 3) := by decide +kernel
theorem dX5_drops_18 : decode M_X5_drops.2.1 18 = .ok (.iconst (-1), 1) := by decide +kernel
theorem dX5_drops_19 : decode M_X5_drops.2.1 19 = .ok (.ireturn, 1) := by decide +kernel
theorem dX5_drops_20 : decode M_X5_drops.2.1 20 = .ok (.aload_n 0, 1) := by decide +kernel
theorem dX5_drops_21 : decode M_X5_drops.2.1 21 = .ok (.getfield 10, 3) := by decide +kernel
theorem dX5_drops_24 : decode M_X5_drops.2.1 24 = .ok (.invokevirtual 93, 3) := by decide +kernel
theorem dX5_drops_27 : decode M_X5_drops.2.1 27 = .ok (.iconst 4, 1) := by decide +kernel
theorem dX5_drops_28 : decode M_X5_drops.2.1 28 = .ok (.if_icmp .lt 6, 3) := by decide +kernel
theorem dX5_drops_31 : decode M_X5_drops.2.1 31 = .ok (.bipush (-3), 2) := by decide +kernel
theorem dX5_drops_33 : decode M_X5_drops.2.1 33 = .ok (.ireturn, 1) := by decide +kernel
theorem dX5_drops_34 : decode M_X5_drops.2.1 34 = .ok (.aload_n 0, 1) := by decide +kernel
theorem dX5_drops_35 : decode M_X5_drops.2.1 35 = .ok (.invokevirtual 82, 3) := by decide +kernel
theorem dX5_drops_38 : decode M_X5_drops.2.1 38 = .ok (.aload_n 0, 1) := by decide +kernel
theorem dX5_drops_39 : decode M_X5_drops.2.1 39 = .ok (.getfield 10, 3) := by decide +kernel
theorem dX5_drops_42 : decode M_X5_drops.2.1 42 = .ok (.iload_n 1, 1) := by decide +kernel
theorem dX5_drops_43 : decode M_X5_drops.2.1 43 = .ok (.iload_n 2, 1) := by decide +kernel
theorem dX5_drops_44 : decode M_X5_drops.2.1 44 = .ok (.iload_n 3, 1) := by decide +kernel
theorem dX5_drops_45 : decode M_X5_drops.2.1 45 = .ok (.invokevirtual 96, 3) := by decide +kernel
theorem dX5_drops_48 : decode M_X5_drops.2.1 48 = .ok (.aload_n 0, 1) := by decide +kernel
theorem dX5_drops_49 : decode M_X5_drops.2.1 49 = .ok (.getfield 22, 3) := by decide +kernel
theorem dX5_drops_52 : decode M_X5_drops.2.1 52 = .ok (.aload_n 0, 1) := by decide +kernel
theorem dX5_drops_53 : decode M_X5_drops.2.1 53 = .ok (.getfield 10, 3) := by decide +kernel
theorem dX5_drops_56 : decode M_X5_drops.2.1 56 = .ok (.invokevirtual 100, 3) := by decide +kernel
theorem dX5_drops_59 : decode M_X5_drops.2.1 59 = .ok (.aload_n 0, 1) := by decide +kernel
theorem dX5_drops_60 : decode M_X5_drops.2.1 60 = .ok (.getfield 22, 3) := by decide +kernel
theorem dX5_drops_63 : decode M_X5_drops.2.1 63 = .ok (.aload_n 0, 1) := by decide +kernel
theorem dX5_drops_64 : decode M_X5_drops.2.1 64 = .ok (.getfield 10, 3) := by decide +kernel
theorem dX5_drops_67 : decode M_X5_drops.2.1 67 = .ok (.invokevirtual 93, 3) := by decide +kernel
theorem dX5_drops_70 : decode M_X5_drops.2.1 70 = .ok (.iconst 1, 1) := by decide +kernel
theorem dX5_drops_71 : decode M_X5_drops.2.1 71 = .ok (.isub, 1) := by decide +kernel
theorem dX5_drops_72 : decode M_X5_drops.2.1 72 = .ok (.invokevirtual 103, 3) := by decide +kernel
theorem dX5_drops_75 : decode M_X5_drops.2.1 75 = .ok (.ireturn, 1) := by decide +kernel
theorem dX5_lifts_0 : decode M_X5_lifts.2.1 0 = .ok (.aload_n 0, 1) := by decide +kernel
theorem dX5_lifts_1 : decode M_X5_lifts.2.1 1 = .ok (.getfield 10, 3) := by decide +kernel
theorem dX5_lifts_4 : decode M_X5_lifts.2.1 4 = .ok (.iload_n 1, 1) := by decide +kernel
theorem dX5_lifts_5 : decode M_X5_lifts.2.1 5 = .ok (.invokevirtual 107, 3) := by decide +kernel
theorem dX5_lifts_8 : decode M_X5_lifts.2.1 8 = .ok (.ifCond .ne 5, 3) := by decide +kernel
theorem dX5_lifts_11 : decode M_X5_lifts.2.1 11 = .ok (.iconst (-1), 1) := by decide +kernel
theorem dX5_lifts_12 : decode M_X5_lifts.2.1 12 = .ok (.ireturn, 1) := by decide +kernel
theorem dX5_lifts_13 : decode M_X5_lifts.2.1 13 = .ok (.aload_n 0, 1) := by decide +kernel
theorem dX5_lifts_14 : decode M_X5_lifts.2.1 14 = .ok (.getfield 22, 3) := by decide +kernel
theorem dX5_lifts_17 : decode M_X5_lifts.2.1 17 = .ok (.aload_n 0, 1) := by decide +kernel
theorem dX5_lifts_18 : decode M_X5_lifts.2.1 18 = .ok (.getfield 10, 3) := by decide +kernel
theorem dX5_lifts_21 : decode M_X5_lifts.2.1 21 = .ok (.invokevirtual 100, 3) := by decide +kernel
theorem dX5_lifts_24 : decode M_X5_lifts.2.1 24 = .ok (.aload_n 0, 1) := by decide +kernel
theorem dX5_lifts_25 : decode M_X5_lifts.2.1 25 = .ok (.getfield 22, 3) := by decide +kernel
theorem dX5_lifts_28 : decode M_X5_lifts.2.1 28 = .ok (.iload_n 1, 1) := by decide +kernel
theorem dX5_lifts_29 : decode M_X5_lifts.2.1 29 = .ok (.invokevirtual 110, 3) := by decide +kernel
theorem dX5_lifts_32 : decode M_X5_lifts.2.1 32 = .ok (.ifCond .eq 6, 3) := by decide +kernel
theorem dX5_lifts_35 : decode M_X5_lifts.2.1 35 = .ok (.bipush (-2), 2) := by decide +kernel
theorem dX5_lifts_37 : decode M_X5_lifts.2.1 37 = .ok (.ireturn, 1) := by decide +kernel
theorem dX5_lifts_38 : decode M_X5_lifts.2.1 38 = .ok (.aload_n 0, 1) := by decide +kernel
theorem dX5_lifts_39 : decode M_X5_lifts.2.1 39 = .ok (.invokevirtual 82, 3) := by decide +kernel
theorem dX5_lifts_42 : decode M_X5_lifts.2.1 42 = .ok (.aload_n 0, 1) := by decide +kernel
theorem dX5_lifts_43 : decode M_X5_lifts.2.1 43 = .ok (.getfield 10, 3) := by decide +kernel
theorem dX5_lifts_46 : decode M_X5_lifts.2.1 46 = .ok (.iload_n 1, 1) := by decide +kernel
theorem dX5_lifts_47 : decode M_X5_lifts.2.1 47 = .ok (.invokevirtual 113, 3) := by decide +kernel
theorem dX5_lifts_50 : decode M_X5_lifts.2.1 50 = .ok (.aload_n 0, 1) := by decide +kernel
theorem dX5_lifts_51 : decode M_X5_lifts.2.1 51 = .ok (.getfield 10, 3) := by decide +kernel
theorem dX5_lifts_54 : decode M_X5_lifts.2.1 54 = .ok (.invokevirtual 93, 3) := by decide +kernel
theorem dX5_lifts_57 : decode M_X5_lifts.2.1 57 = .ok (.ireturn, 1) := by decide +kernel
theorem dX5_weighs_0 : decode M_X5_weighs.2.1 0 = .ok (.aload_n 0, 1) := by decide +kernel
theorem dX5_weighs_1 : decode M_X5_weighs.2.1 1 = .ok (.getfield 10, 3) := by decide +kernel
theorem dX5_weighs_4 : decode M_X5_weighs.2.1 4 = .ok (.iload_n 1, 1) := by decide +kernel
theorem dX5_weighs_5 : decode M_X5_weighs.2.1 5 = .ok (.invokevirtual 107, 3) := by decide +kernel
theorem dX5_weighs_8 : decode M_X5_weighs.2.1 8 = .ok (.ifCond .eq 13, 3) := by decide +kernel
theorem dX5_weighs_11 : decode M_X5_weighs.2.1 11 = .ok (.iload_n 2, 1) := by decide +kernel
theorem dX5_weighs_12 : decode M_X5_weighs.2.1 12 = .ok (.iconst 1, 1) := by decide +kernel
theorem dX5_weighs_13 : decode M_X5_weighs.2.1 13 = .ok (.bipush 9, 2) := by decide +kernel
theorem dX5_weighs_15 : decode M_X5_weighs.2.1 15 = .ok (.invokestatic 60, 3) := by decide +kernel
theorem dX5_weighs_18 : decode M_X5_weighs.2.1 18 = .ok (.ifCond .ne 5, 3) := by decide +kernel
theorem dX5_weighs_21 : decode M_X5_weighs.2.1 21 = .ok (.iconst (-1), 1) := by decide +kernel
theorem dX5_weighs_22 : decode M_X5_weighs.2.1 22 = .ok (.ireturn, 1) := by decide +kernel
theorem dX5_weighs_23 : decode M_X5_weighs.2.1 23 = .ok (.aload_n 0, 1) := by decide +kernel
theorem dX5_weighs_24 : decode M_X5_weighs.2.1 24 = .ok (.getfield 10, 3) := by decide +kernel
theorem dX5_weighs_27 : decode M_X5_weighs.2.1 27 = .ok (.iload_n 1, 1) := by decide +kernel
theorem dX5_weighs_28 : decode M_X5_weighs.2.1 28 = .ok (.iconst 2, 1) := by decide +kernel
theorem dX5_weighs_29 : decode M_X5_weighs.2.1 29 = .ok (.invokevirtual 116, 3) := by decide +kernel
theorem dX5_weighs_32 : decode M_X5_weighs.2.1 32 = .ok (.istore_n 3, 1) := by decide +kernel
theorem dX5_weighs_33 : decode M_X5_weighs.2.1 33 = .ok (.iload_n 3, 1) := by decide +kernel
theorem dX5_weighs_34 : decode M_X5_weighs.2.1 34 = .ok (.iload_n 2, 1) := by decide +kernel
theorem dX5_weighs_35 : decode M_X5_weighs.2.1 35 = .ok (.if_icmp .ne 6, 3) := by decide +kernel
theorem dX5_weighs_38 : decode M_X5_weighs.2.1 38 = .ok (.bipush (-2), 2) := by decide +kernel
theorem dX5_weighs_40 : decode M_X5_weighs.2.1 40 = .ok (.ireturn, 1) := by decide +kernel
theorem dX5_weighs_41 : decode M_X5_weighs.2.1 41 = .ok (.aload_n 0, 1) := by decide +kernel
theorem dX5_weighs_42 : decode M_X5_weighs.2.1 42 = .ok (.invokevirtual 82, 3) := by decide +kernel
theorem dX5_weighs_45 : decode M_X5_weighs.2.1 45 = .ok (.aload_n 0, 1) := by decide +kernel
theorem dX5_weighs_46 : decode M_X5_weighs.2.1 46 = .ok (.getfield 10, 3) := by decide +kernel
theorem dX5_weighs_49 : decode M_X5_weighs.2.1 49 = .ok (.iload_n 1, 1) := by decide +kernel
theorem dX5_weighs_50 : decode M_X5_weighs.2.1 50 = .ok (.iconst 2, 1) := by decide +kernel
theorem dX5_weighs_51 : decode M_X5_weighs.2.1 51 = .ok (.iload_n 2, 1) := by decide +kernel
theorem dX5_weighs_52 : decode M_X5_weighs.2.1 52 = .ok (.invokevirtual 120, 3) := by decide +kernel
theorem dX5_weighs_55 : decode M_X5_weighs.2.1 55 = .ok (.iload_n 3, 1) := by decide +kernel
theorem dX5_weighs_56 : decode M_X5_weighs.2.1 56 = .ok (.ireturn, 1) := by decide +kernel
theorem dX5_loads_0 : decode M_X5_loads.2.1 0 = .ok (.aload_n 0, 1) := by decide +kernel
theorem dX5_loads_1 : decode M_X5_loads.2.1 1 = .ok (.iload_n 1, 1) := by decide +kernel
theorem dX5_loads_2 : decode M_X5_loads.2.1 2 = .ok (.iload_n 2, 1) := by decide +kernel
theorem dX5_loads_3 : decode M_X5_loads.2.1 3 = .ok (.invokevirtual 123, 3) := by decide +kernel
theorem dX5_loads_6 : decode M_X5_loads.2.1 6 = .ok (.ifCond .eq 13, 3) := by decide +kernel
theorem dX5_loads_9 : decode M_X5_loads.2.1 9 = .ok (.iload_n 3, 1) := by decide +kernel
theorem dX5_loads_10 : decode M_X5_loads.2.1 10 = .ok (.iconst 0, 1) := by decide +kernel
theorem dX5_loads_11 : decode M_X5_loads.2.1 11 = .ok (.bipush 20, 2) := by decide +kernel
theorem dX5_loads_13 : decode M_X5_loads.2.1 13 = .ok (.invokestatic 60, 3) := by decide +kernel
theorem dX5_loads_16 : decode M_X5_loads.2.1 16 = .ok (.ifCond .ne 5, 3) := by decide +kernel
theorem dX5_loads_19 : decode M_X5_loads.2.1 19 = .ok (.iconst (-1), 1) := by decide +kernel
theorem dX5_loads_20 : decode M_X5_loads.2.1 20 = .ok (.ireturn, 1) := by decide +kernel
theorem dX5_loads_21 : decode M_X5_loads.2.1 21 = .ok (.aload_n 0, 1) := by decide +kernel
theorem dX5_loads_22 : decode M_X5_loads.2.1 22 = .ok (.getfield 10, 3) := by decide +kernel
theorem dX5_loads_25 : decode M_X5_loads.2.1 25 = .ok (.iload_n 1, 1) := by decide +kernel
theorem dX5_loads_26 : decode M_X5_loads.2.1 26 = .ok (.iconst 3, 1) := by decide +kernel
theorem dX5_loads_27 : decode M_X5_loads.2.1 27 = .ok (.invokevirtual 116, 3) := by decide +kernel
theorem dX5_loads_30 : decode M_X5_loads.2.1 30 = .ok (.istore 4, 2) := by decide +kernel
theorem dX5_loads_32 : decode M_X5_loads.2.1 32 = .ok (.iload 4, 2) := by decide +kernel
theorem dX5_loads_34 : decode M_X5_loads.2.1 34 = .ok (.iload_n 3, 1) := by decide +kernel
theorem dX5_loads_35 : decode M_X5_loads.2.1 35 = .ok (.if_icmp .ne 19, 3) := by decide +kernel
theorem dX5_loads_38 : decode M_X5_loads.2.1 38 = .ok (.aload_n 0, 1) := by decide +kernel
theorem dX5_loads_39 : decode M_X5_loads.2.1 39 = .ok (.getfield 10, 3) := by decide +kernel
theorem dX5_loads_42 : decode M_X5_loads.2.1 42 = .ok (.iload_n 1, 1) := by decide +kernel
theorem dX5_loads_43 : decode M_X5_loads.2.1 43 = .ok (.iconst 4, 1) := by decide +kernel
theorem dX5_loads_44 : decode M_X5_loads.2.1 44 = .ok (.invokevirtual 116, 3) := by decide +kernel
theorem dX5_loads_47 : decode M_X5_loads.2.1 47 = .ok (.iload_n 2, 1) := by decide +kernel
theorem dX5_loads_48 : decode M_X5_loads.2.1 48 = .ok (.if_icmp .ne 6, 3) := by decide +kernel
theorem dX5_loads_51 : decode M_X5_loads.2.1 51 = .ok (.bipush (-2), 2) := by decide +kernel
theorem dX5_loads_53 : decode M_X5_loads.2.1 53 = .ok (.ireturn, 1) := by decide +kernel
theorem dX5_loads_54 : decode M_X5_loads.2.1 54 = .ok (.aload_n 0, 1) := by decide +kernel
theorem dX5_loads_55 : decode M_X5_loads.2.1 55 = .ok (.invokevirtual 82, 3) := by decide +kernel
theorem dX5_loads_58 : decode M_X5_loads.2.1 58 = .ok (.aload_n 0, 1) := by decide +kernel
theorem dX5_loads_59 : decode M_X5_loads.2.1 59 = .ok (.getfield 10, 3) := by decide +kernel
theorem dX5_loads_62 : decode M_X5_loads.2.1 62 = .ok (.iload_n 1, 1) := by decide +kernel
theorem dX5_loads_63 : decode M_X5_loads.2.1 63 = .ok (.iconst 3, 1) := by decide +kernel
theorem dX5_loads_64 : decode M_X5_loads.2.1 64 = .ok (.iload_n 3, 1) := by decide +kernel
theorem dX5_loads_65 : decode M_X5_loads.2.1 65 = .ok (.invokevirtual 120, 3) := by decide +kernel
theorem dX5_loads_68 : decode M_X5_loads.2.1 68 = .ok (.aload_n 0, 1) := by decide +kernel
theorem dX5_loads_69 : decode M_X5_loads.2.1 69 = .ok (.getfield 10, 3) := by decide +kernel
theorem dX5_loads_72 : decode M_X5_loads.2.1 72 = .ok (.iload_n 1, 1) := by decide +kernel
theorem dX5_loads_73 : decode M_X5_loads.2.1 73 = .ok (.iconst 4, 1) := by decide +kernel
theorem dX5_loads_74 : decode M_X5_loads.2.1 74 = .ok (.iload_n 2, 1) := by decide +kernel
theorem dX5_loads_75 : decode M_X5_loads.2.1 75 = .ok (.invokevirtual 120, 3) := by decide +kernel
theorem dX5_loads_78 : decode M_X5_loads.2.1 78 = .ok (.iload 4, 2) := by decide +kernel
theorem dX5_loads_80 : decode M_X5_loads.2.1 80 = .ok (.ireturn, 1) := by decide +kernel
theorem dX5_undo_0 : decode M_X5_undo.2.1 0 = .ok (.aload_n 0, 1) := by decide +kernel
theorem dX5_undo_1 : decode M_X5_undo.2.1 1 = .ok (.getfield 56, 3) := by decide +kernel
theorem dX5_undo_4 : decode M_X5_undo.2.1 4 = .ok (.ifCond .gt 6, 3) := by decide +kernel
theorem dX5_undo_7 : decode M_X5_undo.2.1 7 = .ok (.bipush (-2), 2) := by decide +kernel
theorem dX5_undo_9 : decode M_X5_undo.2.1 9 = .ok (.ireturn, 1) := by decide +kernel
theorem dX5_undo_10 : decode M_X5_undo.2.1 10 = .ok (.aload_n 0, 1) := by decide +kernel
theorem dX5_undo_11 : decode M_X5_undo.2.1 11 = .ok (.dup, 1) := by decide +kernel
theorem dX5_undo_12 : decode M_X5_undo.2.1 12 = .ok (.getfield 56, 3) := by decide +kernel
theorem dX5_undo_15 : decode M_X5_undo.2.1 15 = .ok (.iconst 1, 1) := by decide +kernel
theorem dX5_undo_16 : decode M_X5_undo.2.1 16 = .ok (.isub, 1) := by decide +kernel
theorem dX5_undo_17 : decode M_X5_undo.2.1 17 = .ok (.putfield 56, 3) := by decide +kernel
theorem dX5_undo_20 : decode M_X5_undo.2.1 20 = .ok (.aload_n 0, 1) := by decide +kernel
theorem dX5_undo_21 : decode M_X5_undo.2.1 21 = .ok (.getfield 45, 3) := by decide +kernel
theorem dX5_undo_24 : decode M_X5_undo.2.1 24 = .ok (.aload_n 0, 1) := by decide +kernel
theorem dX5_undo_25 : decode M_X5_undo.2.1 25 = .ok (.getfield 56, 3) := by decide +kernel
theorem dX5_undo_28 : decode M_X5_undo.2.1 28 = .ok (.aload_n 0, 1) := by decide +kernel
theorem dX5_undo_29 : decode M_X5_undo.2.1 29 = .ok (.getfield 10, 3) := by decide +kernel
theorem dX5_undo_32 : decode M_X5_undo.2.1 32 = .ok (.invokevirtual 126, 3) := by decide +kernel
theorem dX5_undo_35 : decode M_X5_undo.2.1 35 = .ok (.aload_n 0, 1) := by decide +kernel
theorem dX5_undo_36 : decode M_X5_undo.2.1 36 = .ok (.getfield 56, 3) := by decide +kernel
theorem dX5_undo_39 : decode M_X5_undo.2.1 39 = .ok (.ireturn, 1) := by decide +kernel
theorem dX5_block_0 : decode M_X5_block.2.1 0 = .ok (.aload_n 0, 1) := by decide +kernel
theorem dX5_block_1 : decode M_X5_block.2.1 1 = .ok (.getfield 10, 3) := by decide +kernel
theorem dX5_block_4 : decode M_X5_block.2.1 4 = .ok (.iload_n 1, 1) := by decide +kernel
theorem dX5_block_5 : decode M_X5_block.2.1 5 = .ok (.invokevirtual 107, 3) := by decide +kernel
theorem dX5_block_8 : decode M_X5_block.2.1 8 = .ok (.ifCond .eq 13, 3) := by decide +kernel
theorem dX5_block_11 : decode M_X5_block.2.1 11 = .ok (.iload_n 2, 1) := by decide +kernel
theorem dX5_block_12 : decode M_X5_block.2.1 12 = .ok (.iconst 0, 1) := by decide +kernel
theorem dX5_block_13 : decode M_X5_block.2.1 13 = .ok (.bipush 7, 2) := by decide +kernel
theorem dX5_block_15 : decode M_X5_block.2.1 15 = .ok (.invokestatic 60, 3) := by decide +kernel
theorem dX5_block_18 : decode M_X5_block.2.1 18 = .ok (.ifCond .ne 5, 3) := by decide +kernel
theorem dX5_block_21 : decode M_X5_block.2.1 21 = .ok (.iconst (-1), 1) := by decide +kernel
theorem dX5_block_22 : decode M_X5_block.2.1 22 = .ok (.ireturn, 1) := by decide +kernel
theorem dX5_block_23 : decode M_X5_block.2.1 23 = .ok (.iload_n 2, 1) := by decide +kernel
theorem dX5_block_24 : decode M_X5_block.2.1 24 = .ok (.iconst 5, 1) := by decide +kernel
theorem dX5_block_25 : decode M_X5_block.2.1 25 = .ok (.if_icmp .ge 13, 3) := by decide +kernel
theorem dX5_block_28 : decode M_X5_block.2.1 28 = .ok (.aload_n 0, 1) := by decide +kernel
theorem dX5_block_29 : decode M_X5_block.2.1 29 = .ok (.getfield 10, 3) := by decide +kernel
theorem dX5_block_32 : decode M_X5_block.2.1 32 = .ok (.iload_n 1, 1) := by decide +kernel
theorem dX5_block_33 : decode M_X5_block.2.1 33 = .ok (.iload_n 2, 1) := by decide +kernel
theorem dX5_block_34 : decode M_X5_block.2.1 34 = .ok (.invokevirtual 116, 3) := by decide +kernel
theorem dX5_block_37 : decode M_X5_block.2.1 37 = .ok (.ireturn, 1) := by decide +kernel
theorem dX5_block_38 : decode M_X5_block.2.1 38 = .ok (.aload_n 0, 1) := by decide +kernel
theorem dX5_block_39 : decode M_X5_block.2.1 39 = .ok (.getfield 22, 3) := by decide +kernel
theorem dX5_block_42 : decode M_X5_block.2.1 42 = .ok (.aload_n 0, 1) := by decide +kernel
theorem dX5_block_43 : decode M_X5_block.2.1 43 = .ok (.getfield 10, 3) := by decide +kernel
theorem dX5_block_46 : decode M_X5_block.2.1 46 = .ok (.invokevirtual 100, 3) := by decide +kernel
theorem dX5_block_49 : decode M_X5_block.2.1 49 = .ok (.iload_n 2, 1) := by decide +kernel
theorem dX5_block_50 : decode M_X5_block.2.1 50 = .ok (.lookupswitch 44 #[(5, 26), (6, 35)], 26) := by decide +kernel
theorem dX5_block_76 : decode M_X5_block.2.1 76 = .ok (.aload_n 0, 1) := by decide +kernel
theorem dX5_block_77 : decode M_X5_block.2.1 77 = .ok (.getfield 22, 3) := by decide +kernel
theorem dX5_block_80 : decode M_X5_block.2.1 80 = .ok (.iload_n 1, 1) := by decide +kernel
theorem dX5_block_81 : decode M_X5_block.2.1 81 = .ok (.invokevirtual 103, 3) := by decide +kernel
theorem dX5_block_84 : decode M_X5_block.2.1 84 = .ok (.ireturn, 1) := by decide +kernel
theorem dX5_block_85 : decode M_X5_block.2.1 85 = .ok (.aload_n 0, 1) := by decide +kernel
theorem dX5_block_86 : decode M_X5_block.2.1 86 = .ok (.getfield 22, 3) := by decide +kernel
theorem dX5_block_89 : decode M_X5_block.2.1 89 = .ok (.iload_n 1, 1) := by decide +kernel
theorem dX5_block_90 : decode M_X5_block.2.1 90 = .ok (.invokevirtual 130, 3) := by decide +kernel
theorem dX5_block_93 : decode M_X5_block.2.1 93 = .ok (.ireturn, 1) := by decide +kernel
theorem dX5_block_94 : decode M_X5_block.2.1 94 = .ok (.aload_n 0, 1) := by decide +kernel
theorem dX5_block_95 : decode M_X5_block.2.1 95 = .ok (.getfield 22, 3) := by decide +kernel
theorem dX5_block_98 : decode M_X5_block.2.1 98 = .ok (.iload_n 1, 1) := by decide +kernel
theorem dX5_block_99 : decode M_X5_block.2.1 99 = .ok (.invokevirtual 110, 3) := by decide +kernel
theorem dX5_block_102 : decode M_X5_block.2.1 102 = .ok (.ireturn, 1) := by decide +kernel
theorem dX5_contact_0 : decode M_X5_contact.2.1 0 = .ok (.aload_n 0, 1) := by decide +kernel
theorem dX5_contact_1 : decode M_X5_contact.2.1 1 = .ok (.getfield 22, 3) := by decide +kernel
theorem dX5_contact_4 : decode M_X5_contact.2.1 4 = .ok (.aload_n 0, 1) := by decide +kernel
theorem dX5_contact_5 : decode M_X5_contact.2.1 5 = .ok (.getfield 10, 3) := by decide +kernel
theorem dX5_contact_8 : decode M_X5_contact.2.1 8 = .ok (.invokevirtual 100, 3) := by decide +kernel
theorem dX5_contact_11 : decode M_X5_contact.2.1 11 = .ok (.iload_n 1, 1) := by decide +kernel
theorem dX5_contact_12 : decode M_X5_contact.2.1 12 = .ok (.iconst 0, 1) := by decide +kernel
theorem dX5_contact_13 : decode M_X5_contact.2.1 13 = .ok (.aload_n 0, 1) := by decide +kernel
theorem dX5_contact_14 : decode M_X5_contact.2.1 14 = .ok (.getfield 22, 3) := by decide +kernel
theorem dX5_contact_17 : decode M_X5_contact.2.1 17 = .ok (.invokevirtual 133, 3) := by decide +kernel
theorem dX5_contact_20 : decode M_X5_contact.2.1 20 = .ok (.iconst 1, 1) := by decide +kernel
theorem dX5_contact_21 : decode M_X5_contact.2.1 21 = .ok (.isub, 1) := by decide +kernel
theorem dX5_contact_22 : decode M_X5_contact.2.1 22 = .ok (.invokestatic 60, 3) := by decide +kernel
theorem dX5_contact_25 : decode M_X5_contact.2.1 25 = .ok (.ifCond .ne 5, 3) := by decide +kernel
theorem dX5_contact_28 : decode M_X5_contact.2.1 28 = .ok (.iconst (-1), 1) := by decide +kernel
theorem dX5_contact_29 : decode M_X5_contact.2.1 29 = .ok (.ireturn, 1) := by decide +kernel
theorem dX5_contact_30 : decode M_X5_contact.2.1 30 = .ok (.iload_n 2, 1) := by decide +kernel
theorem dX5_contact_31 : decode M_X5_contact.2.1 31 = .ok (.tableswitch 52 0 2 #[25, 34, 43], 25) := by decide +kernel
theorem dX5_contact_56 : decode M_X5_contact.2.1 56 = .ok (.aload_n 0, 1) := by decide +kernel
theorem dX5_contact_57 : decode M_X5_contact.2.1 57 = .ok (.getfield 22, 3) := by decide +kernel
theorem dX5_contact_60 : decode M_X5_contact.2.1 60 = .ok (.iload_n 1, 1) := by decide +kernel
theorem dX5_contact_61 : decode M_X5_contact.2.1 61 = .ok (.invokevirtual 136, 3) := by decide +kernel
theorem dX5_contact_64 : decode M_X5_contact.2.1 64 = .ok (.ireturn, 1) := by decide +kernel
theorem dX5_contact_65 : decode M_X5_contact.2.1 65 = .ok (.aload_n 0, 1) := by decide +kernel
theorem dX5_contact_66 : decode M_X5_contact.2.1 66 = .ok (.getfield 22, 3) := by decide +kernel
theorem dX5_contact_69 : decode M_X5_contact.2.1 69 = .ok (.iload_n 1, 1) := by decide +kernel
theorem dX5_contact_70 : decode M_X5_contact.2.1 70 = .ok (.invokevirtual 139, 3) := by decide +kernel
theorem dX5_contact_73 : decode M_X5_contact.2.1 73 = .ok (.ireturn, 1) := by decide +kernel
theorem dX5_contact_74 : decode M_X5_contact.2.1 74 = .ok (.aload_n 0, 1) := by decide +kernel
theorem dX5_contact_75 : decode M_X5_contact.2.1 75 = .ok (.getfield 22, 3) := by decide +kernel
theorem dX5_contact_78 : decode M_X5_contact.2.1 78 = .ok (.iload_n 1, 1) := by decide +kernel
theorem dX5_contact_79 : decode M_X5_contact.2.1 79 = .ok (.invokevirtual 142, 3) := by decide +kernel
theorem dX5_contact_82 : decode M_X5_contact.2.1 82 = .ok (.ireturn, 1) := by decide +kernel
theorem dX5_contact_83 : decode M_X5_contact.2.1 83 = .ok (.iconst (-1), 1) := by decide +kernel
theorem dX5_contact_84 : decode M_X5_contact.2.1 84 = .ok (.ireturn, 1) := by decide +kernel
theorem dX5_rests_0 : decode M_X5_rests.2.1 0 = .ok (.aload_n 0, 1) := by decide +kernel
theorem dX5_rests_1 : decode M_X5_rests.2.1 1 = .ok (.aload_n 0, 1) := by decide +kernel
theorem dX5_rests_2 : decode M_X5_rests.2.1 2 = .ok (.getfield 10, 3) := by decide +kernel
theorem dX5_rests_5 : decode M_X5_rests.2.1 5 = .ok (.iconst 0, 1) := by decide +kernel
theorem dX5_rests_6 : decode M_X5_rests.2.1 6 = .ok (.invokevirtual 145, 3) := by decide +kernel
theorem dX5_rests_9 : decode M_X5_rests.2.1 9 = .ok (.ifCond .eq 7, 3) := by decide +kernel
theorem dX5_rests_12 : decode M_X5_rests.2.1 12 = .ok (.iconst 1, 1) := by decide +kernel
theorem dX5_rests_13 : decode M_X5_rests.2.1 13 = .ok (.goto 4, 3) := by decide +kernel
theorem dX5_rests_16 : decode M_X5_rests.2.1 16 = .ok (.iconst 0, 1) := by decide +kernel
theorem dX5_rests_17 : decode M_X5_rests.2.1 17 = .ok (.ireturn, 1) := by decide +kernel
theorem dX5_bounds_0 : decode M_X5_bounds.2.1 0 = .ok (.aload_n 0, 1) := by decide +kernel
theorem dX5_bounds_1 : decode M_X5_bounds.2.1 1 = .ok (.getfield 22, 3) := by decide +kernel
theorem dX5_bounds_4 : decode M_X5_bounds.2.1 4 = .ok (.aload_n 0, 1) := by decide +kernel
theorem dX5_bounds_5 : decode M_X5_bounds.2.1 5 = .ok (.getfield 10, 3) := by decide +kernel
theorem dX5_bounds_8 : decode M_X5_bounds.2.1 8 = .ok (.invokevirtual 100, 3) := by decide +kernel
theorem dX5_bounds_11 : decode M_X5_bounds.2.1 11 = .ok (.iload_n 1, 1) := by decide +kernel
theorem dX5_bounds_12 : decode M_X5_bounds.2.1 12 = .ok (.iconst 0, 1) := by decide +kernel
theorem dX5_bounds_13 : decode M_X5_bounds.2.1 13 = .ok (.aload_n 0, 1) := by decide +kernel
theorem dX5_bounds_14 : decode M_X5_bounds.2.1 14 = .ok (.getfield 22, 3) := by decide +kernel
theorem dX5_bounds_17 : decode M_X5_bounds.2.1 17 = .ok (.invokevirtual 133, 3) := by decide +kernel
theorem dX5_bounds_20 : decode M_X5_bounds.2.1 20 = .ok (.iconst 1, 1) := by decide +kernel
theorem dX5_bounds_21 : decode M_X5_bounds.2.1 21 = .ok (.isub, 1) := by decide +kernel
theorem dX5_bounds_22 : decode M_X5_bounds.2.1 22 = .ok (.invokestatic 60, 3) := by decide +kernel
theorem dX5_bounds_25 : decode M_X5_bounds.2.1 25 = .ok (.ifCond .eq 12, 3) := by decide +kernel
theorem dX5_bounds_28 : decode M_X5_bounds.2.1 28 = .ok (.iload_n 2, 1) := by decide +kernel
theorem dX5_bounds_29 : decode M_X5_bounds.2.1 29 = .ok (.iconst 0, 1) := by decide +kernel
theorem dX5_bounds_30 : decode M_X5_bounds.2.1 30 = .ok (.iconst 3, 1) := by decide +kernel
theorem dX5_bounds_31 : decode M_X5_bounds.2.1 31 = .ok (.invokestatic 60, 3) := by decide +kernel
theorem dX5_bounds_34 : decode M_X5_bounds.2.1 34 = .ok (.ifCond .ne 7, 3) := by decide +kernel
theorem dX5_bounds_37 : decode M_X5_bounds.2.1 37 = .ok (.ldc2_w 149, 3) := by decide +kernel
theorem dX5_bounds_40 : decode M_X5_bounds.2.1 40 = .ok (.lreturn, 1) := by decide +kernel
theorem dX5_bounds_41 : decode M_X5_bounds.2.1 41 = .ok (.aload_n 0, 1) := by decide +kernel
theorem dX5_bounds_42 : decode M_X5_bounds.2.1 42 = .ok (.getfield 29, 3) := by decide +kernel
theorem dX5_bounds_45 : decode M_X5_bounds.2.1 45 = .ok (.aload_n 0, 1) := by decide +kernel
theorem dX5_bounds_46 : decode M_X5_bounds.2.1 46 = .ok (.getfield 10, 3) := by decide +kernel
theorem dX5_bounds_49 : decode M_X5_bounds.2.1 49 = .ok (.aload_n 0, 1) := by decide +kernel
theorem dX5_bounds_50 : decode M_X5_bounds.2.1 50 = .ok (.getfield 22, 3) := by decide +kernel
theorem dX5_bounds_53 : decode M_X5_bounds.2.1 53 = .ok (.iconst 0, 1) := by decide +kernel
theorem dX5_bounds_54 : decode M_X5_bounds.2.1 54 = .ok (.invokevirtual 151, 3) := by decide +kernel
theorem dX5_bounds_57 : decode M_X5_bounds.2.1 57 = .ok (.aload_n 0, 1) := by decide +kernel
theorem dX5_bounds_58 : decode M_X5_bounds.2.1 58 = .ok (.iload_n 1, 1) := by decide +kernel
theorem dX5_bounds_59 : decode M_X5_bounds.2.1 59 = .ok (.iload_n 2, 1) := by decide +kernel
theorem dX5_bounds_60 : decode M_X5_bounds.2.1 60 = .ok (.invokevirtual 155, 3) := by decide +kernel
theorem dX5_bounds_63 : decode M_X5_bounds.2.1 63 = .ok (.lreturn, 1) := by decide +kernel
theorem dX5_bears_0 : decode M_X5_bears.2.1 0 = .ok (.aload_n 0, 1) := by decide +kernel
theorem dX5_bears_1 : decode M_X5_bears.2.1 1 = .ok (.iload_n 1, 1) := by decide +kernel
theorem dX5_bears_2 : decode M_X5_bears.2.1 2 = .ok (.iload_n 2, 1) := by decide +kernel
theorem dX5_bears_3 : decode M_X5_bears.2.1 3 = .ok (.invokevirtual 123, 3) := by decide +kernel
theorem dX5_bears_6 : decode M_X5_bears.2.1 6 = .ok (.ifCond .eq 12, 3) := by decide +kernel
theorem dX5_bears_9 : decode M_X5_bears.2.1 9 = .ok (.iload_n 3, 1) := by decide +kernel
theorem dX5_bears_10 : decode M_X5_bears.2.1 10 = .ok (.iconst 0, 1) := by decide +kernel
theorem dX5_bears_11 : decode M_X5_bears.2.1 11 = .ok (.iconst 3, 1) := by decide +kernel
theorem dX5_bears_12 : decode M_X5_bears.2.1 12 = .ok (.invokestatic 60, 3) := by decide +kernel
theorem dX5_bears_15 : decode M_X5_bears.2.1 15 = .ok (.ifCond .ne 7, 3) := by decide +kernel
theorem dX5_bears_18 : decode M_X5_bears.2.1 18 = .ok (.ldc2_w 149, 3) := by decide +kernel
theorem dX5_bears_21 : decode M_X5_bears.2.1 21 = .ok (.lreturn, 1) := by decide +kernel
theorem dX5_bears_22 : decode M_X5_bears.2.1 22 = .ok (.aload_n 0, 1) := by decide +kernel
theorem dX5_bears_23 : decode M_X5_bears.2.1 23 = .ok (.getfield 22, 3) := by decide +kernel
theorem dX5_bears_26 : decode M_X5_bears.2.1 26 = .ok (.aload_n 0, 1) := by decide +kernel
theorem dX5_bears_27 : decode M_X5_bears.2.1 27 = .ok (.getfield 10, 3) := by decide +kernel
theorem dX5_bears_30 : decode M_X5_bears.2.1 30 = .ok (.invokevirtual 100, 3) := by decide +kernel
theorem dX5_bears_33 : decode M_X5_bears.2.1 33 = .ok (.aload_n 0, 1) := by decide +kernel
theorem dX5_bears_34 : decode M_X5_bears.2.1 34 = .ok (.getfield 29, 3) := by decide +kernel
theorem dX5_bears_37 : decode M_X5_bears.2.1 37 = .ok (.aload_n 0, 1) := by decide +kernel
theorem dX5_bears_38 : decode M_X5_bears.2.1 38 = .ok (.getfield 10, 3) := by decide +kernel
theorem dX5_bears_41 : decode M_X5_bears.2.1 41 = .ok (.aload_n 0, 1) := by decide +kernel
theorem dX5_bears_42 : decode M_X5_bears.2.1 42 = .ok (.getfield 22, 3) := by decide +kernel
theorem dX5_bears_45 : decode M_X5_bears.2.1 45 = .ok (.iconst 0, 1) := by decide +kernel
theorem dX5_bears_46 : decode M_X5_bears.2.1 46 = .ok (.invokevirtual 151, 3) := by decide +kernel
theorem dX5_bears_49 : decode M_X5_bears.2.1 49 = .ok (.aload_n 0, 1) := by decide +kernel
theorem dX5_bears_50 : decode M_X5_bears.2.1 50 = .ok (.aload_n 0, 1) := by decide +kernel
theorem dX5_bears_51 : decode M_X5_bears.2.1 51 = .ok (.getfield 29, 3) := by decide +kernel
theorem dX5_bears_54 : decode M_X5_bears.2.1 54 = .ok (.iload_n 1, 1) := by decide +kernel
theorem dX5_bears_55 : decode M_X5_bears.2.1 55 = .ok (.iload_n 2, 1) := by decide +kernel
theorem dX5_bears_56 : decode M_X5_bears.2.1 56 = .ok (.invokevirtual 159, 3) := by decide +kernel
theorem dX5_bears_59 : decode M_X5_bears.2.1 59 = .ok (.iload_n 3, 1) := by decide +kernel
theorem dX5_bears_60 : decode M_X5_bears.2.1 60 = .ok (.invokevirtual 155, 3) := by decide +kernel
theorem dX5_bears_63 : decode M_X5_bears.2.1 63 = .ok (.lreturn, 1) := by decide +kernel
theorem dX5_where_0 : decode M_X5_where.2.1 0 = .ok (.iload_n 1, 1) := by decide +kernel
theorem dX5_where_1 : decode M_X5_where.2.1 1 = .ok (.iload_n 2, 1) := by decide +kernel
theorem dX5_where_2 : decode M_X5_where.2.1 2 = .ok (.invokestatic 89, 3) := by decide +kernel
theorem dX5_where_5 : decode M_X5_where.2.1 5 = .ok (.ifCond .ne 5, 3) := by decide +kernel
theorem dX5_where_8 : decode M_X5_where.2.1 8 = .ok (.iconst (-1), 1) := by decide +kernel
theorem dX5_where_9 : decode M_X5_where.2.1 9 = .ok (.ireturn, 1) := by decide +kernel
theorem dX5_where_10 : decode M_X5_where.2.1 10 = .ok (.aload_n 0, 1) := by decide +kernel
theorem dX5_where_11 : decode M_X5_where.2.1 11 = .ok (.getfield 10, 3) := by decide +kernel
theorem dX5_where_14 : decode M_X5_where.2.1 14 = .ok (.invokevirtual 93, 3) := by decide +kernel
theorem dX5_where_17 : decode M_X5_where.2.1 17 = .ok (.iconst 4, 1) := by decide +kernel
theorem dX5_where_18 : decode M_X5_where.2.1 18 = .ok (.if_icmp .lt 6, 3) := by decide +kernel
theorem dX5_where_21 : decode M_X5_where.2.1 21 = .ok (.bipush (-3), 2) := by decide +kernel
theorem dX5_where_23 : decode M_X5_where.2.1 23 = .ok (.ireturn, 1) := by decide +kernel
theorem dX5_where_24 : decode M_X5_where.2.1 24 = .ok (.iconst 0, 1) := by decide +kernel
theorem dX5_where_25 : decode M_X5_where.2.1 25 = .ok (.istore_n 3, 1) := by decide +kernel
theorem dX5_where_26 : decode M_X5_where.2.1 26 = .ok (.iconst 0, 1) := by decide +kernel
theorem dX5_where_27 : decode M_X5_where.2.1 27 = .ok (.istore 4, 2) := by decide +kernel
theorem dX5_where_29 : decode M_X5_where.2.1 29 = .ok (.iload 4, 2) := by decide +kernel
theorem dX5_where_31 : decode M_X5_where.2.1 31 = .ok (.bipush 9, 2) := by decide +kernel
theorem dX5_where_33 : decode M_X5_where.2.1 33 = .ok (.if_icmp .gt 50, 3) := by decide +kernel
theorem dX5_where_36 : decode M_X5_where.2.1 36 = .ok (.aload_n 0, 1) := by decide +kernel
theorem dX5_where_37 : decode M_X5_where.2.1 37 = .ok (.getfield 16, 3) := by decide +kernel
theorem dX5_where_40 : decode M_X5_where.2.1 40 = .ok (.aload_n 0, 1) := by decide +kernel
theorem dX5_where_41 : decode M_X5_where.2.1 41 = .ok (.getfield 10, 3) := by decide +kernel
theorem dX5_where_44 : decode M_X5_where.2.1 44 = .ok (.invokevirtual 85, 3) := by decide +kernel
theorem dX5_where_47 : decode M_X5_where.2.1 47 = .ok (.aload_n 0, 1) := by decide +kernel
theorem dX5_where_48 : decode M_X5_where.2.1 48 = .ok (.getfield 16, 3) := by decide +kernel
theorem dX5_where_51 : decode M_X5_where.2.1 51 = .ok (.iload 4, 2) := by decide +kernel
theorem dX5_where_53 : decode M_X5_where.2.1 53 = .ok (.iload_n 1, 1) := by decide +kernel
theorem dX5_where_54 : decode M_X5_where.2.1 54 = .ok (.iload_n 2, 1) := by decide +kernel
theorem dX5_where_55 : decode M_X5_where.2.1 55 = .ok (.invokevirtual 96, 3) := by decide +kernel
theorem dX5_where_58 : decode M_X5_where.2.1 58 = .ok (.aload_n 0, 1) := by decide +kernel
theorem dX5_where_59 : decode M_X5_where.2.1 59 = .ok (.aload_n 0, 1) := by decide +kernel
theorem dX5_where_60 : decode M_X5_where.2.1 60 = .ok (.getfield 16, 3) := by decide +kernel
theorem dX5_where_63 : decode M_X5_where.2.1 63 = .ok (.iconst 0, 1) := by decide +kernel
theorem dX5_where_64 : decode M_X5_where.2.1 64 = .ok (.invokevirtual 145, 3) := by decide +kernel
theorem dX5_where_67 : decode M_X5_where.2.1 67 = .ok (.ifCond .eq 10, 3) := by decide +kernel
theorem dX5_where_70 : decode M_X5_where.2.1 70 = .ok (.iload_n 3, 1) := by decide +kernel
theorem dX5_where_71 : decode M_X5_where.2.1 71 = .ok (.iconst 1, 1) := by decide +kernel
theorem dX5_where_72 : decode M_X5_where.2.1 72 = .ok (.iload 4, 2) := by decide +kernel
theorem dX5_where_74 : decode M_X5_where.2.1 74 = .ok (.ishl, 1) := by decide +kernel
theorem dX5_where_75 : decode M_X5_where.2.1 75 = .ok (.ior, 1) := by decide +kernel
theorem dX5_where_76 : decode M_X5_where.2.1 76 = .ok (.istore_n 3, 1) := by decide +kernel
theorem dX5_where_77 : decode M_X5_where.2.1 77 = .ok (.iinc 4 1, 3) := by decide +kernel
theorem dX5_where_80 : decode M_X5_where.2.1 80 = .ok (.goto (-51), 3) := by decide +kernel
theorem dX5_where_83 : decode M_X5_where.2.1 83 = .ok (.iload_n 3, 1) := by decide +kernel
theorem dX5_where_84 : decode M_X5_where.2.1 84 = .ok (.ireturn, 1) := by decide +kernel
theorem dX5_weights_0 : decode M_X5_weights.2.1 0 = .ok (.aload_n 0, 1) := by decide +kernel
theorem dX5_weights_1 : decode M_X5_weights.2.1 1 = .ok (.getfield 10, 3) := by decide +kernel
theorem dX5_weights_4 : decode M_X5_weights.2.1 4 = .ok (.iload_n 1, 1) := by decide +kernel
theorem dX5_weights_5 : decode M_X5_weights.2.1 5 = .ok (.invokevirtual 107, 3) := by decide +kernel
theorem dX5_weights_8 : decode M_X5_weights.2.1 8 = .ok (.ifCond .ne 5, 3) := by decide +kernel
theorem dX5_weights_11 : decode M_X5_weights.2.1 11 = .ok (.iconst (-1), 1) := by decide +kernel
theorem dX5_weights_12 : decode M_X5_weights.2.1 12 = .ok (.ireturn, 1) := by decide +kernel
theorem dX5_weights_13 : decode M_X5_weights.2.1 13 = .ok (.iconst 0, 1) := by decide +kernel
theorem dX5_weights_14 : decode M_X5_weights.2.1 14 = .ok (.istore_n 2, 1) := by decide +kernel
theorem dX5_weights_15 : decode M_X5_weights.2.1 15 = .ok (.aload_n 0, 1) := by decide +kernel
theorem dX5_weights_16 : decode M_X5_weights.2.1 16 = .ok (.getfield 16, 3) := by decide +kernel
theorem dX5_weights_19 : decode M_X5_weights.2.1 19 = .ok (.aload_n 0, 1) := by decide +kernel
theorem dX5_weights_20 : decode M_X5_weights.2.1 20 = .ok (.getfield 10, 3) := by decide +kernel
theorem dX5_weights_23 : decode M_X5_weights.2.1 23 = .ok (.invokevirtual 85, 3) := by decide +kernel
theorem dX5_weights_26 : decode M_X5_weights.2.1 26 = .ok (.iconst 1, 1) := by decide +kernel
theorem dX5_weights_27 : decode M_X5_weights.2.1 27 = .ok (.istore_n 3, 1) := by decide +kernel
theorem dX5_weights_28 : decode M_X5_weights.2.1 28 = .ok (.iload_n 3, 1) := by decide +kernel
theorem dX5_weights_29 : decode M_X5_weights.2.1 29 = .ok (.bipush 9, 2) := by decide +kernel
theorem dX5_weights_31 : decode M_X5_weights.2.1 31 = .ok (.if_icmp .gt 37, 3) := by decide +kernel
theorem dX5_weights_34 : decode M_X5_weights.2.1 34 = .ok (.aload_n 0, 1) := by decide +kernel
theorem dX5_weights_35 : decode M_X5_weights.2.1 35 = .ok (.getfield 16, 3) := by decide +kernel
theorem dX5_weights_38 : decode M_X5_weights.2.1 38 = .ok (.iload_n 1, 1) := by decide +kernel
theorem dX5_weights_39 : decode M_X5_weights.2.1 39 = .ok (.iconst 2, 1) := by decide +kernel
theorem dX5_weights_40 : decode M_X5_weights.2.1 40 = .ok (.iload_n 3, 1) := by decide +kernel
theorem dX5_weights_41 : decode M_X5_weights.2.1 41 = .ok (.invokevirtual 120, 3) := by decide +kernel
theorem dX5_weights_44 : decode M_X5_weights.2.1 44 = .ok (.aload_n 0, 1) := by decide +kernel
theorem dX5_weights_45 : decode M_X5_weights.2.1 45 = .ok (.aload_n 0, 1) := by decide +kernel
theorem dX5_weights_46 : decode M_X5_weights.2.1 46 = .ok (.getfield 16, 3) := by decide +kernel
theorem dX5_weights_49 : decode M_X5_weights.2.1 49 = .ok (.iconst 0, 1) := by decide +kernel
theorem dX5_weights_50 : decode M_X5_weights.2.1 50 = .ok (.invokevirtual 145, 3) := by decide +kernel
theorem dX5_weights_53 : decode M_X5_weights.2.1 53 = .ok (.ifCond .eq 9, 3) := by decide +kernel
theorem dX5_weights_56 : decode M_X5_weights.2.1 56 = .ok (.iload_n 2, 1) := by decide +kernel
theorem dX5_weights_57 : decode M_X5_weights.2.1 57 = .ok (.iconst 1, 1) := by decide +kernel
theorem dX5_weights_58 : decode M_X5_weights.2.1 58 = .ok (.iload_n 3, 1) := by decide +kernel
theorem dX5_weights_59 : decode M_X5_weights.2.1 59 = .ok (.ishl, 1) := by decide +kernel
theorem dX5_weights_60 : decode M_X5_weights.2.1 60 = .ok (.ior, 1) := by decide +kernel
theorem dX5_weights_61 : decode M_X5_weights.2.1 61 = .ok (.istore_n 2, 1) := by decide +kernel
theorem dX5_weights_62 : decode M_X5_weights.2.1 62 = .ok (.iinc 3 1, 3) := by decide +kernel
theorem dX5_weights_65 : decode M_X5_weights.2.1 65 = .ok (.goto (-37), 3) := by decide +kernel
theorem dX5_weights_68 : decode M_X5_weights.2.1 68 = .ok (.iload_n 2, 1) := by decide +kernel
theorem dX5_weights_69 : decode M_X5_weights.2.1 69 = .ok (.ireturn, 1) := by decide +kernel
theorem dX5_key_0 : decode M_X5_key.2.1 0 = .ok (.aload_n 0, 1) := by decide +kernel
theorem dX5_key_1 : decode M_X5_key.2.1 1 = .ok (.aload_n 0, 1) := by decide +kernel
theorem dX5_key_2 : decode M_X5_key.2.1 2 = .ok (.getfield 10, 3) := by decide +kernel
theorem dX5_key_5 : decode M_X5_key.2.1 5 = .ok (.iconst 0, 1) := by decide +kernel
theorem dX5_key_6 : decode M_X5_key.2.1 6 = .ok (.invokevirtual 145, 3) := by decide +kernel
theorem dX5_key_9 : decode M_X5_key.2.1 9 = .ok (.ifCond .ne 6, 3) := by decide +kernel
theorem dX5_key_12 : decode M_X5_key.2.1 12 = .ok (.bipush (-9), 2) := by decide +kernel
theorem dX5_key_14 : decode M_X5_key.2.1 14 = .ok (.ireturn, 1) := by decide +kernel
theorem dX5_key_15 : decode M_X5_key.2.1 15 = .ok (.iconst 0, 1) := by decide +kernel
theorem dX5_key_16 : decode M_X5_key.2.1 16 = .ok (.istore_n 1, 1) := by decide +kernel
theorem dX5_key_17 : decode M_X5_key.2.1 17 = .ok (.iload_n 1, 1) := by decide +kernel
theorem dX5_key_18 : decode M_X5_key.2.1 18 = .ok (.aload_n 0, 1) := by decide +kernel
theorem dX5_key_19 : decode M_X5_key.2.1 19 = .ok (.getfield 10, 3) := by decide +kernel
theorem dX5_key_22 : decode M_X5_key.2.1 22 = .ok (.invokevirtual 93, 3) := by decide +kernel
theorem dX5_key_25 : decode M_X5_key.2.1 25 = .ok (.if_icmp .ge 41, 3) := by decide +kernel
theorem dX5_key_28 : decode M_X5_key.2.1 28 = .ok (.aload_n 0, 1) := by decide +kernel
theorem dX5_key_29 : decode M_X5_key.2.1 29 = .ok (.getfield 22, 3) := by decide +kernel
theorem dX5_key_32 : decode M_X5_key.2.1 32 = .ok (.aload_n 0, 1) := by decide +kernel
theorem dX5_key_33 : decode M_X5_key.2.1 33 = .ok (.getfield 10, 3) := by decide +kernel
theorem dX5_key_36 : decode M_X5_key.2.1 36 = .ok (.invokevirtual 100, 3) := by decide +kernel
theorem dX5_key_39 : decode M_X5_key.2.1 39 = .ok (.aload_n 0, 1) := by decide +kernel
theorem dX5_key_40 : decode M_X5_key.2.1 40 = .ok (.getfield 22, 3) := by decide +kernel
theorem dX5_key_43 : decode M_X5_key.2.1 43 = .ok (.iload_n 1, 1) := by decide +kernel
theorem dX5_key_44 : decode M_X5_key.2.1 44 = .ok (.invokevirtual 110, 3) := by decide +kernel
theorem dX5_key_47 : decode M_X5_key.2.1 47 = .ok (.ifCond .ne 13, 3) := by decide +kernel
theorem dX5_key_50 : decode M_X5_key.2.1 50 = .ok (.aload_n 0, 1) := by decide +kernel
theorem dX5_key_51 : decode M_X5_key.2.1 51 = .ok (.iload_n 1, 1) := by decide +kernel
theorem dX5_key_52 : decode M_X5_key.2.1 52 = .ok (.invokevirtual 162, 3) := by decide +kernel
theorem dX5_key_55 : decode M_X5_key.2.1 55 = .ok (.ifCond .ne 5, 3) := by decide +kernel
theorem dX5_key_58 : decode M_X5_key.2.1 58 = .ok (.iload_n 1, 1) := by decide +kernel
theorem dX5_key_59 : decode M_X5_key.2.1 59 = .ok (.ireturn, 1) := by decide +kernel
theorem dX5_key_60 : decode M_X5_key.2.1 60 = .ok (.iinc 1 1, 3) := by decide +kernel
theorem dX5_key_63 : decode M_X5_key.2.1 63 = .ok (.goto (-46), 3) := by decide +kernel
theorem dX5_key_66 : decode M_X5_key.2.1 66 = .ok (.bipush (-9), 2) := by decide +kernel
theorem dX5_key_68 : decode M_X5_key.2.1 68 = .ok (.ireturn, 1) := by decide +kernel
theorem dX5_hold_0 : decode M_X5_hold.2.1 0 = .ok (.aload_n 0, 1) := by decide +kernel
theorem dX5_hold_1 : decode M_X5_hold.2.1 1 = .ok (.getfield 10, 3) := by decide +kernel
theorem dX5_hold_4 : decode M_X5_hold.2.1 4 = .ok (.invokevirtual 93, 3) := by decide +kernel
theorem dX5_hold_7 : decode M_X5_hold.2.1 7 = .ok (.istore_n 1, 1) := by decide +kernel
theorem dX5_hold_8 : decode M_X5_hold.2.1 8 = .ok (.iconst 0, 1) := by decide +kernel
theorem dX5_hold_9 : decode M_X5_hold.2.1 9 = .ok (.istore_n 2, 1) := by decide +kernel
theorem dX5_hold_10 : decode M_X5_hold.2.1 10 = .ok (.iload_n 2, 1) := by decide +kernel
theorem dX5_hold_11 : decode M_X5_hold.2.1 11 = .ok (.iload_n 1, 1) := by decide +kernel
theorem dX5_hold_12 : decode M_X5_hold.2.1 12 = .ok (.if_icmp .ge 46, 3) := by decide +kernel
theorem dX5_hold_15 : decode M_X5_hold.2.1 15 = .ok (.iconst 0, 1) := by decide +kernel
theorem dX5_hold_16 : decode M_X5_hold.2.1 16 = .ok (.istore_n 3, 1) := by decide +kernel
theorem dX5_hold_17 : decode M_X5_hold.2.1 17 = .ok (.iload_n 3, 1) := by decide +kernel
theorem dX5_hold_18 : decode M_X5_hold.2.1 18 = .ok (.iconst 1, 1) := by decide +kernel
theorem dX5_hold_19 : decode M_X5_hold.2.1 19 = .ok (.iload_n 1, 1) := by decide +kernel
theorem dX5_hold_20 : decode M_X5_hold.2.1 20 = .ok (.ishl, 1) := by decide +kernel
theorem dX5_hold_21 : decode M_X5_hold.2.1 21 = .ok (.if_icmp .ge 31, 3) := by decide +kernel
theorem dX5_hold_24 : decode M_X5_hold.2.1 24 = .ok (.iload_n 3, 1) := by decide +kernel
theorem dX5_hold_25 : decode M_X5_hold.2.1 25 = .ok (.invokestatic 165, 3) := by decide +kernel
theorem dX5_hold_28 : decode M_X5_hold.2.1 28 = .ok (.iload_n 2, 1) := by decide +kernel
theorem dX5_hold_29 : decode M_X5_hold.2.1 29 = .ok (.if_icmp .ne 17, 3) := by decide +kernel
theorem dX5_hold_32 : decode M_X5_hold.2.1 32 = .ok (.aload_n 0, 1) := by decide +kernel
theorem dX5_hold_33 : decode M_X5_hold.2.1 33 = .ok (.aload_n 0, 1) := by decide +kernel
theorem dX5_hold_34 : decode M_X5_hold.2.1 34 = .ok (.getfield 10, 3) := by decide +kernel
theorem dX5_hold_37 : decode M_X5_hold.2.1 37 = .ok (.iload_n 3, 1) := by decide +kernel
theorem dX5_hold_38 : decode M_X5_hold.2.1 38 = .ok (.invokevirtual 145, 3) := by decide +kernel
theorem dX5_hold_41 : decode M_X5_hold.2.1 41 = .ok (.ifCond .eq 5, 3) := by decide +kernel
theorem dX5_hold_44 : decode M_X5_hold.2.1 44 = .ok (.iload_n 3, 1) := by decide +kernel
theorem dX5_hold_45 : decode M_X5_hold.2.1 45 = .ok (.ireturn, 1) := by decide +kernel
theorem dX5_hold_46 : decode M_X5_hold.2.1 46 = .ok (.iinc 3 1, 3) := by decide +kernel
theorem dX5_hold_49 : decode M_X5_hold.2.1 49 = .ok (.goto (-32), 3) := by decide +kernel
theorem dX5_hold_52 : decode M_X5_hold.2.1 52 = .ok (.iinc 2 1, 3) := by decide +kernel
theorem dX5_hold_55 : decode M_X5_hold.2.1 55 = .ok (.goto (-45), 3) := by decide +kernel
theorem dX5_hold_58 : decode M_X5_hold.2.1 58 = .ok (.iconst 1, 1) := by decide +kernel
theorem dX5_hold_59 : decode M_X5_hold.2.1 59 = .ok (.iload_n 1, 1) := by decide +kernel
theorem dX5_hold_60 : decode M_X5_hold.2.1 60 = .ok (.ishl, 1) := by decide +kernel
theorem dX5_hold_61 : decode M_X5_hold.2.1 61 = .ok (.iconst 1, 1) := by decide +kernel
theorem dX5_hold_62 : decode M_X5_hold.2.1 62 = .ok (.isub, 1) := by decide +kernel
theorem dX5_hold_63 : decode M_X5_hold.2.1 63 = .ok (.ireturn, 1) := by decide +kernel
theorem dX5_keep_0 : decode M_X5_keep.2.1 0 = .ok (.iload_n 1, 1) := by decide +kernel
theorem dX5_keep_1 : decode M_X5_keep.2.1 1 = .ok (.iconst 0, 1) := by decide +kernel
theorem dX5_keep_2 : decode M_X5_keep.2.1 2 = .ok (.iconst 1, 1) := by decide +kernel
theorem dX5_keep_3 : decode M_X5_keep.2.1 3 = .ok (.invokestatic 60, 3) := by decide +kernel
theorem dX5_keep_6 : decode M_X5_keep.2.1 6 = .ok (.ifCond .ne 5, 3) := by decide +kernel
theorem dX5_keep_9 : decode M_X5_keep.2.1 9 = .ok (.iconst (-1), 1) := by decide +kernel
theorem dX5_keep_10 : decode M_X5_keep.2.1 10 = .ok (.ireturn, 1) := by decide +kernel
theorem dX5_keep_11 : decode M_X5_keep.2.1 11 = .ok (.aload_n 0, 1) := by decide +kernel
theorem dX5_keep_12 : decode M_X5_keep.2.1 12 = .ok (.getfield 49, 3) := by decide +kernel
theorem dX5_keep_15 : decode M_X5_keep.2.1 15 = .ok (.iload_n 1, 1) := by decide +kernel
theorem dX5_keep_16 : decode M_X5_keep.2.1 16 = .ok (.aload_n 0, 1) := by decide +kernel
theorem dX5_keep_17 : decode M_X5_keep.2.1 17 = .ok (.getfield 10, 3) := by decide +kernel
theorem dX5_keep_20 : decode M_X5_keep.2.1 20 = .ok (.invokevirtual 170, 3) := by decide +kernel
theorem dX5_keep_23 : decode M_X5_keep.2.1 23 = .ok (.aload_n 0, 1) := by decide +kernel
theorem dX5_keep_24 : decode M_X5_keep.2.1 24 = .ok (.getfield 52, 3) := by decide +kernel
theorem dX5_keep_27 : decode M_X5_keep.2.1 27 = .ok (.iload_n 1, 1) := by decide +kernel
theorem dX5_keep_28 : decode M_X5_keep.2.1 28 = .ok (.iconst 1, 1) := by decide +kernel
theorem dX5_keep_29 : decode M_X5_keep.2.1 29 = .ok (.bastore, 1) := by decide +kernel
theorem dX5_keep_30 : decode M_X5_keep.2.1 30 = .ok (.aload_n 0, 1) := by decide +kernel
theorem dX5_keep_31 : decode M_X5_keep.2.1 31 = .ok (.getfield 10, 3) := by decide +kernel
theorem dX5_keep_34 : decode M_X5_keep.2.1 34 = .ok (.invokevirtual 93, 3) := by decide +kernel
theorem dX5_keep_37 : decode M_X5_keep.2.1 37 = .ok (.ireturn, 1) := by decide +kernel
theorem dX5_back_0 : decode M_X5_back.2.1 0 = .ok (.iload_n 1, 1) := by decide +kernel
theorem dX5_back_1 : decode M_X5_back.2.1 1 = .ok (.iconst 0, 1) := by decide +kernel
theorem dX5_back_2 : decode M_X5_back.2.1 2 = .ok (.iconst 1, 1) := by decide +kernel
theorem dX5_back_3 : decode M_X5_back.2.1 3 = .ok (.invokestatic 60, 3) := by decide +kernel
theorem dX5_back_6 : decode M_X5_back.2.1 6 = .ok (.ifCond .ne 5, 3) := by decide +kernel
theorem dX5_back_9 : decode M_X5_back.2.1 9 = .ok (.iconst (-1), 1) := by decide +kernel
theorem dX5_back_10 : decode M_X5_back.2.1 10 = .ok (.ireturn, 1) := by decide +kernel
theorem dX5_back_11 : decode M_X5_back.2.1 11 = .ok (.aload_n 0, 1) := by decide +kernel
theorem dX5_back_12 : decode M_X5_back.2.1 12 = .ok (.getfield 52, 3) := by decide +kernel
theorem dX5_back_15 : decode M_X5_back.2.1 15 = .ok (.iload_n 1, 1) := by decide +kernel
theorem dX5_back_16 : decode M_X5_back.2.1 16 = .ok (.baload, 1) := by decide +kernel
theorem dX5_back_17 : decode M_X5_back.2.1 17 = .ok (.ifCond .ne 6, 3) := by decide +kernel
theorem dX5_back_20 : decode M_X5_back.2.1 20 = .ok (.bipush (-2), 2) := by decide +kernel
theorem dX5_back_22 : decode M_X5_back.2.1 22 = .ok (.ireturn, 1) := by decide +kernel
theorem dX5_back_23 : decode M_X5_back.2.1 23 = .ok (.aload_n 0, 1) := by decide +kernel
theorem dX5_back_24 : decode M_X5_back.2.1 24 = .ok (.getfield 49, 3) := by decide +kernel
theorem dX5_back_27 : decode M_X5_back.2.1 27 = .ok (.iload_n 1, 1) := by decide +kernel
theorem dX5_back_28 : decode M_X5_back.2.1 28 = .ok (.aload_n 0, 1) := by decide +kernel
theorem dX5_back_29 : decode M_X5_back.2.1 29 = .ok (.getfield 10, 3) := by decide +kernel
theorem dX5_back_32 : decode M_X5_back.2.1 32 = .ok (.invokevirtual 126, 3) := by decide +kernel
theorem dX5_back_35 : decode M_X5_back.2.1 35 = .ok (.aload_n 0, 1) := by decide +kernel
theorem dX5_back_36 : decode M_X5_back.2.1 36 = .ok (.iconst 0, 1) := by decide +kernel
theorem dX5_back_37 : decode M_X5_back.2.1 37 = .ok (.putfield 56, 3) := by decide +kernel
theorem dX5_back_40 : decode M_X5_back.2.1 40 = .ok (.aload_n 0, 1) := by decide +kernel
theorem dX5_back_41 : decode M_X5_back.2.1 41 = .ok (.getfield 10, 3) := by decide +kernel
theorem dX5_back_44 : decode M_X5_back.2.1 44 = .ok (.invokevirtual 93, 3) := by decide +kernel
theorem dX5_back_47 : decode M_X5_back.2.1 47 = .ok (.ireturn, 1) := by decide +kernel
theorem dX5_count_0 : decode M_X5_count.2.1 0 = .ok (.iload_n 1, 1) := by decide +kernel
theorem dX5_count_1 : decode M_X5_count.2.1 1 = .ok (.tableswitch 106 0 5 #[39, 47, 66, 74, 93, 101], 39) := by decide +kernel
theorem dX5_count_40 : decode M_X5_count.2.1 40 = .ok (.aload_n 0, 1) := by decide +kernel
theorem dX5_count_41 : decode M_X5_count.2.1 41 = .ok (.getfield 10, 3) := by decide +kernel
theorem dX5_count_44 : decode M_X5_count.2.1 44 = .ok (.invokevirtual 93, 3) := by decide +kernel
theorem dX5_count_47 : decode M_X5_count.2.1 47 = .ok (.ireturn, 1) := by decide +kernel
theorem dX5_count_48 : decode M_X5_count.2.1 48 = .ok (.aload_n 0, 1) := by decide +kernel
theorem dX5_count_49 : decode M_X5_count.2.1 49 = .ok (.getfield 22, 3) := by decide +kernel
theorem dX5_count_52 : decode M_X5_count.2.1 52 = .ok (.aload_n 0, 1) := by decide +kernel
theorem dX5_count_53 : decode M_X5_count.2.1 53 = .ok (.getfield 10, 3) := by decide +kernel
theorem dX5_count_56 : decode M_X5_count.2.1 56 = .ok (.invokevirtual 100, 3) := by decide +kernel
theorem dX5_count_59 : decode M_X5_count.2.1 59 = .ok (.aload_n 0, 1) := by decide +kernel
theorem dX5_count_60 : decode M_X5_count.2.1 60 = .ok (.getfield 22, 3) := by decide +kernel
theorem dX5_count_63 : decode M_X5_count.2.1 63 = .ok (.invokevirtual 133, 3) := by decide +kernel
theorem dX5_count_66 : decode M_X5_count.2.1 66 = .ok (.ireturn, 1) := by decide +kernel
theorem dX5_count_67 : decode M_X5_count.2.1 67 = .ok (.aload_n 0, 1) := by decide +kernel
theorem dX5_count_68 : decode M_X5_count.2.1 68 = .ok (.getfield 10, 3) := by decide +kernel
theorem dX5_count_71 : decode M_X5_count.2.1 71 = .ok (.invokevirtual 173, 3) := by decide +kernel
theorem dX5_count_74 : decode M_X5_count.2.1 74 = .ok (.ireturn, 1) := by decide +kernel
theorem dX5_count_75 : decode M_X5_count.2.1 75 = .ok (.aload_n 0, 1) := by decide +kernel
theorem dX5_count_76 : decode M_X5_count.2.1 76 = .ok (.getfield 22, 3) := by decide +kernel
theorem dX5_count_79 : decode M_X5_count.2.1 79 = .ok (.aload_n 0, 1) := by decide +kernel
theorem dX5_count_80 : decode M_X5_count.2.1 80 = .ok (.getfield 10, 3) := by decide +kernel
theorem dX5_count_83 : decode M_X5_count.2.1 83 = .ok (.invokevirtual 100, 3) := by decide +kernel
theorem dX5_count_86 : decode M_X5_count.2.1 86 = .ok (.aload_n 0, 1) := by decide +kernel
theorem dX5_count_87 : decode M_X5_count.2.1 87 = .ok (.getfield 22, 3) := by decide +kernel
theorem dX5_count_90 : decode M_X5_count.2.1 90 = .ok (.invokevirtual 176, 3) := by decide +kernel
theorem dX5_count_93 : decode M_X5_count.2.1 93 = .ok (.ireturn, 1) := by decide +kernel
theorem dX5_count_94 : decode M_X5_count.2.1 94 = .ok (.aload_n 0, 1) := by decide +kernel
theorem dX5_count_95 : decode M_X5_count.2.1 95 = .ok (.getfield 36, 3) := by decide +kernel
theorem dX5_count_98 : decode M_X5_count.2.1 98 = .ok (.invokevirtual 68, 3) := by decide +kernel
theorem dX5_count_101 : decode M_X5_count.2.1 101 = .ok (.ireturn, 1) := by decide +kernel
theorem dX5_count_102 : decode M_X5_count.2.1 102 = .ok (.aload_n 0, 1) := by decide +kernel
theorem dX5_count_103 : decode M_X5_count.2.1 103 = .ok (.getfield 56, 3) := by decide +kernel
theorem dX5_count_106 : decode M_X5_count.2.1 106 = .ok (.ireturn, 1) := by decide +kernel
theorem dX5_count_107 : decode M_X5_count.2.1 107 = .ok (.iconst (-1), 1) := by decide +kernel
theorem dX5_count_108 : decode M_X5_count.2.1 108 = .ok (.ireturn, 1) := by decide +kernel
theorem dX5_within_0 : decode M_X5_within.2.1 0 = .ok (.iload_n 0, 1) := by decide +kernel
theorem dX5_within_1 : decode M_X5_within.2.1 1 = .ok (.iload_n 1, 1) := by decide +kernel
theorem dX5_within_2 : decode M_X5_within.2.1 2 = .ok (.if_icmp .lt 12, 3) := by decide +kernel
theorem dX5_within_5 : decode M_X5_within.2.1 5 = .ok (.iload_n 0, 1) := by decide +kernel
theorem dX5_within_6 : decode M_X5_within.2.1 6 = .ok (.iload_n 2, 1) := by decide +kernel
theorem dX5_within_7 : decode M_X5_within.2.1 7 = .ok (.if_icmp .gt 7, 3) := by decide +kernel
theorem dX5_within_10 : decode M_X5_within.2.1 10 = .ok (.iconst 1, 1) := by decide +kernel
theorem dX5_within_11 : decode M_X5_within.2.1 11 = .ok (.goto 4, 3) := by decide +kernel
theorem dX5_within_14 : decode M_X5_within.2.1 14 = .ok (.iconst 0, 1) := by decide +kernel
theorem dX5_within_15 : decode M_X5_within.2.1 15 = .ok (.ireturn, 1) := by decide +kernel
theorem dX5_isBlock_0 : decode M_X5_isBlock.2.1 0 = .ok (.iload_n 0, 1) := by decide +kernel
theorem dX5_isBlock_1 : decode M_X5_isBlock.2.1 1 = .ok (.iconst 1, 1) := by decide +kernel
theorem dX5_isBlock_2 : decode M_X5_isBlock.2.1 2 = .ok (.iconst 3, 1) := by decide +kernel
theorem dX5_isBlock_3 : decode M_X5_isBlock.2.1 3 = .ok (.invokestatic 60, 3) := by decide +kernel
theorem dX5_isBlock_6 : decode M_X5_isBlock.2.1 6 = .ok (.ifCond .eq 17, 3) := by decide +kernel
theorem dX5_isBlock_9 : decode M_X5_isBlock.2.1 9 = .ok (.iload_n 1, 1) := by decide +kernel
theorem dX5_isBlock_10 : decode M_X5_isBlock.2.1 10 = .ok (.iconst 1, 1) := by decide +kernel
theorem dX5_isBlock_11 : decode M_X5_isBlock.2.1 11 = .ok (.bipush 9, 2) := by decide +kernel
theorem dX5_isBlock_13 : decode M_X5_isBlock.2.1 13 = .ok (.invokestatic 60, 3) := by decide +kernel
theorem dX5_isBlock_16 : decode M_X5_isBlock.2.1 16 = .ok (.ifCond .eq 7, 3) := by decide +kernel
theorem dX5_isBlock_19 : decode M_X5_isBlock.2.1 19 = .ok (.iconst 1, 1) := by decide +kernel
theorem dX5_isBlock_20 : decode M_X5_isBlock.2.1 20 = .ok (.goto 4, 3) := by decide +kernel
theorem dX5_isBlock_23 : decode M_X5_isBlock.2.1 23 = .ok (.iconst 0, 1) := by decide +kernel
theorem dX5_isBlock_24 : decode M_X5_isBlock.2.1 24 = .ok (.ireturn, 1) := by decide +kernel
theorem dX5_isSpot_0 : decode M_X5_isSpot.2.1 0 = .ok (.aload_n 0, 1) := by decide +kernel
theorem dX5_isSpot_1 : decode M_X5_isSpot.2.1 1 = .ok (.getfield 10, 3) := by decide +kernel
theorem dX5_isSpot_4 : decode M_X5_isSpot.2.1 4 = .ok (.iload_n 1, 1) := by decide +kernel
theorem dX5_isSpot_5 : decode M_X5_isSpot.2.1 5 = .ok (.invokevirtual 107, 3) := by decide +kernel
theorem dX5_isSpot_8 : decode M_X5_isSpot.2.1 8 = .ok (.ifCond .eq 26, 3) := by decide +kernel
theorem dX5_isSpot_11 : decode M_X5_isSpot.2.1 11 = .ok (.iload_n 2, 1) := by decide +kernel
theorem dX5_isSpot_12 : decode M_X5_isSpot.2.1 12 = .ok (.iconst 0, 1) := by decide +kernel
theorem dX5_isSpot_13 : decode M_X5_isSpot.2.1 13 = .ok (.iconst 2, 1) := by decide +kernel
theorem dX5_isSpot_14 : decode M_X5_isSpot.2.1 14 = .ok (.aload_n 0, 1) := by decide +kernel
theorem dX5_isSpot_15 : decode M_X5_isSpot.2.1 15 = .ok (.getfield 10, 3) := by decide +kernel
theorem dX5_isSpot_18 : decode M_X5_isSpot.2.1 18 = .ok (.iload_n 1, 1) := by decide +kernel
theorem dX5_isSpot_19 : decode M_X5_isSpot.2.1 19 = .ok (.iconst 1, 1) := by decide +kernel
theorem dX5_isSpot_20 : decode M_X5_isSpot.2.1 20 = .ok (.invokevirtual 116, 3) := by decide +kernel
theorem dX5_isSpot_23 : decode M_X5_isSpot.2.1 23 = .ok (.imul, 1) := by decide +kernel
theorem dX5_isSpot_24 : decode M_X5_isSpot.2.1 24 = .ok (.invokestatic 60, 3) := by decide +kernel
theorem dX5_isSpot_27 : decode M_X5_isSpot.2.1 27 = .ok (.ifCond .eq 7, 3) := by decide +kernel
theorem dX5_isSpot_30 : decode M_X5_isSpot.2.1 30 = .ok (.iconst 1, 1) := by decide +kernel
theorem dX5_isSpot_31 : decode M_X5_isSpot.2.1 31 = .ok (.goto 4, 3) := by decide +kernel
theorem dX5_isSpot_34 : decode M_X5_isSpot.2.1 34 = .ok (.iconst 0, 1) := by decide +kernel
theorem dX5_isSpot_35 : decode M_X5_isSpot.2.1 35 = .ok (.ireturn, 1) := by decide +kernel
theorem dX5_remember_0 : decode M_X5_remember.2.1 0 = .ok (.aload_n 0, 1) := by decide +kernel
theorem dX5_remember_1 : decode M_X5_remember.2.1 1 = .ok (.getfield 56, 3) := by decide +kernel
theorem dX5_remember_4 : decode M_X5_remember.2.1 4 = .ok (.bipush 6, 2) := by decide +kernel
theorem dX5_remember_6 : decode M_X5_remember.2.1 6 = .ok (.if_icmp .lt 15, 3) := by decide +kernel
theorem dX5_remember_9 : decode M_X5_remember.2.1 9 = .ok (.aload_n 0, 1) := by decide +kernel
theorem dX5_remember_10 : decode M_X5_remember.2.1 10 = .ok (.getfield 45, 3) := by decide +kernel
theorem dX5_remember_13 : decode M_X5_remember.2.1 13 = .ok (.invokevirtual 179, 3) := by decide +kernel
theorem dX5_remember_16 : decode M_X5_remember.2.1 16 = .ok (.aload_n 0, 1) := by decide +kernel
theorem dX5_remember_17 : decode M_X5_remember.2.1 17 = .ok (.iconst 5, 1) := by decide +kernel
theorem dX5_remember_18 : decode M_X5_remember.2.1 18 = .ok (.putfield 56, 3) := by decide +kernel
theorem dX5_remember_21 : decode M_X5_remember.2.1 21 = .ok (.aload_n 0, 1) := by decide +kernel
theorem dX5_remember_22 : decode M_X5_remember.2.1 22 = .ok (.getfield 45, 3) := by decide +kernel
theorem dX5_remember_25 : decode M_X5_remember.2.1 25 = .ok (.aload_n 0, 1) := by decide +kernel
theorem dX5_remember_26 : decode M_X5_remember.2.1 26 = .ok (.getfield 56, 3) := by decide +kernel
theorem dX5_remember_29 : decode M_X5_remember.2.1 29 = .ok (.aload_n 0, 1) := by decide +kernel
theorem dX5_remember_30 : decode M_X5_remember.2.1 30 = .ok (.getfield 10, 3) := by decide +kernel
theorem dX5_remember_33 : decode M_X5_remember.2.1 33 = .ok (.invokevirtual 170, 3) := by decide +kernel
theorem dX5_remember_36 : decode M_X5_remember.2.1 36 = .ok (.aload_n 0, 1) := by decide +kernel
theorem dX5_remember_37 : decode M_X5_remember.2.1 37 = .ok (.dup, 1) := by decide +kernel
theorem dX5_remember_38 : decode M_X5_remember.2.1 38 = .ok (.getfield 56, 3) := by decide +kernel
theorem dX5_remember_41 : decode M_X5_remember.2.1 41 = .ok (.iconst 1, 1) := by decide +kernel
theorem dX5_remember_42 : decode M_X5_remember.2.1 42 = .ok (.iadd, 1) := by decide +kernel
theorem dX5_remember_43 : decode M_X5_remember.2.1 43 = .ok (.putfield 56, 3) := by decide +kernel
theorem dX5_remember_46 : decode M_X5_remember.2.1 46 = .ok (.return_, 1) := by decide +kernel
theorem dX5_isBalanced_0 : decode M_X5_isBalanced.2.1 0 = .ok (.aload_n 0, 1) := by decide +kernel
theorem dX5_isBalanced_1 : decode M_X5_isBalanced.2.1 1 = .ok (.getfield 22, 3) := by decide +kernel
theorem dX5_isBalanced_4 : decode M_X5_isBalanced.2.1 4 = .ok (.aload_n 1, 1) := by decide +kernel
theorem dX5_isBalanced_5 : decode M_X5_isBalanced.2.1 5 = .ok (.invokevirtual 100, 3) := by decide +kernel
theorem dX5_isBalanced_8 : decode M_X5_isBalanced.2.1 8 = .ok (.aload_n 0, 1) := by decide +kernel
theorem dX5_isBalanced_9 : decode M_X5_isBalanced.2.1 9 = .ok (.getfield 29, 3) := by decide +kernel
theorem dX5_isBalanced_12 : decode M_X5_isBalanced.2.1 12 = .ok (.aload_n 1, 1) := by decide +kernel
theorem dX5_isBalanced_13 : decode M_X5_isBalanced.2.1 13 = .ok (.aload_n 0, 1) := by decide +kernel
theorem dX5_isBalanced_14 : decode M_X5_isBalanced.2.1 14 = .ok (.getfield 22, 3) := by decide +kernel
theorem dX5_isBalanced_17 : decode M_X5_isBalanced.2.1 17 = .ok (.iload_n 2, 1) := by decide +kernel
theorem dX5_isBalanced_18 : decode M_X5_isBalanced.2.1 18 = .ok (.invokevirtual 151, 3) := by decide +kernel
theorem dX5_isBalanced_21 : decode M_X5_isBalanced.2.1 21 = .ok (.aload_n 0, 1) := by decide +kernel
theorem dX5_isBalanced_22 : decode M_X5_isBalanced.2.1 22 = .ok (.getfield 29, 3) := by decide +kernel
theorem dX5_isBalanced_25 : decode M_X5_isBalanced.2.1 25 = .ok (.invokevirtual 182, 3) := by decide +kernel
theorem dX5_isBalanced_28 : decode M_X5_isBalanced.2.1 28 = .ok (.ireturn, 1) := by decide +kernel
theorem dX5_restsWithout_0 : decode M_X5_restsWithout.2.1 0 = .ok (.aload_n 0, 1) := by decide +kernel
theorem dX5_restsWithout_1 : decode M_X5_restsWithout.2.1 1 = .ok (.getfield 16, 3) := by decide +kernel
theorem dX5_restsWithout_4 : decode M_X5_restsWithout.2.1 4 = .ok (.aload_n 0, 1) := by decide +kernel
theorem dX5_restsWithout_5 : decode M_X5_restsWithout.2.1 5 = .ok (.getfield 10, 3) := by decide +kernel
theorem dX5_restsWithout_8 : decode M_X5_restsWithout.2.1 8 = .ok (.invokevirtual 85, 3) := by decide +kernel
theorem dX5_restsWithout_11 : decode M_X5_restsWithout.2.1 11 = .ok (.aload_n 0, 1) := by decide +kernel
theorem dX5_restsWithout_12 : decode M_X5_restsWithout.2.1 12 = .ok (.getfield 16, 3) := by decide +kernel
theorem dX5_restsWithout_15 : decode M_X5_restsWithout.2.1 15 = .ok (.iload_n 1, 1) := by decide +kernel
theorem dX5_restsWithout_16 : decode M_X5_restsWithout.2.1 16 = .ok (.invokevirtual 113, 3) := by decide +kernel
theorem dX5_restsWithout_19 : decode M_X5_restsWithout.2.1 19 = .ok (.aload_n 0, 1) := by decide +kernel
theorem dX5_restsWithout_20 : decode M_X5_restsWithout.2.1 20 = .ok (.aload_n 0, 1) := by decide +kernel
theorem dX5_restsWithout_21 : decode M_X5_restsWithout.2.1 21 = .ok (.getfield 16, 3) := by decide +kernel
theorem dX5_restsWithout_24 : decode M_X5_restsWithout.2.1 24 = .ok (.iconst 0, 1) := by decide +kernel
theorem dX5_restsWithout_25 : decode M_X5_restsWithout.2.1 25 = .ok (.invokevirtual 145, 3) := by decide +kernel
theorem dX5_restsWithout_28 : decode M_X5_restsWithout.2.1 28 = .ok (.ireturn, 1) := by decide +kernel
theorem dX5_extreme_0 : decode M_X5_extreme.2.1 0 = .ok (.aload_n 0, 1) := by decide +kernel
theorem dX5_extreme_1 : decode M_X5_extreme.2.1 1 = .ok (.getfield 29, 3) := by decide +kernel
theorem dX5_extreme_4 : decode M_X5_extreme.2.1 4 = .ok (.invokevirtual 182, 3) := by decide +kernel
theorem dX5_extreme_7 : decode M_X5_extreme.2.1 7 = .ok (.ifCond .ne 7, 3) := by decide +kernel
theorem dX5_extreme_10 : decode M_X5_extreme.2.1 10 = .ok (.ldc2_w 186, 3) := by decide +kernel
theorem dX5_extreme_13 : decode M_X5_extreme.2.1 13 = .ok (.lreturn, 1) := by decide +kernel
theorem dX5_extreme_14 : decode M_X5_extreme.2.1 14 = .ok (.iload_n 2, 1) := by decide +kernel
theorem dX5_extreme_15 : decode M_X5_extreme.2.1 15 = .ok (.iconst 2, 1) := by decide +kernel
theorem dX5_extreme_16 : decode M_X5_extreme.2.1 16 = .ok (.if_icmp .ge 14, 3) := by decide +kernel
theorem dX5_extreme_19 : decode M_X5_extreme.2.1 19 = .ok (.aload_n 0, 1) := by decide +kernel
theorem dX5_extreme_20 : decode M_X5_extreme.2.1 20 = .ok (.getfield 29, 3) := by decide +kernel
theorem dX5_extreme_23 : decode M_X5_extreme.2.1 23 = .ok (.iload_n 1, 1) := by decide +kernel
theorem dX5_extreme_24 : decode M_X5_extreme.2.1 24 = .ok (.invokevirtual 188, 3) := by decide +kernel
theorem dX5_extreme_27 : decode M_X5_extreme.2.1 27 = .ok (.goto 18, 3) := by decide +kernel
theorem dX5_extreme_30 : decode M_X5_extreme.2.1 30 = .ok (.aload_n 0, 1) := by decide +kernel
theorem dX5_extreme_31 : decode M_X5_extreme.2.1 31 = .ok (.getfield 29, 3) := by decide +kernel
theorem dX5_extreme_34 : decode M_X5_extreme.2.1 34 = .ok (.iload_n 1, 1) := by decide +kernel
theorem dX5_extreme_35 : decode M_X5_extreme.2.1 35 = .ok (.invokevirtual 191, 3) := by decide +kernel
theorem dX5_extreme_38 : decode M_X5_extreme.2.1 38 = .ok (.ifCond .ne 7, 3) := by decide +kernel
theorem dX5_extreme_41 : decode M_X5_extreme.2.1 41 = .ok (.ldc2_w 194, 3) := by decide +kernel
theorem dX5_extreme_44 : decode M_X5_extreme.2.1 44 = .ok (.lreturn, 1) := by decide +kernel
theorem dX5_extreme_45 : decode M_X5_extreme.2.1 45 = .ok (.iload_n 2, 1) := by decide +kernel
theorem dX5_extreme_46 : decode M_X5_extreme.2.1 46 = .ok (.iconst 2, 1) := by decide +kernel
theorem dX5_extreme_47 : decode M_X5_extreme.2.1 47 = .ok (.irem, 1) := by decide +kernel
theorem dX5_extreme_48 : decode M_X5_extreme.2.1 48 = .ok (.ifCond .ne 14, 3) := by decide +kernel
theorem dX5_extreme_51 : decode M_X5_extreme.2.1 51 = .ok (.aload_n 0, 1) := by decide +kernel
theorem dX5_extreme_52 : decode M_X5_extreme.2.1 52 = .ok (.getfield 29, 3) := by decide +kernel
theorem dX5_extreme_55 : decode M_X5_extreme.2.1 55 = .ok (.iload_n 1, 1) := by decide +kernel
theorem dX5_extreme_56 : decode M_X5_extreme.2.1 56 = .ok (.invokevirtual 196, 3) := by decide +kernel
theorem dX5_extreme_59 : decode M_X5_extreme.2.1 59 = .ok (.goto 11, 3) := by decide +kernel
theorem dX5_extreme_62 : decode M_X5_extreme.2.1 62 = .ok (.aload_n 0, 1) := by decide +kernel
theorem dX5_extreme_63 : decode M_X5_extreme.2.1 63 = .ok (.getfield 29, 3) := by decide +kernel
theorem dX5_extreme_66 : decode M_X5_extreme.2.1 66 = .ok (.iload_n 1, 1) := by decide +kernel
theorem dX5_extreme_67 : decode M_X5_extreme.2.1 67 = .ok (.invokevirtual 200, 3) := by decide +kernel
theorem dX5_extreme_70 : decode M_X5_extreme.2.1 70 = .ok (.lreturn, 1) := by decide +kernel
theorem dX6_init_0 : decode M_X6_init.2.1 0 = .ok (.aload_n 0, 1) := by decide +kernel
theorem dX6_init_1 : decode M_X6_init.2.1 1 = .ok (.invokespecial 1, 3) := by decide +kernel
theorem dX6_init_4 : decode M_X6_init.2.1 4 = .ok (.aload_n 0, 1) := by decide +kernel
theorem dX6_init_5 : decode M_X6_init.2.1 5 = .ok (.bipush 21, 2) := by decide +kernel
theorem dX6_init_7 : decode M_X6_init.2.1 7 = .ok (.newarray .int, 2) := by decide +kernel
theorem dX6_init_9 : decode M_X6_init.2.1 9 = .ok (.putfield 7, 3) := by decide +kernel
theorem dX6_init_12 : decode M_X6_init.2.1 12 = .ok (.aload_n 0, 1) := by decide +kernel
theorem dX6_init_13 : decode M_X6_init.2.1 13 = .ok (.bipush 126, 2) := by decide +kernel
theorem dX6_init_15 : decode M_X6_init.2.1 15 = .ok (.newarray .int, 2) := by decide +kernel
theorem dX6_init_17 : decode M_X6_init.2.1 17 = .ok (.putfield 13, 3) := by decide +kernel
theorem dX6_init_20 : decode M_X6_init.2.1 20 = .ok (.aload_n 0, 1) := by decide +kernel
theorem dX6_init_21 : decode M_X6_init.2.1 21 = .ok (.bipush 42, 2) := by decide +kernel
theorem dX6_init_23 : decode M_X6_init.2.1 23 = .ok (.newarray .int, 2) := by decide +kernel
theorem dX6_init_25 : decode M_X6_init.2.1 25 = .ok (.putfield 16, 3) := by decide +kernel
theorem dX6_init_28 : decode M_X6_init.2.1 28 = .ok (.aload_n 0, 1) := by decide +kernel
theorem dX6_init_29 : decode M_X6_init.2.1 29 = .ok (.iconst 2, 1) := by decide +kernel
theorem dX6_init_30 : decode M_X6_init.2.1 30 = .ok (.newarray .boolean, 2) := by decide +kernel
theorem dX6_init_32 : decode M_X6_init.2.1 32 = .ok (.putfield 19, 3) := by decide +kernel
theorem dX6_init_35 : decode M_X6_init.2.1 35 = .ok (.aload_n 0, 1) := by decide +kernel
theorem dX6_init_36 : decode M_X6_init.2.1 36 = .ok (.bipush 120, 2) := by decide +kernel
theorem dX6_init_38 : decode M_X6_init.2.1 38 = .ok (.newarray .int, 2) := by decide +kernel
theorem dX6_init_40 : decode M_X6_init.2.1 40 = .ok (.putfield 23, 3) := by decide +kernel
theorem dX6_init_43 : decode M_X6_init.2.1 43 = .ok (.aload_n 0, 1) := by decide +kernel
theorem dX6_init_44 : decode M_X6_init.2.1 44 = .ok (.iconst 4, 1) := by decide +kernel
theorem dX6_init_45 : decode M_X6_init.2.1 45 = .ok (.newarray .int, 2) := by decide +kernel
theorem dX6_init_47 : decode M_X6_init.2.1 47 = .ok (.putfield 26, 3) := by decide +kernel
theorem dX6_init_50 : decode M_X6_init.2.1 50 = .ok (.aload_n 0, 1) := by decide +kernel
theorem dX6_init_51 : decode M_X6_init.2.1 51 = .ok (.iconst 4, 1) := by decide +kernel
theorem dX6_init_52 : decode M_X6_init.2.1 52 = .ok (.newarray .int, 2) := by decide +kernel
theorem dX6_init_54 : decode M_X6_init.2.1 54 = .ok (.putfield 29, 3) := by decide +kernel
theorem dX6_init_57 : decode M_X6_init.2.1 57 = .ok (.aload_n 0, 1) := by decide +kernel
theorem dX6_init_58 : decode M_X6_init.2.1 58 = .ok (.bipush 16, 2) := by decide +kernel
theorem dX6_init_60 : decode M_X6_init.2.1 60 = .ok (.newarray .int, 2) := by decide +kernel
theorem dX6_init_62 : decode M_X6_init.2.1 62 = .ok (.putfield 32, 3) := by decide +kernel
theorem dX6_init_65 : decode M_X6_init.2.1 65 = .ok (.aload_n 0, 1) := by decide +kernel
theorem dX6_init_66 : decode M_X6_init.2.1 66 = .ok (.bipush 16, 2) := by decide +kernel
theorem dX6_init_68 : decode M_X6_init.2.1 68 = .ok (.newarray .int, 2) := by decide +kernel
theorem dX6_init_70 : decode M_X6_init.2.1 70 = .ok (.putfield 35, 3) := by decide +kernel
theorem dX6_init_73 : decode M_X6_init.2.1 73 = .ok (.aload_n 0, 1) := by decide +kernel
theorem dX6_init_74 : decode M_X6_init.2.1 74 = .ok (.bipush 16, 2) := by decide +kernel
theorem dX6_init_76 : decode M_X6_init.2.1 76 = .ok (.newarray .int, 2) := by decide +kernel
theorem dX6_init_78 : decode M_X6_init.2.1 78 = .ok (.putfield 38, 3) := by decide +kernel
theorem dX6_init_81 : decode M_X6_init.2.1 81 = .ok (.aload_n 0, 1) := by decide +kernel
theorem dX6_init_82 : decode M_X6_init.2.1 82 = .ok (.sipush 128, 3) := by decide +kernel
theorem dX6_init_85 : decode M_X6_init.2.1 85 = .ok (.newarray .long, 2) := by decide +kernel
theorem dX6_init_87 : decode M_X6_init.2.1 87 = .ok (.putfield 41, 3) := by decide +kernel
theorem dX6_init_90 : decode M_X6_init.2.1 90 = .ok (.aload_n 0, 1) := by decide +kernel
theorem dX6_init_91 : decode M_X6_init.2.1 91 = .ok (.bipush 8, 2) := by decide +kernel
theorem dX6_init_93 : decode M_X6_init.2.1 93 = .ok (.newarray .long, 2) := by decide +kernel
theorem dX6_init_95 : decode M_X6_init.2.1 95 = .ok (.putfield 45, 3) := by decide +kernel
theorem dX6_init_98 : decode M_X6_init.2.1 98 = .ok (.aload_n 0, 1) := by decide +kernel
theorem dX6_init_99 : decode M_X6_init.2.1 99 = .ok (.bipush 72, 2) := by decide +kernel
theorem dX6_init_101 : decode M_X6_init.2.1 101 = .ok (.newarray .long, 2) := by decide +kernel
theorem dX6_init_103 : decode M_X6_init.2.1 103 = .ok (.putfield 48, 3) := by decide +kernel
theorem dX6_init_106 : decode M_X6_init.2.1 106 = .ok (.aload_n 0, 1) := by decide +kernel
theorem dX6_init_107 : decode M_X6_init.2.1 107 = .ok (.bipush 21, 2) := by decide +kernel
theorem dX6_init_109 : decode M_X6_init.2.1 109 = .ok (.newarray .int, 2) := by decide +kernel
theorem dX6_init_111 : decode M_X6_init.2.1 111 = .ok (.putfield 51, 3) := by decide +kernel
theorem dX6_init_114 : decode M_X6_init.2.1 114 = .ok (.return_, 1) := by decide +kernel
theorem dX6_within_0 : decode M_X6_within.2.1 0 = .ok (.iload_n 0, 1) := by decide +kernel
theorem dX6_within_1 : decode M_X6_within.2.1 1 = .ok (.iload_n 1, 1) := by decide +kernel
theorem dX6_within_2 : decode M_X6_within.2.1 2 = .ok (.if_icmp .lt 12, 3) := by decide +kernel
theorem dX6_within_5 : decode M_X6_within.2.1 5 = .ok (.iload_n 0, 1) := by decide +kernel
theorem dX6_within_6 : decode M_X6_within.2.1 6 = .ok (.iload_n 2, 1) := by decide +kernel
theorem dX6_within_7 : decode M_X6_within.2.1 7 = .ok (.if_icmp .gt 7, 3) := by decide +kernel
theorem dX6_within_10 : decode M_X6_within.2.1 10 = .ok (.iconst 1, 1) := by decide +kernel
theorem dX6_within_11 : decode M_X6_within.2.1 11 = .ok (.goto 4, 3) := by decide +kernel
theorem dX6_within_14 : decode M_X6_within.2.1 14 = .ok (.iconst 0, 1) := by decide +kernel
theorem dX6_within_15 : decode M_X6_within.2.1 15 = .ok (.ireturn, 1) := by decide +kernel
theorem dX6_has_0 : decode M_X6_has.2.1 0 = .ok (.iload_n 0, 1) := by decide +kernel
theorem dX6_has_1 : decode M_X6_has.2.1 1 = .ok (.iload_n 1, 1) := by decide +kernel
theorem dX6_has_2 : decode M_X6_has.2.1 2 = .ok (.ishr, 1) := by decide +kernel
theorem dX6_has_3 : decode M_X6_has.2.1 3 = .ok (.iconst 1, 1) := by decide +kernel
theorem dX6_has_4 : decode M_X6_has.2.1 4 = .ok (.iand, 1) := by decide +kernel
theorem dX6_has_5 : decode M_X6_has.2.1 5 = .ok (.iconst 1, 1) := by decide +kernel
theorem dX6_has_6 : decode M_X6_has.2.1 6 = .ok (.if_icmp .ne 7, 3) := by decide +kernel
theorem dX6_has_9 : decode M_X6_has.2.1 9 = .ok (.iconst 1, 1) := by decide +kernel
theorem dX6_has_10 : decode M_X6_has.2.1 10 = .ok (.goto 4, 3) := by decide +kernel
theorem dX6_has_13 : decode M_X6_has.2.1 13 = .ok (.iconst 0, 1) := by decide +kernel
theorem dX6_has_14 : decode M_X6_has.2.1 14 = .ok (.ireturn, 1) := by decide +kernel
theorem dX6_ones_0 : decode M_X6_ones.2.1 0 = .ok (.iconst 0, 1) := by decide +kernel
theorem dX6_ones_1 : decode M_X6_ones.2.1 1 = .ok (.istore_n 1, 1) := by decide +kernel
theorem dX6_ones_2 : decode M_X6_ones.2.1 2 = .ok (.iconst 0, 1) := by decide +kernel
theorem dX6_ones_3 : decode M_X6_ones.2.1 3 = .ok (.istore_n 2, 1) := by decide +kernel
theorem dX6_ones_4 : decode M_X6_ones.2.1 4 = .ok (.iload_n 2, 1) := by decide +kernel
