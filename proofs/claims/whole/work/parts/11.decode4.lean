theorem dX6_ones_5 : decode M_X6_ones.2.1 5 = .ok (.bipush 16, 2) := by decide +kernel
theorem dX6_ones_7 : decode M_X6_ones.2.1 7 = .ok (.if_icmp .ge 17, 3) := by decide +kernel
theorem dX6_ones_10 : decode M_X6_ones.2.1 10 = .ok (.iload_n 1, 1) := by decide +kernel
theorem dX6_ones_11 : decode M_X6_ones.2.1 11 = .ok (.iload_n 0, 1) := by decide +kernel
theorem dX6_ones_12 : decode M_X6_ones.2.1 12 = .ok (.iload_n 2, 1) := by decide +kernel
theorem dX6_ones_13 : decode M_X6_ones.2.1 13 = .ok (.ishr, 1) := by decide +kernel
theorem dX6_ones_14 : decode M_X6_ones.2.1 14 = .ok (.iconst 1, 1) := by decide +kernel
theorem dX6_ones_15 : decode M_X6_ones.2.1 15 = .ok (.iand, 1) := by decide +kernel
theorem dX6_ones_16 : decode M_X6_ones.2.1 16 = .ok (.iadd, 1) := by decide +kernel
theorem dX6_ones_17 : decode M_X6_ones.2.1 17 = .ok (.istore_n 1, 1) := by decide +kernel
theorem dX6_ones_18 : decode M_X6_ones.2.1 18 = .ok (.iinc 2 1, 3) := by decide +kernel
theorem dX6_ones_21 : decode M_X6_ones.2.1 21 = .ok (.goto (-17), 3) := by decide +kernel
theorem dX6_ones_24 : decode M_X6_ones.2.1 24 = .ok (.iload_n 1, 1) := by decide +kernel
theorem dX6_ones_25 : decode M_X6_ones.2.1 25 = .ok (.ireturn, 1) := by decide +kernel
theorem dX6_many_0 : decode M_X6_many.2.1 0 = .ok (.aload_n 0, 1) := by decide +kernel
theorem dX6_many_1 : decode M_X6_many.2.1 1 = .ok (.getfield 7, 3) := by decide +kernel
theorem dX6_many_4 : decode M_X6_many.2.1 4 = .ok (.iconst 0, 1) := by decide +kernel
theorem dX6_many_5 : decode M_X6_many.2.1 5 = .ok (.iaload, 1) := by decide +kernel
theorem dX6_many_6 : decode M_X6_many.2.1 6 = .ok (.ireturn, 1) := by decide +kernel
theorem dX6_isBlock_0 : decode M_X6_isBlock.2.1 0 = .ok (.iload_n 1, 1) := by decide +kernel
theorem dX6_isBlock_1 : decode M_X6_isBlock.2.1 1 = .ok (.iconst 0, 1) := by decide +kernel
theorem dX6_isBlock_2 : decode M_X6_isBlock.2.1 2 = .ok (.aload_n 0, 1) := by decide +kernel
theorem dX6_isBlock_3 : decode M_X6_isBlock.2.1 3 = .ok (.getfield 7, 3) := by decide +kernel
theorem dX6_isBlock_6 : decode M_X6_isBlock.2.1 6 = .ok (.iconst 0, 1) := by decide +kernel
theorem dX6_isBlock_7 : decode M_X6_isBlock.2.1 7 = .ok (.iaload, 1) := by decide +kernel
theorem dX6_isBlock_8 : decode M_X6_isBlock.2.1 8 = .ok (.iconst 1, 1) := by decide +kernel
theorem dX6_isBlock_9 : decode M_X6_isBlock.2.1 9 = .ok (.isub, 1) := by decide +kernel
theorem dX6_isBlock_10 : decode M_X6_isBlock.2.1 10 = .ok (.invokestatic 54, 3) := by decide +kernel
theorem dX6_isBlock_13 : decode M_X6_isBlock.2.1 13 = .ok (.ireturn, 1) := by decide +kernel
theorem dX6_get_0 : decode M_X6_get.2.1 0 = .ok (.aload_n 0, 1) := by decide +kernel
theorem dX6_get_1 : decode M_X6_get.2.1 1 = .ok (.getfield 7, 3) := by decide +kernel
theorem dX6_get_4 : decode M_X6_get.2.1 4 = .ok (.iconst 5, 1) := by decide +kernel
theorem dX6_get_5 : decode M_X6_get.2.1 5 = .ok (.iload_n 1, 1) := by decide +kernel
theorem dX6_get_6 : decode M_X6_get.2.1 6 = .ok (.imul, 1) := by decide +kernel
theorem dX6_get_7 : decode M_X6_get.2.1 7 = .ok (.iload_n 2, 1) := by decide +kernel
theorem dX6_get_8 : decode M_X6_get.2.1 8 = .ok (.iadd, 1) := by decide +kernel
theorem dX6_get_9 : decode M_X6_get.2.1 9 = .ok (.iaload, 1) := by decide +kernel
theorem dX6_get_10 : decode M_X6_get.2.1 10 = .ok (.ireturn, 1) := by decide +kernel
theorem dX6_end_0 : decode M_X6_end.2.1 0 = .ok (.aload_n 0, 1) := by decide +kernel
theorem dX6_end_1 : decode M_X6_end.2.1 1 = .ok (.iload_n 1, 1) := by decide +kernel
theorem dX6_end_2 : decode M_X6_end.2.1 2 = .ok (.iconst 1, 1) := by decide +kernel
theorem dX6_end_3 : decode M_X6_end.2.1 3 = .ok (.invokevirtual 58, 3) := by decide +kernel
theorem dX6_end_6 : decode M_X6_end.2.1 6 = .ok (.iconst 2, 1) := by decide +kernel
theorem dX6_end_7 : decode M_X6_end.2.1 7 = .ok (.aload_n 0, 1) := by decide +kernel
theorem dX6_end_8 : decode M_X6_end.2.1 8 = .ok (.iload_n 1, 1) := by decide +kernel
theorem dX6_end_9 : decode M_X6_end.2.1 9 = .ok (.iconst 2, 1) := by decide +kernel
theorem dX6_end_10 : decode M_X6_end.2.1 10 = .ok (.invokevirtual 58, 3) := by decide +kernel
theorem dX6_end_13 : decode M_X6_end.2.1 13 = .ok (.imul, 1) := by decide +kernel
theorem dX6_end_14 : decode M_X6_end.2.1 14 = .ok (.iadd, 1) := by decide +kernel
theorem dX6_end_15 : decode M_X6_end.2.1 15 = .ok (.ireturn, 1) := by decide +kernel
theorem dX6_fits_0 : decode M_X6_fits.2.1 0 = .ok (.iload_n 0, 1) := by decide +kernel
theorem dX6_fits_1 : decode M_X6_fits.2.1 1 = .ok (.iconst 0, 1) := by decide +kernel
theorem dX6_fits_2 : decode M_X6_fits.2.1 2 = .ok (.bipush 9, 2) := by decide +kernel
theorem dX6_fits_4 : decode M_X6_fits.2.1 4 = .ok (.invokestatic 54, 3) := by decide +kernel
theorem dX6_fits_7 : decode M_X6_fits.2.1 7 = .ok (.ifCond .eq 26, 3) := by decide +kernel
theorem dX6_fits_10 : decode M_X6_fits.2.1 10 = .ok (.iload_n 1, 1) := by decide +kernel
theorem dX6_fits_11 : decode M_X6_fits.2.1 11 = .ok (.iconst 1, 1) := by decide +kernel
theorem dX6_fits_12 : decode M_X6_fits.2.1 12 = .ok (.iconst 3, 1) := by decide +kernel
theorem dX6_fits_13 : decode M_X6_fits.2.1 13 = .ok (.invokestatic 54, 3) := by decide +kernel
theorem dX6_fits_16 : decode M_X6_fits.2.1 16 = .ok (.ifCond .eq 17, 3) := by decide +kernel
theorem dX6_fits_19 : decode M_X6_fits.2.1 19 = .ok (.iload_n 2, 1) := by decide +kernel
theorem dX6_fits_20 : decode M_X6_fits.2.1 20 = .ok (.iconst 1, 1) := by decide +kernel
theorem dX6_fits_21 : decode M_X6_fits.2.1 21 = .ok (.bipush 9, 2) := by decide +kernel
theorem dX6_fits_23 : decode M_X6_fits.2.1 23 = .ok (.invokestatic 54, 3) := by decide +kernel
theorem dX6_fits_26 : decode M_X6_fits.2.1 26 = .ok (.ifCond .eq 7, 3) := by decide +kernel
theorem dX6_fits_29 : decode M_X6_fits.2.1 29 = .ok (.iconst 1, 1) := by decide +kernel
theorem dX6_fits_30 : decode M_X6_fits.2.1 30 = .ok (.goto 4, 3) := by decide +kernel
theorem dX6_fits_33 : decode M_X6_fits.2.1 33 = .ok (.iconst 0, 1) := by decide +kernel
theorem dX6_fits_34 : decode M_X6_fits.2.1 34 = .ok (.ireturn, 1) := by decide +kernel
theorem dX6_appends_0 : decode M_X6_appends.2.1 0 = .ok (.iconst 5, 1) := by decide +kernel
theorem dX6_appends_1 : decode M_X6_appends.2.1 1 = .ok (.aload_n 0, 1) := by decide +kernel
theorem dX6_appends_2 : decode M_X6_appends.2.1 2 = .ok (.getfield 7, 3) := by decide +kernel
theorem dX6_appends_5 : decode M_X6_appends.2.1 5 = .ok (.iconst 0, 1) := by decide +kernel
theorem dX6_appends_6 : decode M_X6_appends.2.1 6 = .ok (.iaload, 1) := by decide +kernel
theorem dX6_appends_7 : decode M_X6_appends.2.1 7 = .ok (.imul, 1) := by decide +kernel
theorem dX6_appends_8 : decode M_X6_appends.2.1 8 = .ok (.istore 4, 2) := by decide +kernel
theorem dX6_appends_10 : decode M_X6_appends.2.1 10 = .ok (.aload_n 0, 1) := by decide +kernel
theorem dX6_appends_11 : decode M_X6_appends.2.1 11 = .ok (.getfield 7, 3) := by decide +kernel
theorem dX6_appends_14 : decode M_X6_appends.2.1 14 = .ok (.iload 4, 2) := by decide +kernel
theorem dX6_appends_16 : decode M_X6_appends.2.1 16 = .ok (.iconst 1, 1) := by decide +kernel
theorem dX6_appends_17 : decode M_X6_appends.2.1 17 = .ok (.iadd, 1) := by decide +kernel
theorem dX6_appends_18 : decode M_X6_appends.2.1 18 = .ok (.iload_n 1, 1) := by decide +kernel
theorem dX6_appends_19 : decode M_X6_appends.2.1 19 = .ok (.iastore, 1) := by decide +kernel
theorem dX6_appends_20 : decode M_X6_appends.2.1 20 = .ok (.aload_n 0, 1) := by decide +kernel
theorem dX6_appends_21 : decode M_X6_appends.2.1 21 = .ok (.getfield 7, 3) := by decide +kernel
theorem dX6_appends_24 : decode M_X6_appends.2.1 24 = .ok (.iload 4, 2) := by decide +kernel
theorem dX6_appends_26 : decode M_X6_appends.2.1 26 = .ok (.iconst 2, 1) := by decide +kernel
theorem dX6_appends_27 : decode M_X6_appends.2.1 27 = .ok (.iadd, 1) := by decide +kernel
theorem dX6_appends_28 : decode M_X6_appends.2.1 28 = .ok (.iload_n 2, 1) := by decide +kernel
theorem dX6_appends_29 : decode M_X6_appends.2.1 29 = .ok (.iastore, 1) := by decide +kernel
theorem dX6_appends_30 : decode M_X6_appends.2.1 30 = .ok (.aload_n 0, 1) := by decide +kernel
theorem dX6_appends_31 : decode M_X6_appends.2.1 31 = .ok (.getfield 7, 3) := by decide +kernel
theorem dX6_appends_34 : decode M_X6_appends.2.1 34 = .ok (.iload 4, 2) := by decide +kernel
theorem dX6_appends_36 : decode M_X6_appends.2.1 36 = .ok (.iconst 3, 1) := by decide +kernel
theorem dX6_appends_37 : decode M_X6_appends.2.1 37 = .ok (.iadd, 1) := by decide +kernel
theorem dX6_appends_38 : decode M_X6_appends.2.1 38 = .ok (.iload_n 3, 1) := by decide +kernel
theorem dX6_appends_39 : decode M_X6_appends.2.1 39 = .ok (.iastore, 1) := by decide +kernel
theorem dX6_appends_40 : decode M_X6_appends.2.1 40 = .ok (.aload_n 0, 1) := by decide +kernel
theorem dX6_appends_41 : decode M_X6_appends.2.1 41 = .ok (.getfield 7, 3) := by decide +kernel
theorem dX6_appends_44 : decode M_X6_appends.2.1 44 = .ok (.iload 4, 2) := by decide +kernel
theorem dX6_appends_46 : decode M_X6_appends.2.1 46 = .ok (.iconst 4, 1) := by decide +kernel
theorem dX6_appends_47 : decode M_X6_appends.2.1 47 = .ok (.iadd, 1) := by decide +kernel
theorem dX6_appends_48 : decode M_X6_appends.2.1 48 = .ok (.iconst 0, 1) := by decide +kernel
theorem dX6_appends_49 : decode M_X6_appends.2.1 49 = .ok (.iastore, 1) := by decide +kernel
theorem dX6_appends_50 : decode M_X6_appends.2.1 50 = .ok (.aload_n 0, 1) := by decide +kernel
theorem dX6_appends_51 : decode M_X6_appends.2.1 51 = .ok (.getfield 7, 3) := by decide +kernel
theorem dX6_appends_54 : decode M_X6_appends.2.1 54 = .ok (.iload 4, 2) := by decide +kernel
theorem dX6_appends_56 : decode M_X6_appends.2.1 56 = .ok (.iconst 5, 1) := by decide +kernel
theorem dX6_appends_57 : decode M_X6_appends.2.1 57 = .ok (.iadd, 1) := by decide +kernel
theorem dX6_appends_58 : decode M_X6_appends.2.1 58 = .ok (.iconst 0, 1) := by decide +kernel
theorem dX6_appends_59 : decode M_X6_appends.2.1 59 = .ok (.iastore, 1) := by decide +kernel
theorem dX6_appends_60 : decode M_X6_appends.2.1 60 = .ok (.aload_n 0, 1) := by decide +kernel
theorem dX6_appends_61 : decode M_X6_appends.2.1 61 = .ok (.getfield 7, 3) := by decide +kernel
theorem dX6_appends_64 : decode M_X6_appends.2.1 64 = .ok (.iconst 0, 1) := by decide +kernel
theorem dX6_appends_65 : decode M_X6_appends.2.1 65 = .ok (.dup2, 1) := by decide +kernel
theorem dX6_appends_66 : decode M_X6_appends.2.1 66 = .ok (.iaload, 1) := by decide +kernel
theorem dX6_appends_67 : decode M_X6_appends.2.1 67 = .ok (.iconst 1, 1) := by decide +kernel
theorem dX6_appends_68 : decode M_X6_appends.2.1 68 = .ok (.iadd, 1) := by decide +kernel
theorem dX6_appends_69 : decode M_X6_appends.2.1 69 = .ok (.iastore, 1) := by decide +kernel
theorem dX6_appends_70 : decode M_X6_appends.2.1 70 = .ok (.return_, 1) := by decide +kernel
theorem dX6_removes_0 : decode M_X6_removes.2.1 0 = .ok (.iconst 5, 1) := by decide +kernel
theorem dX6_removes_1 : decode M_X6_removes.2.1 1 = .ok (.iload_n 1, 1) := by decide +kernel
theorem dX6_removes_2 : decode M_X6_removes.2.1 2 = .ok (.imul, 1) := by decide +kernel
theorem dX6_removes_3 : decode M_X6_removes.2.1 3 = .ok (.iconst 1, 1) := by decide +kernel
theorem dX6_removes_4 : decode M_X6_removes.2.1 4 = .ok (.iadd, 1) := by decide +kernel
theorem dX6_removes_5 : decode M_X6_removes.2.1 5 = .ok (.istore_n 2, 1) := by decide +kernel
theorem dX6_removes_6 : decode M_X6_removes.2.1 6 = .ok (.iload_n 2, 1) := by decide +kernel
theorem dX6_removes_7 : decode M_X6_removes.2.1 7 = .ok (.iconst 5, 1) := by decide +kernel
theorem dX6_removes_8 : decode M_X6_removes.2.1 8 = .ok (.aload_n 0, 1) := by decide +kernel
theorem dX6_removes_9 : decode M_X6_removes.2.1 9 = .ok (.getfield 7, 3) := by decide +kernel
theorem dX6_removes_12 : decode M_X6_removes.2.1 12 = .ok (.iconst 0, 1) := by decide +kernel
theorem dX6_removes_13 : decode M_X6_removes.2.1 13 = .ok (.iaload, 1) := by decide +kernel
theorem dX6_removes_14 : decode M_X6_removes.2.1 14 = .ok (.iconst 1, 1) := by decide +kernel
theorem dX6_removes_15 : decode M_X6_removes.2.1 15 = .ok (.isub, 1) := by decide +kernel
theorem dX6_removes_16 : decode M_X6_removes.2.1 16 = .ok (.imul, 1) := by decide +kernel
theorem dX6_removes_17 : decode M_X6_removes.2.1 17 = .ok (.if_icmp .gt 23, 3) := by decide +kernel
theorem dX6_removes_20 : decode M_X6_removes.2.1 20 = .ok (.aload_n 0, 1) := by decide +kernel
theorem dX6_removes_21 : decode M_X6_removes.2.1 21 = .ok (.getfield 7, 3) := by decide +kernel
theorem dX6_removes_24 : decode M_X6_removes.2.1 24 = .ok (.iload_n 2, 1) := by decide +kernel
theorem dX6_removes_25 : decode M_X6_removes.2.1 25 = .ok (.aload_n 0, 1) := by decide +kernel
theorem dX6_removes_26 : decode M_X6_removes.2.1 26 = .ok (.getfield 7, 3) := by decide +kernel
theorem dX6_removes_29 : decode M_X6_removes.2.1 29 = .ok (.iload_n 2, 1) := by decide +kernel
theorem dX6_removes_30 : decode M_X6_removes.2.1 30 = .ok (.iconst 5, 1) := by decide +kernel
theorem dX6_removes_31 : decode M_X6_removes.2.1 31 = .ok (.iadd, 1) := by decide +kernel
theorem dX6_removes_32 : decode M_X6_removes.2.1 32 = .ok (.iaload, 1) := by decide +kernel
theorem dX6_removes_33 : decode M_X6_removes.2.1 33 = .ok (.iastore, 1) := by decide +kernel
theorem dX6_removes_34 : decode M_X6_removes.2.1 34 = .ok (.iinc 2 1, 3) := by decide +kernel
theorem dX6_removes_37 : decode M_X6_removes.2.1 37 = .ok (.goto (-31), 3) := by decide +kernel
theorem dX6_removes_40 : decode M_X6_removes.2.1 40 = .ok (.aload_n 0, 1) := by decide +kernel
theorem dX6_removes_41 : decode M_X6_removes.2.1 41 = .ok (.getfield 7, 3) := by decide +kernel
theorem dX6_removes_44 : decode M_X6_removes.2.1 44 = .ok (.iconst 0, 1) := by decide +kernel
theorem dX6_removes_45 : decode M_X6_removes.2.1 45 = .ok (.dup2, 1) := by decide +kernel
theorem dX6_removes_46 : decode M_X6_removes.2.1 46 = .ok (.iaload, 1) := by decide +kernel
theorem dX6_removes_47 : decode M_X6_removes.2.1 47 = .ok (.iconst 1, 1) := by decide +kernel
theorem dX6_removes_48 : decode M_X6_removes.2.1 48 = .ok (.isub, 1) := by decide +kernel
theorem dX6_removes_49 : decode M_X6_removes.2.1 49 = .ok (.iastore, 1) := by decide +kernel
theorem dX6_removes_50 : decode M_X6_removes.2.1 50 = .ok (.return_, 1) := by decide +kernel
theorem dX6_from_0 : decode M_X6_from.2.1 0 = .ok (.aload_n 0, 1) := by decide +kernel
theorem dX6_from_1 : decode M_X6_from.2.1 1 = .ok (.iload_n 1, 1) := by decide +kernel
theorem dX6_from_2 : decode M_X6_from.2.1 2 = .ok (.iconst 1, 1) := by decide +kernel
theorem dX6_from_3 : decode M_X6_from.2.1 3 = .ok (.invokevirtual 58, 3) := by decide +kernel
theorem dX6_from_6 : decode M_X6_from.2.1 6 = .ok (.aload_n 0, 1) := by decide +kernel
theorem dX6_from_7 : decode M_X6_from.2.1 7 = .ok (.iload_n 2, 1) := by decide +kernel
theorem dX6_from_8 : decode M_X6_from.2.1 8 = .ok (.iconst 1, 1) := by decide +kernel
theorem dX6_from_9 : decode M_X6_from.2.1 9 = .ok (.invokevirtual 58, 3) := by decide +kernel
theorem dX6_from_12 : decode M_X6_from.2.1 12 = .ok (.if_icmp .le 12, 3) := by decide +kernel
theorem dX6_from_15 : decode M_X6_from.2.1 15 = .ok (.aload_n 0, 1) := by decide +kernel
theorem dX6_from_16 : decode M_X6_from.2.1 16 = .ok (.iload_n 1, 1) := by decide +kernel
theorem dX6_from_17 : decode M_X6_from.2.1 17 = .ok (.iconst 1, 1) := by decide +kernel
theorem dX6_from_18 : decode M_X6_from.2.1 18 = .ok (.invokevirtual 58, 3) := by decide +kernel
theorem dX6_from_21 : decode M_X6_from.2.1 21 = .ok (.goto 9, 3) := by decide +kernel
theorem dX6_from_24 : decode M_X6_from.2.1 24 = .ok (.aload_n 0, 1) := by decide +kernel
theorem dX6_from_25 : decode M_X6_from.2.1 25 = .ok (.iload_n 2, 1) := by decide +kernel
theorem dX6_from_26 : decode M_X6_from.2.1 26 = .ok (.iconst 1, 1) := by decide +kernel
theorem dX6_from_27 : decode M_X6_from.2.1 27 = .ok (.invokevirtual 58, 3) := by decide +kernel
theorem dX6_from_30 : decode M_X6_from.2.1 30 = .ok (.ireturn, 1) := by decide +kernel
theorem dX6_to_0 : decode M_X6_to.2.1 0 = .ok (.aload_n 0, 1) := by decide +kernel
theorem dX6_to_1 : decode M_X6_to.2.1 1 = .ok (.iload_n 1, 1) := by decide +kernel
theorem dX6_to_2 : decode M_X6_to.2.1 2 = .ok (.invokevirtual 62, 3) := by decide +kernel
theorem dX6_to_5 : decode M_X6_to.2.1 5 = .ok (.aload_n 0, 1) := by decide +kernel
theorem dX6_to_6 : decode M_X6_to.2.1 6 = .ok (.iload_n 2, 1) := by decide +kernel
theorem dX6_to_7 : decode M_X6_to.2.1 7 = .ok (.invokevirtual 62, 3) := by decide +kernel
theorem dX6_to_10 : decode M_X6_to.2.1 10 = .ok (.if_icmp .ge 11, 3) := by decide +kernel
theorem dX6_to_13 : decode M_X6_to.2.1 13 = .ok (.aload_n 0, 1) := by decide +kernel
theorem dX6_to_14 : decode M_X6_to.2.1 14 = .ok (.iload_n 1, 1) := by decide +kernel
theorem dX6_to_15 : decode M_X6_to.2.1 15 = .ok (.invokevirtual 62, 3) := by decide +kernel
theorem dX6_to_18 : decode M_X6_to.2.1 18 = .ok (.goto 8, 3) := by decide +kernel
theorem dX6_to_21 : decode M_X6_to.2.1 21 = .ok (.aload_n 0, 1) := by decide +kernel
theorem dX6_to_22 : decode M_X6_to.2.1 22 = .ok (.iload_n 2, 1) := by decide +kernel
theorem dX6_to_23 : decode M_X6_to.2.1 23 = .ok (.invokevirtual 62, 3) := by decide +kernel
theorem dX6_to_26 : decode M_X6_to.2.1 26 = .ok (.ireturn, 1) := by decide +kernel
theorem dX6_doOverlap_0 : decode M_X6_doOverlap.2.1 0 = .ok (.aload_n 0, 1) := by decide +kernel
theorem dX6_doOverlap_1 : decode M_X6_doOverlap.2.1 1 = .ok (.iload_n 1, 1) := by decide +kernel
theorem dX6_doOverlap_2 : decode M_X6_doOverlap.2.1 2 = .ok (.iload_n 2, 1) := by decide +kernel
theorem dX6_doOverlap_3 : decode M_X6_doOverlap.2.1 3 = .ok (.invokevirtual 66, 3) := by decide +kernel
theorem dX6_doOverlap_6 : decode M_X6_doOverlap.2.1 6 = .ok (.aload_n 0, 1) := by decide +kernel
theorem dX6_doOverlap_7 : decode M_X6_doOverlap.2.1 7 = .ok (.iload_n 1, 1) := by decide +kernel
theorem dX6_doOverlap_8 : decode M_X6_doOverlap.2.1 8 = .ok (.iload_n 2, 1) := by decide +kernel
theorem dX6_doOverlap_9 : decode M_X6_doOverlap.2.1 9 = .ok (.invokevirtual 69, 3) := by decide +kernel
theorem dX6_doOverlap_12 : decode M_X6_doOverlap.2.1 12 = .ok (.if_icmp .ge 7, 3) := by decide +kernel
theorem dX6_doOverlap_15 : decode M_X6_doOverlap.2.1 15 = .ok (.iconst 1, 1) := by decide +kernel
theorem dX6_doOverlap_16 : decode M_X6_doOverlap.2.1 16 = .ok (.goto 4, 3) := by decide +kernel
theorem dX6_doOverlap_19 : decode M_X6_doOverlap.2.1 19 = .ok (.iconst 0, 1) := by decide +kernel
theorem dX6_doOverlap_20 : decode M_X6_doOverlap.2.1 20 = .ok (.ireturn, 1) := by decide +kernel
theorem dX6_touches_0 : decode M_X6_touches.2.1 0 = .ok (.aload_n 0, 1) := by decide +kernel
theorem dX6_touches_1 : decode M_X6_touches.2.1 1 = .ok (.getfield 32, 3) := by decide +kernel
theorem dX6_touches_4 : decode M_X6_touches.2.1 4 = .ok (.aload_n 0, 1) := by decide +kernel
theorem dX6_touches_5 : decode M_X6_touches.2.1 5 = .ok (.getfield 72, 3) := by decide +kernel
theorem dX6_touches_8 : decode M_X6_touches.2.1 8 = .ok (.iload_n 1, 1) := by decide +kernel
theorem dX6_touches_9 : decode M_X6_touches.2.1 9 = .ok (.iastore, 1) := by decide +kernel
theorem dX6_touches_10 : decode M_X6_touches.2.1 10 = .ok (.aload_n 0, 1) := by decide +kernel
theorem dX6_touches_11 : decode M_X6_touches.2.1 11 = .ok (.getfield 35, 3) := by decide +kernel
theorem dX6_touches_14 : decode M_X6_touches.2.1 14 = .ok (.aload_n 0, 1) := by decide +kernel
theorem dX6_touches_15 : decode M_X6_touches.2.1 15 = .ok (.getfield 72, 3) := by decide +kernel
theorem dX6_touches_18 : decode M_X6_touches.2.1 18 = .ok (.iload_n 2, 1) := by decide +kernel
theorem dX6_touches_19 : decode M_X6_touches.2.1 19 = .ok (.iastore, 1) := by decide +kernel
theorem dX6_touches_20 : decode M_X6_touches.2.1 20 = .ok (.aload_n 0, 1) := by decide +kernel
theorem dX6_touches_21 : decode M_X6_touches.2.1 21 = .ok (.getfield 38, 3) := by decide +kernel
theorem dX6_touches_24 : decode M_X6_touches.2.1 24 = .ok (.aload_n 0, 1) := by decide +kernel
theorem dX6_touches_25 : decode M_X6_touches.2.1 25 = .ok (.getfield 72, 3) := by decide +kernel
theorem dX6_touches_28 : decode M_X6_touches.2.1 28 = .ok (.iload_n 3, 1) := by decide +kernel
theorem dX6_touches_29 : decode M_X6_touches.2.1 29 = .ok (.iastore, 1) := by decide +kernel
theorem dX6_touches_30 : decode M_X6_touches.2.1 30 = .ok (.aload_n 0, 1) := by decide +kernel
theorem dX6_touches_31 : decode M_X6_touches.2.1 31 = .ok (.dup, 1) := by decide +kernel
theorem dX6_touches_32 : decode M_X6_touches.2.1 32 = .ok (.getfield 72, 3) := by decide +kernel
theorem dX6_touches_35 : decode M_X6_touches.2.1 35 = .ok (.iconst 1, 1) := by decide +kernel
theorem dX6_touches_36 : decode M_X6_touches.2.1 36 = .ok (.iadd, 1) := by decide +kernel
theorem dX6_touches_37 : decode M_X6_touches.2.1 37 = .ok (.putfield 72, 3) := by decide +kernel
theorem dX6_touches_40 : decode M_X6_touches.2.1 40 = .ok (.return_, 1) := by decide +kernel
theorem dX6_layBlock_0 : decode M_X6_layBlock.2.1 0 = .ok (.aload_n 0, 1) := by decide +kernel
theorem dX6_layBlock_1 : decode M_X6_layBlock.2.1 1 = .ok (.getfield 26, 3) := by decide +kernel
theorem dX6_layBlock_4 : decode M_X6_layBlock.2.1 4 = .ok (.iload_n 1, 1) := by decide +kernel
theorem dX6_layBlock_5 : decode M_X6_layBlock.2.1 5 = .ok (.iconst 0, 1) := by decide +kernel
theorem dX6_layBlock_6 : decode M_X6_layBlock.2.1 6 = .ok (.iastore, 1) := by decide +kernel
theorem dX6_layBlock_7 : decode M_X6_layBlock.2.1 7 = .ok (.aload_n 0, 1) := by decide +kernel
theorem dX6_layBlock_8 : decode M_X6_layBlock.2.1 8 = .ok (.getfield 29, 3) := by decide +kernel
theorem dX6_layBlock_11 : decode M_X6_layBlock.2.1 11 = .ok (.iload_n 1, 1) := by decide +kernel
theorem dX6_layBlock_12 : decode M_X6_layBlock.2.1 12 = .ok (.iconst 0, 1) := by decide +kernel
theorem dX6_layBlock_13 : decode M_X6_layBlock.2.1 13 = .ok (.iastore, 1) := by decide +kernel
theorem dX6_layBlock_14 : decode M_X6_layBlock.2.1 14 = .ok (.iconst 0, 1) := by decide +kernel
theorem dX6_layBlock_15 : decode M_X6_layBlock.2.1 15 = .ok (.istore_n 2, 1) := by decide +kernel
theorem dX6_layBlock_16 : decode M_X6_layBlock.2.1 16 = .ok (.iload_n 2, 1) := by decide +kernel
theorem dX6_layBlock_17 : decode M_X6_layBlock.2.1 17 = .ok (.iload_n 1, 1) := by decide +kernel
theorem dX6_layBlock_18 : decode M_X6_layBlock.2.1 18 = .ok (.if_icmp .ge 56, 3) := by decide +kernel
theorem dX6_layBlock_21 : decode M_X6_layBlock.2.1 21 = .ok (.aload_n 0, 1) := by decide +kernel
theorem dX6_layBlock_22 : decode M_X6_layBlock.2.1 22 = .ok (.getfield 26, 3) := by decide +kernel
theorem dX6_layBlock_25 : decode M_X6_layBlock.2.1 25 = .ok (.iload_n 1, 1) := by decide +kernel
theorem dX6_layBlock_26 : decode M_X6_layBlock.2.1 26 = .ok (.aload_n 0, 1) := by decide +kernel
theorem dX6_layBlock_27 : decode M_X6_layBlock.2.1 27 = .ok (.iload_n 2, 1) := by decide +kernel
theorem dX6_layBlock_28 : decode M_X6_layBlock.2.1 28 = .ok (.iload_n 1, 1) := by decide +kernel
theorem dX6_layBlock_29 : decode M_X6_layBlock.2.1 29 = .ok (.invokevirtual 76, 3) := by decide +kernel
theorem dX6_layBlock_32 : decode M_X6_layBlock.2.1 32 = .ok (.ifCond .eq 29, 3) := by decide +kernel
theorem dX6_layBlock_35 : decode M_X6_layBlock.2.1 35 = .ok (.aload_n 0, 1) := by decide +kernel
theorem dX6_layBlock_36 : decode M_X6_layBlock.2.1 36 = .ok (.getfield 26, 3) := by decide +kernel
theorem dX6_layBlock_39 : decode M_X6_layBlock.2.1 39 = .ok (.iload_n 2, 1) := by decide +kernel
theorem dX6_layBlock_40 : decode M_X6_layBlock.2.1 40 = .ok (.iaload, 1) := by decide +kernel
theorem dX6_layBlock_41 : decode M_X6_layBlock.2.1 41 = .ok (.aload_n 0, 1) := by decide +kernel
theorem dX6_layBlock_42 : decode M_X6_layBlock.2.1 42 = .ok (.getfield 26, 3) := by decide +kernel
theorem dX6_layBlock_45 : decode M_X6_layBlock.2.1 45 = .ok (.iload_n 1, 1) := by decide +kernel
theorem dX6_layBlock_46 : decode M_X6_layBlock.2.1 46 = .ok (.iaload, 1) := by decide +kernel
theorem dX6_layBlock_47 : decode M_X6_layBlock.2.1 47 = .ok (.if_icmp .lt 14, 3) := by decide +kernel
theorem dX6_layBlock_50 : decode M_X6_layBlock.2.1 50 = .ok (.aload_n 0, 1) := by decide +kernel
theorem dX6_layBlock_51 : decode M_X6_layBlock.2.1 51 = .ok (.getfield 26, 3) := by decide +kernel
theorem dX6_layBlock_54 : decode M_X6_layBlock.2.1 54 = .ok (.iload_n 2, 1) := by decide +kernel
theorem dX6_layBlock_55 : decode M_X6_layBlock.2.1 55 = .ok (.iaload, 1) := by decide +kernel
theorem dX6_layBlock_56 : decode M_X6_layBlock.2.1 56 = .ok (.iconst 1, 1) := by decide +kernel
theorem dX6_layBlock_57 : decode M_X6_layBlock.2.1 57 = .ok (.iadd, 1) := by decide +kernel
theorem dX6_layBlock_58 : decode M_X6_layBlock.2.1 58 = .ok (.goto 9, 3) := by decide +kernel
theorem dX6_layBlock_61 : decode M_X6_layBlock.2.1 61 = .ok (.aload_n 0, 1) := by decide +kernel
theorem dX6_layBlock_62 : decode M_X6_layBlock.2.1 62 = .ok (.getfield 26, 3) := by decide +kernel
theorem dX6_layBlock_65 : decode M_X6_layBlock.2.1 65 = .ok (.iload_n 1, 1) := by decide +kernel
theorem dX6_layBlock_66 : decode M_X6_layBlock.2.1 66 = .ok (.iaload, 1) := by decide +kernel
theorem dX6_layBlock_67 : decode M_X6_layBlock.2.1 67 = .ok (.iastore, 1) := by decide +kernel
theorem dX6_layBlock_68 : decode M_X6_layBlock.2.1 68 = .ok (.iinc 2 1, 3) := by decide +kernel
theorem dX6_layBlock_71 : decode M_X6_layBlock.2.1 71 = .ok (.goto (-55), 3) := by decide +kernel
theorem dX6_layBlock_74 : decode M_X6_layBlock.2.1 74 = .ok (.iconst 0, 1) := by decide +kernel
theorem dX6_layBlock_75 : decode M_X6_layBlock.2.1 75 = .ok (.istore_n 2, 1) := by decide +kernel
theorem dX6_layBlock_76 : decode M_X6_layBlock.2.1 76 = .ok (.iload_n 2, 1) := by decide +kernel
theorem dX6_layBlock_77 : decode M_X6_layBlock.2.1 77 = .ok (.iload_n 1, 1) := by decide +kernel
theorem dX6_layBlock_78 : decode M_X6_layBlock.2.1 78 = .ok (.if_icmp .ge 71, 3) := by decide +kernel
theorem dX6_layBlock_81 : decode M_X6_layBlock.2.1 81 = .ok (.aload_n 0, 1) := by decide +kernel
theorem dX6_layBlock_82 : decode M_X6_layBlock.2.1 82 = .ok (.iload_n 2, 1) := by decide +kernel
theorem dX6_layBlock_83 : decode M_X6_layBlock.2.1 83 = .ok (.iload_n 1, 1) := by decide +kernel
theorem dX6_layBlock_84 : decode M_X6_layBlock.2.1 84 = .ok (.invokevirtual 76, 3) := by decide +kernel
theorem dX6_layBlock_87 : decode M_X6_layBlock.2.1 87 = .ok (.ifCond .eq 56, 3) := by decide +kernel
theorem dX6_layBlock_90 : decode M_X6_layBlock.2.1 90 = .ok (.aload_n 0, 1) := by decide +kernel
theorem dX6_layBlock_91 : decode M_X6_layBlock.2.1 91 = .ok (.getfield 26, 3) := by decide +kernel
theorem dX6_layBlock_94 : decode M_X6_layBlock.2.1 94 = .ok (.iload_n 2, 1) := by decide +kernel
theorem dX6_layBlock_95 : decode M_X6_layBlock.2.1 95 = .ok (.iaload, 1) := by decide +kernel
theorem dX6_layBlock_96 : decode M_X6_layBlock.2.1 96 = .ok (.iconst 1, 1) := by decide +kernel
theorem dX6_layBlock_97 : decode M_X6_layBlock.2.1 97 = .ok (.iadd, 1) := by decide +kernel
theorem dX6_layBlock_98 : decode M_X6_layBlock.2.1 98 = .ok (.aload_n 0, 1) := by decide +kernel
theorem dX6_layBlock_99 : decode M_X6_layBlock.2.1 99 = .ok (.getfield 26, 3) := by decide +kernel
theorem dX6_layBlock_102 : decode M_X6_layBlock.2.1 102 = .ok (.iload_n 1, 1) := by decide +kernel
theorem dX6_layBlock_103 : decode M_X6_layBlock.2.1 103 = .ok (.iaload, 1) := by decide +kernel
theorem dX6_layBlock_104 : decode M_X6_layBlock.2.1 104 = .ok (.if_icmp .ne 39, 3) := by decide +kernel
theorem dX6_layBlock_107 : decode M_X6_layBlock.2.1 107 = .ok (.aload_n 0, 1) := by decide +kernel
theorem dX6_layBlock_108 : decode M_X6_layBlock.2.1 108 = .ok (.getfield 29, 3) := by decide +kernel
theorem dX6_layBlock_111 : decode M_X6_layBlock.2.1 111 = .ok (.iload_n 1, 1) := by decide +kernel
theorem dX6_layBlock_112 : decode M_X6_layBlock.2.1 112 = .ok (.dup2, 1) := by decide +kernel
theorem dX6_layBlock_113 : decode M_X6_layBlock.2.1 113 = .ok (.iaload, 1) := by decide +kernel
theorem dX6_layBlock_114 : decode M_X6_layBlock.2.1 114 = .ok (.iconst 1, 1) := by decide +kernel
theorem dX6_layBlock_115 : decode M_X6_layBlock.2.1 115 = .ok (.iload_n 2, 1) := by decide +kernel
theorem dX6_layBlock_116 : decode M_X6_layBlock.2.1 116 = .ok (.ishl, 1) := by decide +kernel
theorem dX6_layBlock_117 : decode M_X6_layBlock.2.1 117 = .ok (.ior, 1) := by decide +kernel
theorem dX6_layBlock_118 : decode M_X6_layBlock.2.1 118 = .ok (.iastore, 1) := by decide +kernel
theorem dX6_layBlock_119 : decode M_X6_layBlock.2.1 119 = .ok (.aload_n 0, 1) := by decide +kernel
theorem dX6_layBlock_120 : decode M_X6_layBlock.2.1 120 = .ok (.iload_n 1, 1) := by decide +kernel
theorem dX6_layBlock_121 : decode M_X6_layBlock.2.1 121 = .ok (.iload_n 2, 1) := by decide +kernel
theorem dX6_layBlock_122 : decode M_X6_layBlock.2.1 122 = .ok (.aload_n 0, 1) := by decide +kernel
theorem dX6_layBlock_123 : decode M_X6_layBlock.2.1 123 = .ok (.iload_n 2, 1) := by decide +kernel
theorem dX6_layBlock_124 : decode M_X6_layBlock.2.1 124 = .ok (.iload_n 1, 1) := by decide +kernel
theorem dX6_layBlock_125 : decode M_X6_layBlock.2.1 125 = .ok (.invokevirtual 66, 3) := by decide +kernel
theorem dX6_layBlock_128 : decode M_X6_layBlock.2.1 128 = .ok (.invokevirtual 80, 3) := by decide +kernel
theorem dX6_layBlock_131 : decode M_X6_layBlock.2.1 131 = .ok (.aload_n 0, 1) := by decide +kernel
theorem dX6_layBlock_132 : decode M_X6_layBlock.2.1 132 = .ok (.iload_n 1, 1) := by decide +kernel
theorem dX6_layBlock_133 : decode M_X6_layBlock.2.1 133 = .ok (.iload_n 2, 1) := by decide +kernel
theorem dX6_layBlock_134 : decode M_X6_layBlock.2.1 134 = .ok (.aload_n 0, 1) := by decide +kernel
theorem dX6_layBlock_135 : decode M_X6_layBlock.2.1 135 = .ok (.iload_n 2, 1) := by decide +kernel
theorem dX6_layBlock_136 : decode M_X6_layBlock.2.1 136 = .ok (.iload_n 1, 1) := by decide +kernel
theorem dX6_layBlock_137 : decode M_X6_layBlock.2.1 137 = .ok (.invokevirtual 69, 3) := by decide +kernel
theorem dX6_layBlock_140 : decode M_X6_layBlock.2.1 140 = .ok (.invokevirtual 80, 3) := by decide +kernel
theorem dX6_layBlock_143 : decode M_X6_layBlock.2.1 143 = .ok (.iinc 2 1, 3) := by decide +kernel
theorem dX6_layBlock_146 : decode M_X6_layBlock.2.1 146 = .ok (.goto (-70), 3) := by decide +kernel
theorem dX6_layBlock_149 : decode M_X6_layBlock.2.1 149 = .ok (.aload_n 0, 1) := by decide +kernel
theorem dX6_layBlock_150 : decode M_X6_layBlock.2.1 150 = .ok (.getfield 29, 3) := by decide +kernel
theorem dX6_layBlock_153 : decode M_X6_layBlock.2.1 153 = .ok (.iload_n 1, 1) := by decide +kernel
theorem dX6_layBlock_154 : decode M_X6_layBlock.2.1 154 = .ok (.iaload, 1) := by decide +kernel
theorem dX6_layBlock_155 : decode M_X6_layBlock.2.1 155 = .ok (.ifCond .ne 28, 3) := by decide +kernel
theorem dX6_layBlock_158 : decode M_X6_layBlock.2.1 158 = .ok (.aload_n 0, 1) := by decide +kernel
theorem dX6_layBlock_159 : decode M_X6_layBlock.2.1 159 = .ok (.iload_n 1, 1) := by decide +kernel
theorem dX6_layBlock_160 : decode M_X6_layBlock.2.1 160 = .ok (.bipush (-9), 2) := by decide +kernel
theorem dX6_layBlock_162 : decode M_X6_layBlock.2.1 162 = .ok (.aload_n 0, 1) := by decide +kernel
theorem dX6_layBlock_163 : decode M_X6_layBlock.2.1 163 = .ok (.iload_n 1, 1) := by decide +kernel
theorem dX6_layBlock_164 : decode M_X6_layBlock.2.1 164 = .ok (.iconst 1, 1) := by decide +kernel
theorem dX6_layBlock_165 : decode M_X6_layBlock.2.1 165 = .ok (.invokevirtual 58, 3) := by decide +kernel
theorem dX6_layBlock_168 : decode M_X6_layBlock.2.1 168 = .ok (.invokevirtual 80, 3) := by decide +kernel
theorem dX6_layBlock_171 : decode M_X6_layBlock.2.1 171 = .ok (.aload_n 0, 1) := by decide +kernel
theorem dX6_layBlock_172 : decode M_X6_layBlock.2.1 172 = .ok (.iload_n 1, 1) := by decide +kernel
theorem dX6_layBlock_173 : decode M_X6_layBlock.2.1 173 = .ok (.bipush (-9), 2) := by decide +kernel
theorem dX6_layBlock_175 : decode M_X6_layBlock.2.1 175 = .ok (.aload_n 0, 1) := by decide +kernel
theorem dX6_layBlock_176 : decode M_X6_layBlock.2.1 176 = .ok (.iload_n 1, 1) := by decide +kernel
theorem dX6_layBlock_177 : decode M_X6_layBlock.2.1 177 = .ok (.invokevirtual 62, 3) := by decide +kernel
theorem dX6_layBlock_180 : decode M_X6_layBlock.2.1 180 = .ok (.invokevirtual 80, 3) := by decide +kernel
theorem dX6_layBlock_183 : decode M_X6_layBlock.2.1 183 = .ok (.return_, 1) := by decide +kernel
theorem dX6_layAll_0 : decode M_X6_layAll.2.1 0 = .ok (.aload_n 0, 1) := by decide +kernel
theorem dX6_layAll_1 : decode M_X6_layAll.2.1 1 = .ok (.iconst 0, 1) := by decide +kernel
theorem dX6_layAll_2 : decode M_X6_layAll.2.1 2 = .ok (.putfield 72, 3) := by decide +kernel
theorem dX6_layAll_5 : decode M_X6_layAll.2.1 5 = .ok (.iconst 0, 1) := by decide +kernel
theorem dX6_layAll_6 : decode M_X6_layAll.2.1 6 = .ok (.istore_n 1, 1) := by decide +kernel
theorem dX6_layAll_7 : decode M_X6_layAll.2.1 7 = .ok (.iload_n 1, 1) := by decide +kernel
theorem dX6_layAll_8 : decode M_X6_layAll.2.1 8 = .ok (.aload_n 0, 1) := by decide +kernel
theorem dX6_layAll_9 : decode M_X6_layAll.2.1 9 = .ok (.invokevirtual 84, 3) := by decide +kernel
theorem dX6_layAll_12 : decode M_X6_layAll.2.1 12 = .ok (.if_icmp .ge 14, 3) := by decide +kernel
theorem dX6_layAll_15 : decode M_X6_layAll.2.1 15 = .ok (.aload_n 0, 1) := by decide +kernel
theorem dX6_layAll_16 : decode M_X6_layAll.2.1 16 = .ok (.iload_n 1, 1) := by decide +kernel
theorem dX6_layAll_17 : decode M_X6_layAll.2.1 17 = .ok (.invokevirtual 88, 3) := by decide +kernel
theorem dX6_layAll_20 : decode M_X6_layAll.2.1 20 = .ok (.iinc 1 1, 3) := by decide +kernel
theorem dX6_layAll_23 : decode M_X6_layAll.2.1 23 = .ok (.goto (-16), 3) := by decide +kernel
theorem dX6_layAll_26 : decode M_X6_layAll.2.1 26 = .ok (.return_, 1) := by decide +kernel
theorem dX6_above_0 : decode M_X6_above.2.1 0 = .ok (.iconst 0, 1) := by decide +kernel
theorem dX6_above_1 : decode M_X6_above.2.1 1 = .ok (.istore_n 2, 1) := by decide +kernel
theorem dX6_above_2 : decode M_X6_above.2.1 2 = .ok (.iconst 0, 1) := by decide +kernel
theorem dX6_above_3 : decode M_X6_above.2.1 3 = .ok (.istore_n 3, 1) := by decide +kernel
theorem dX6_above_4 : decode M_X6_above.2.1 4 = .ok (.iload_n 3, 1) := by decide +kernel
theorem dX6_above_5 : decode M_X6_above.2.1 5 = .ok (.aload_n 0, 1) := by decide +kernel
theorem dX6_above_6 : decode M_X6_above.2.1 6 = .ok (.invokevirtual 84, 3) := by decide +kernel
theorem dX6_above_9 : decode M_X6_above.2.1 9 = .ok (.if_icmp .ge 32, 3) := by decide +kernel
theorem dX6_above_12 : decode M_X6_above.2.1 12 = .ok (.iload_n 2, 1) := by decide +kernel
theorem dX6_above_13 : decode M_X6_above.2.1 13 = .ok (.aload_n 0, 1) := by decide +kernel
theorem dX6_above_14 : decode M_X6_above.2.1 14 = .ok (.getfield 29, 3) := by decide +kernel
theorem dX6_above_17 : decode M_X6_above.2.1 17 = .ok (.iload_n 3, 1) := by decide +kernel
theorem dX6_above_18 : decode M_X6_above.2.1 18 = .ok (.iaload, 1) := by decide +kernel
theorem dX6_above_19 : decode M_X6_above.2.1 19 = .ok (.iload_n 1, 1) := by decide +kernel
theorem dX6_above_20 : decode M_X6_above.2.1 20 = .ok (.invokestatic 92, 3) := by decide +kernel
theorem dX6_above_23 : decode M_X6_above.2.1 23 = .ok (.ifCond .eq 9, 3) := by decide +kernel
theorem dX6_above_26 : decode M_X6_above.2.1 26 = .ok (.iconst 1, 1) := by decide +kernel
theorem dX6_above_27 : decode M_X6_above.2.1 27 = .ok (.iload_n 3, 1) := by decide +kernel
theorem dX6_above_28 : decode M_X6_above.2.1 28 = .ok (.ishl, 1) := by decide +kernel
theorem dX6_above_29 : decode M_X6_above.2.1 29 = .ok (.goto 4, 3) := by decide +kernel
theorem dX6_above_32 : decode M_X6_above.2.1 32 = .ok (.iconst 0, 1) := by decide +kernel
theorem dX6_above_33 : decode M_X6_above.2.1 33 = .ok (.ior, 1) := by decide +kernel
theorem dX6_above_34 : decode M_X6_above.2.1 34 = .ok (.istore_n 2, 1) := by decide +kernel
theorem dX6_above_35 : decode M_X6_above.2.1 35 = .ok (.iinc 3 1, 3) := by decide +kernel
theorem dX6_above_38 : decode M_X6_above.2.1 38 = .ok (.goto (-34), 3) := by decide +kernel
theorem dX6_above_41 : decode M_X6_above.2.1 41 = .ok (.iload_n 2, 1) := by decide +kernel
theorem dX6_above_42 : decode M_X6_above.2.1 42 = .ok (.ireturn, 1) := by decide +kernel
theorem dX6_layRow_0 : decode M_X6_layRow.2.1 0 = .ok (.iconst 0, 1) := by decide +kernel
theorem dX6_layRow_1 : decode M_X6_layRow.2.1 1 = .ok (.istore 6, 2) := by decide +kernel
theorem dX6_layRow_3 : decode M_X6_layRow.2.1 3 = .ok (.iload 6, 2) := by decide +kernel
theorem dX6_layRow_5 : decode M_X6_layRow.2.1 5 = .ok (.aload_n 0, 1) := by decide +kernel
theorem dX6_layRow_6 : decode M_X6_layRow.2.1 6 = .ok (.getfield 72, 3) := by decide +kernel
theorem dX6_layRow_9 : decode M_X6_layRow.2.1 9 = .ok (.if_icmp .ge 91, 3) := by decide +kernel
theorem dX6_layRow_12 : decode M_X6_layRow.2.1 12 = .ok (.aload_n 0, 1) := by decide +kernel
theorem dX6_layRow_13 : decode M_X6_layRow.2.1 13 = .ok (.getfield 32, 3) := by decide +kernel
theorem dX6_layRow_16 : decode M_X6_layRow.2.1 16 = .ok (.iload 6, 2) := by decide +kernel
theorem dX6_layRow_18 : decode M_X6_layRow.2.1 18 = .ok (.iaload, 1) := by decide +kernel
theorem dX6_layRow_19 : decode M_X6_layRow.2.1 19 = .ok (.iload_n 1, 1) := by decide +kernel
theorem dX6_layRow_20 : decode M_X6_layRow.2.1 20 = .ok (.if_icmp .ne 7, 3) := by decide +kernel
theorem dX6_layRow_23 : decode M_X6_layRow.2.1 23 = .ok (.lconst 1, 1) := by decide +kernel
theorem dX6_layRow_24 : decode M_X6_layRow.2.1 24 = .ok (.goto 21, 3) := by decide +kernel
theorem dX6_layRow_27 : decode M_X6_layRow.2.1 27 = .ok (.aload_n 0, 1) := by decide +kernel
theorem dX6_layRow_28 : decode M_X6_layRow.2.1 28 = .ok (.getfield 35, 3) := by decide +kernel
theorem dX6_layRow_31 : decode M_X6_layRow.2.1 31 = .ok (.iload 6, 2) := by decide +kernel
theorem dX6_layRow_33 : decode M_X6_layRow.2.1 33 = .ok (.iaload, 1) := by decide +kernel
theorem dX6_layRow_34 : decode M_X6_layRow.2.1 34 = .ok (.iload_n 1, 1) := by decide +kernel
theorem dX6_layRow_35 : decode M_X6_layRow.2.1 35 = .ok (.if_icmp .ne 9, 3) := by decide +kernel
theorem dX6_layRow_38 : decode M_X6_layRow.2.1 38 = .ok (.ldc2_w 95, 3) := by decide +kernel
theorem dX6_layRow_41 : decode M_X6_layRow.2.1 41 = .ok (.goto 4, 3) := by decide +kernel
theorem dX6_layRow_44 : decode M_X6_layRow.2.1 44 = .ok (.lconst 0, 1) := by decide +kernel
theorem dX6_layRow_45 : decode M_X6_layRow.2.1 45 = .ok (.lstore 7, 2) := by decide +kernel
theorem dX6_layRow_47 : decode M_X6_layRow.2.1 47 = .ok (.aload_n 0, 1) := by decide +kernel
theorem dX6_layRow_48 : decode M_X6_layRow.2.1 48 = .ok (.getfield 41, 3) := by decide +kernel
theorem dX6_layRow_51 : decode M_X6_layRow.2.1 51 = .ok (.bipush 16, 2) := by decide +kernel
theorem dX6_layRow_53 : decode M_X6_layRow.2.1 53 = .ok (.iload_n 2, 1) := by decide +kernel
theorem dX6_layRow_54 : decode M_X6_layRow.2.1 54 = .ok (.imul, 1) := by decide +kernel
theorem dX6_layRow_55 : decode M_X6_layRow.2.1 55 = .ok (.iload 6, 2) := by decide +kernel
theorem dX6_layRow_57 : decode M_X6_layRow.2.1 57 = .ok (.iadd, 1) := by decide +kernel
theorem dX6_layRow_58 : decode M_X6_layRow.2.1 58 = .ok (.lload 7, 2) := by decide +kernel
theorem dX6_layRow_60 : decode M_X6_layRow.2.1 60 = .ok (.lastore, 1) := by decide +kernel
theorem dX6_layRow_61 : decode M_X6_layRow.2.1 61 = .ok (.aload_n 0, 1) := by decide +kernel
theorem dX6_layRow_62 : decode M_X6_layRow.2.1 62 = .ok (.getfield 41, 3) := by decide +kernel
theorem dX6_layRow_65 : decode M_X6_layRow.2.1 65 = .ok (.bipush 16, 2) := by decide +kernel
theorem dX6_layRow_67 : decode M_X6_layRow.2.1 67 = .ok (.iload_n 2, 1) := by decide +kernel
theorem dX6_layRow_68 : decode M_X6_layRow.2.1 68 = .ok (.imul, 1) := by decide +kernel
theorem dX6_layRow_69 : decode M_X6_layRow.2.1 69 = .ok (.bipush 16, 2) := by decide +kernel
theorem dX6_layRow_71 : decode M_X6_layRow.2.1 71 = .ok (.iadd, 1) := by decide +kernel
theorem dX6_layRow_72 : decode M_X6_layRow.2.1 72 = .ok (.iload 6, 2) := by decide +kernel
theorem dX6_layRow_74 : decode M_X6_layRow.2.1 74 = .ok (.iadd, 1) := by decide +kernel
theorem dX6_layRow_75 : decode M_X6_layRow.2.1 75 = .ok (.lload 7, 2) := by decide +kernel
theorem dX6_layRow_77 : decode M_X6_layRow.2.1 77 = .ok (.aload_n 0, 1) := by decide +kernel
theorem dX6_layRow_78 : decode M_X6_layRow.2.1 78 = .ok (.getfield 38, 3) := by decide +kernel
theorem dX6_layRow_81 : decode M_X6_layRow.2.1 81 = .ok (.iload 6, 2) := by decide +kernel
theorem dX6_layRow_83 : decode M_X6_layRow.2.1 83 = .ok (.iaload, 1) := by decide +kernel
theorem dX6_layRow_84 : decode M_X6_layRow.2.1 84 = .ok (.aload_n 0, 1) := by decide +kernel
theorem dX6_layRow_85 : decode M_X6_layRow.2.1 85 = .ok (.iload_n 1, 1) := by decide +kernel
theorem dX6_layRow_86 : decode M_X6_layRow.2.1 86 = .ok (.iconst 1, 1) := by decide +kernel
theorem dX6_layRow_87 : decode M_X6_layRow.2.1 87 = .ok (.invokevirtual 58, 3) := by decide +kernel
theorem dX6_layRow_90 : decode M_X6_layRow.2.1 90 = .ok (.isub, 1) := by decide +kernel
theorem dX6_layRow_91 : decode M_X6_layRow.2.1 91 = .ok (.i2l, 1) := by decide +kernel
theorem dX6_layRow_92 : decode M_X6_layRow.2.1 92 = .ok (.lmul, 1) := by decide +kernel
theorem dX6_layRow_93 : decode M_X6_layRow.2.1 93 = .ok (.lastore, 1) := by decide +kernel
theorem dX6_layRow_94 : decode M_X6_layRow.2.1 94 = .ok (.iinc 6 1, 3) := by decide +kernel
theorem dX6_layRow_97 : decode M_X6_layRow.2.1 97 = .ok (.goto (-94), 3) := by decide +kernel
theorem dX6_layRow_100 : decode M_X6_layRow.2.1 100 = .ok (.iload_n 3, 1) := by decide +kernel
theorem dX6_layRow_101 : decode M_X6_layRow.2.1 101 = .ok (.iload_n 1, 1) := by decide +kernel
theorem dX6_layRow_102 : decode M_X6_layRow.2.1 102 = .ok (.if_icmp .ne 7, 3) := by decide +kernel
theorem dX6_layRow_105 : decode M_X6_layRow.2.1 105 = .ok (.iconst 1, 1) := by decide +kernel
theorem dX6_layRow_106 : decode M_X6_layRow.2.1 106 = .ok (.goto 4, 3) := by decide +kernel
theorem dX6_layRow_109 : decode M_X6_layRow.2.1 109 = .ok (.iconst 0, 1) := by decide +kernel
theorem dX6_layRow_110 : decode M_X6_layRow.2.1 110 = .ok (.istore 6, 2) := by decide +kernel
theorem dX6_layRow_112 : decode M_X6_layRow.2.1 112 = .ok (.aload_n 0, 1) := by decide +kernel
theorem dX6_layRow_113 : decode M_X6_layRow.2.1 113 = .ok (.getfield 41, 3) := by decide +kernel
theorem dX6_layRow_116 : decode M_X6_layRow.2.1 116 = .ok (.bipush 16, 2) := by decide +kernel
theorem dX6_layRow_118 : decode M_X6_layRow.2.1 118 = .ok (.iload_n 2, 1) := by decide +kernel
theorem dX6_layRow_119 : decode M_X6_layRow.2.1 119 = .ok (.imul, 1) := by decide +kernel
theorem dX6_layRow_120 : decode M_X6_layRow.2.1 120 = .ok (.aload_n 0, 1) := by decide +kernel
theorem dX6_layRow_121 : decode M_X6_layRow.2.1 121 = .ok (.getfield 72, 3) := by decide +kernel
theorem dX6_layRow_124 : decode M_X6_layRow.2.1 124 = .ok (.iadd, 1) := by decide +kernel
theorem dX6_layRow_125 : decode M_X6_layRow.2.1 125 = .ok (.iload 6, 2) := by decide +kernel
theorem dX6_layRow_127 : decode M_X6_layRow.2.1 127 = .ok (.ifCond .eq 9, 3) := by decide +kernel
theorem dX6_layRow_130 : decode M_X6_layRow.2.1 130 = .ok (.ldc2_w 95, 3) := by decide +kernel
theorem dX6_layRow_133 : decode M_X6_layRow.2.1 133 = .ok (.goto 4, 3) := by decide +kernel
theorem dX6_layRow_136 : decode M_X6_layRow.2.1 136 = .ok (.lconst 0, 1) := by decide +kernel
theorem dX6_layRow_137 : decode M_X6_layRow.2.1 137 = .ok (.lastore, 1) := by decide +kernel
theorem dX6_layRow_138 : decode M_X6_layRow.2.1 138 = .ok (.aload_n 0, 1) := by decide +kernel
theorem dX6_layRow_139 : decode M_X6_layRow.2.1 139 = .ok (.getfield 41, 3) := by decide +kernel
theorem dX6_layRow_142 : decode M_X6_layRow.2.1 142 = .ok (.bipush 16, 2) := by decide +kernel
theorem dX6_layRow_144 : decode M_X6_layRow.2.1 144 = .ok (.iload_n 2, 1) := by decide +kernel
theorem dX6_layRow_145 : decode M_X6_layRow.2.1 145 = .ok (.imul, 1) := by decide +kernel
theorem dX6_layRow_146 : decode M_X6_layRow.2.1 146 = .ok (.bipush 16, 2) := by decide +kernel
theorem dX6_layRow_148 : decode M_X6_layRow.2.1 148 = .ok (.iadd, 1) := by decide +kernel
theorem dX6_layRow_149 : decode M_X6_layRow.2.1 149 = .ok (.aload_n 0, 1) := by decide +kernel
theorem dX6_layRow_150 : decode M_X6_layRow.2.1 150 = .ok (.getfield 72, 3) := by decide +kernel
theorem dX6_layRow_153 : decode M_X6_layRow.2.1 153 = .ok (.iadd, 1) := by decide +kernel
theorem dX6_layRow_154 : decode M_X6_layRow.2.1 154 = .ok (.iload 6, 2) := by decide +kernel
theorem dX6_layRow_156 : decode M_X6_layRow.2.1 156 = .ok (.ifCond .eq 10, 3) := by decide +kernel
theorem dX6_layRow_159 : decode M_X6_layRow.2.1 159 = .ok (.iload 4, 2) := by decide +kernel
theorem dX6_layRow_161 : decode M_X6_layRow.2.1 161 = .ok (.ineg, 1) := by decide +kernel
theorem dX6_layRow_162 : decode M_X6_layRow.2.1 162 = .ok (.i2l, 1) := by decide +kernel
theorem dX6_layRow_163 : decode M_X6_layRow.2.1 163 = .ok (.goto 4, 3) := by decide +kernel
theorem dX6_layRow_166 : decode M_X6_layRow.2.1 166 = .ok (.lconst 0, 1) := by decide +kernel
theorem dX6_layRow_167 : decode M_X6_layRow.2.1 167 = .ok (.lastore, 1) := by decide +kernel
theorem dX6_layRow_168 : decode M_X6_layRow.2.1 168 = .ok (.aload_n 0, 1) := by decide +kernel
theorem dX6_layRow_169 : decode M_X6_layRow.2.1 169 = .ok (.getfield 45, 3) := by decide +kernel
theorem dX6_layRow_172 : decode M_X6_layRow.2.1 172 = .ok (.iload_n 2, 1) := by decide +kernel
theorem dX6_layRow_173 : decode M_X6_layRow.2.1 173 = .ok (.iload 5, 2) := by decide +kernel
theorem dX6_layRow_175 : decode M_X6_layRow.2.1 175 = .ok (.ifCond .eq 16, 3) := by decide +kernel
theorem dX6_layRow_178 : decode M_X6_layRow.2.1 178 = .ok (.iload 6, 2) := by decide +kernel
theorem dX6_layRow_180 : decode M_X6_layRow.2.1 180 = .ok (.ifCond .eq 7, 3) := by decide +kernel
theorem dX6_layRow_183 : decode M_X6_layRow.2.1 183 = .ok (.lconst 1, 1) := by decide +kernel
theorem dX6_layRow_184 : decode M_X6_layRow.2.1 184 = .ok (.goto 21, 3) := by decide +kernel
theorem dX6_layRow_187 : decode M_X6_layRow.2.1 187 = .ok (.lconst 0, 1) := by decide +kernel
theorem dX6_layRow_188 : decode M_X6_layRow.2.1 188 = .ok (.goto 17, 3) := by decide +kernel
theorem dX6_layRow_191 : decode M_X6_layRow.2.1 191 = .ok (.aload_n 0, 1) := by decide +kernel
theorem dX6_layRow_192 : decode M_X6_layRow.2.1 192 = .ok (.iload_n 1, 1) := by decide +kernel
theorem dX6_layRow_193 : decode M_X6_layRow.2.1 193 = .ok (.iconst 3, 1) := by decide +kernel
theorem dX6_layRow_194 : decode M_X6_layRow.2.1 194 = .ok (.invokevirtual 58, 3) := by decide +kernel
theorem dX6_layRow_197 : decode M_X6_layRow.2.1 197 = .ok (.aload_n 0, 1) := by decide +kernel
theorem dX6_layRow_198 : decode M_X6_layRow.2.1 198 = .ok (.iload_n 1, 1) := by decide +kernel
theorem dX6_layRow_199 : decode M_X6_layRow.2.1 199 = .ok (.iconst 4, 1) := by decide +kernel
theorem dX6_layRow_200 : decode M_X6_layRow.2.1 200 = .ok (.invokevirtual 58, 3) := by decide +kernel
theorem dX6_layRow_203 : decode M_X6_layRow.2.1 203 = .ok (.iadd, 1) := by decide +kernel
theorem dX6_layRow_204 : decode M_X6_layRow.2.1 204 = .ok (.i2l, 1) := by decide +kernel
theorem dX6_layRow_205 : decode M_X6_layRow.2.1 205 = .ok (.lastore, 1) := by decide +kernel
theorem dX6_layRow_206 : decode M_X6_layRow.2.1 206 = .ok (.aload_n 0, 1) := by decide +kernel
theorem dX6_layRow_207 : decode M_X6_layRow.2.1 207 = .ok (.getfield 45, 3) := by decide +kernel
theorem dX6_layRow_210 : decode M_X6_layRow.2.1 210 = .ok (.iload_n 2, 1) := by decide +kernel
theorem dX6_layRow_211 : decode M_X6_layRow.2.1 211 = .ok (.iconst 1, 1) := by decide +kernel
theorem dX6_layRow_212 : decode M_X6_layRow.2.1 212 = .ok (.iadd, 1) := by decide +kernel
theorem dX6_layRow_213 : decode M_X6_layRow.2.1 213 = .ok (.iload 5, 2) := by decide +kernel
theorem dX6_layRow_215 : decode M_X6_layRow.2.1 215 = .ok (.ifCond .eq 18, 3) := by decide +kernel
theorem dX6_layRow_218 : decode M_X6_layRow.2.1 218 = .ok (.iload 6, 2) := by decide +kernel
theorem dX6_layRow_220 : decode M_X6_layRow.2.1 220 = .ok (.ifCond .eq 9, 3) := by decide +kernel
theorem dX6_layRow_223 : decode M_X6_layRow.2.1 223 = .ok (.iload 4, 2) := by decide +kernel
theorem dX6_layRow_225 : decode M_X6_layRow.2.1 225 = .ok (.i2l, 1) := by decide +kernel
theorem dX6_layRow_226 : decode M_X6_layRow.2.1 226 = .ok (.goto 35, 3) := by decide +kernel
theorem dX6_layRow_229 : decode M_X6_layRow.2.1 229 = .ok (.lconst 0, 1) := by decide +kernel
theorem dX6_layRow_230 : decode M_X6_layRow.2.1 230 = .ok (.goto 31, 3) := by decide +kernel
theorem dX6_layRow_233 : decode M_X6_layRow.2.1 233 = .ok (.aload_n 0, 1) := by decide +kernel
theorem dX6_layRow_234 : decode M_X6_layRow.2.1 234 = .ok (.iload_n 1, 1) := by decide +kernel
theorem dX6_layRow_235 : decode M_X6_layRow.2.1 235 = .ok (.iconst 3, 1) := by decide +kernel
theorem dX6_layRow_236 : decode M_X6_layRow.2.1 236 = .ok (.invokevirtual 58, 3) := by decide +kernel
theorem dX6_layRow_239 : decode M_X6_layRow.2.1 239 = .ok (.aload_n 0, 1) := by decide +kernel
theorem dX6_layRow_240 : decode M_X6_layRow.2.1 240 = .ok (.iload_n 1, 1) := by decide +kernel
theorem dX6_layRow_241 : decode M_X6_layRow.2.1 241 = .ok (.iconst 2, 1) := by decide +kernel
theorem dX6_layRow_242 : decode M_X6_layRow.2.1 242 = .ok (.invokevirtual 58, 3) := by decide +kernel
theorem dX6_layRow_245 : decode M_X6_layRow.2.1 245 = .ok (.imul, 1) := by decide +kernel
theorem dX6_layRow_246 : decode M_X6_layRow.2.1 246 = .ok (.aload_n 0, 1) := by decide +kernel
theorem dX6_layRow_247 : decode M_X6_layRow.2.1 247 = .ok (.iload_n 1, 1) := by decide +kernel
theorem dX6_layRow_248 : decode M_X6_layRow.2.1 248 = .ok (.iconst 4, 1) := by decide +kernel
theorem dX6_layRow_249 : decode M_X6_layRow.2.1 249 = .ok (.invokevirtual 58, 3) := by decide +kernel
theorem dX6_layRow_252 : decode M_X6_layRow.2.1 252 = .ok (.aload_n 0, 1) := by decide +kernel
theorem dX6_layRow_253 : decode M_X6_layRow.2.1 253 = .ok (.iload_n 1, 1) := by decide +kernel
theorem dX6_layRow_254 : decode M_X6_layRow.2.1 254 = .ok (.iconst 5, 1) := by decide +kernel
theorem dX6_layRow_255 : decode M_X6_layRow.2.1 255 = .ok (.invokevirtual 58, 3) := by decide +kernel
theorem dX6_layRow_258 : decode M_X6_layRow.2.1 258 = .ok (.imul, 1) := by decide +kernel
theorem dX6_layRow_259 : decode M_X6_layRow.2.1 259 = .ok (.iadd, 1) := by decide +kernel
theorem dX6_layRow_260 : decode M_X6_layRow.2.1 260 = .ok (.i2l, 1) := by decide +kernel
theorem dX6_layRow_261 : decode M_X6_layRow.2.1 261 = .ok (.lastore, 1) := by decide +kernel
theorem dX6_layRow_262 : decode M_X6_layRow.2.1 262 = .ok (.return_, 1) := by decide +kernel
theorem dX6_layRows_0 : decode M_X6_layRows.2.1 0 = .ok (.aload_n 0, 1) := by decide +kernel
theorem dX6_layRows_1 : decode M_X6_layRows.2.1 1 = .ok (.iconst 0, 1) := by decide +kernel
theorem dX6_layRows_2 : decode M_X6_layRows.2.1 2 = .ok (.putfield 97, 3) := by decide +kernel
theorem dX6_layRows_5 : decode M_X6_layRows.2.1 5 = .ok (.iconst 0, 1) := by decide +kernel
theorem dX6_layRows_6 : decode M_X6_layRows.2.1 6 = .ok (.istore 5, 2) := by decide +kernel
theorem dX6_layRows_8 : decode M_X6_layRows.2.1 8 = .ok (.iload 5, 2) := by decide +kernel
theorem dX6_layRows_10 : decode M_X6_layRows.2.1 10 = .ok (.aload_n 0, 1) := by decide +kernel
theorem dX6_layRows_11 : decode M_X6_layRows.2.1 11 = .ok (.invokevirtual 84, 3) := by decide +kernel
theorem dX6_layRows_14 : decode M_X6_layRows.2.1 14 = .ok (.if_icmp .ge 42, 3) := by decide +kernel
theorem dX6_layRows_17 : decode M_X6_layRows.2.1 17 = .ok (.iload_n 1, 1) := by decide +kernel
theorem dX6_layRows_18 : decode M_X6_layRows.2.1 18 = .ok (.iload 5, 2) := by decide +kernel
theorem dX6_layRows_20 : decode M_X6_layRows.2.1 20 = .ok (.invokestatic 92, 3) := by decide +kernel
theorem dX6_layRows_23 : decode M_X6_layRows.2.1 23 = .ok (.ifCond .eq 27, 3) := by decide +kernel
theorem dX6_layRows_26 : decode M_X6_layRows.2.1 26 = .ok (.aload_n 0, 1) := by decide +kernel
theorem dX6_layRows_27 : decode M_X6_layRows.2.1 27 = .ok (.iload 5, 2) := by decide +kernel
theorem dX6_layRows_29 : decode M_X6_layRows.2.1 29 = .ok (.aload_n 0, 1) := by decide +kernel
theorem dX6_layRows_30 : decode M_X6_layRows.2.1 30 = .ok (.getfield 97, 3) := by decide +kernel
theorem dX6_layRows_33 : decode M_X6_layRows.2.1 33 = .ok (.iload_n 2, 1) := by decide +kernel
theorem dX6_layRows_34 : decode M_X6_layRows.2.1 34 = .ok (.iload_n 3, 1) := by decide +kernel
theorem dX6_layRows_35 : decode M_X6_layRows.2.1 35 = .ok (.iload 4, 2) := by decide +kernel
theorem dX6_layRows_37 : decode M_X6_layRows.2.1 37 = .ok (.invokevirtual 100, 3) := by decide +kernel
theorem dX6_layRows_40 : decode M_X6_layRows.2.1 40 = .ok (.aload_n 0, 1) := by decide +kernel
theorem dX6_layRows_41 : decode M_X6_layRows.2.1 41 = .ok (.dup, 1) := by decide +kernel
theorem dX6_layRows_42 : decode M_X6_layRows.2.1 42 = .ok (.getfield 97, 3) := by decide +kernel
theorem dX6_layRows_45 : decode M_X6_layRows.2.1 45 = .ok (.iconst 2, 1) := by decide +kernel
theorem dX6_layRows_46 : decode M_X6_layRows.2.1 46 = .ok (.iadd, 1) := by decide +kernel
theorem dX6_layRows_47 : decode M_X6_layRows.2.1 47 = .ok (.putfield 97, 3) := by decide +kernel
theorem dX6_layRows_50 : decode M_X6_layRows.2.1 50 = .ok (.iinc 5 1, 3) := by decide +kernel
theorem dX6_layRows_53 : decode M_X6_layRows.2.1 53 = .ok (.goto (-45), 3) := by decide +kernel
theorem dX6_layRows_56 : decode M_X6_layRows.2.1 56 = .ok (.aload_n 0, 1) := by decide +kernel
theorem dX6_layRows_57 : decode M_X6_layRows.2.1 57 = .ok (.aload_n 0, 1) := by decide +kernel
theorem dX6_layRows_58 : decode M_X6_layRows.2.1 58 = .ok (.getfield 72, 3) := by decide +kernel
theorem dX6_layRows_61 : decode M_X6_layRows.2.1 61 = .ok (.iload_n 2, 1) := by decide +kernel
theorem dX6_layRows_62 : decode M_X6_layRows.2.1 62 = .ok (.bipush (-9), 2) := by decide +kernel
theorem dX6_layRows_64 : decode M_X6_layRows.2.1 64 = .ok (.if_icmp .eq 12, 3) := by decide +kernel
theorem dX6_layRows_67 : decode M_X6_layRows.2.1 67 = .ok (.iload 4, 2) := by decide +kernel
theorem dX6_layRows_69 : decode M_X6_layRows.2.1 69 = .ok (.ifCond .ne 7, 3) := by decide +kernel
theorem dX6_layRows_72 : decode M_X6_layRows.2.1 72 = .ok (.iconst 1, 1) := by decide +kernel
theorem dX6_layRows_73 : decode M_X6_layRows.2.1 73 = .ok (.goto 4, 3) := by decide +kernel
theorem dX6_layRows_76 : decode M_X6_layRows.2.1 76 = .ok (.iconst 0, 1) := by decide +kernel
theorem dX6_layRows_77 : decode M_X6_layRows.2.1 77 = .ok (.iadd, 1) := by decide +kernel
theorem dX6_layRows_78 : decode M_X6_layRows.2.1 78 = .ok (.putfield 104, 3) := by decide +kernel
theorem dX6_layRows_81 : decode M_X6_layRows.2.1 81 = .ok (.return_, 1) := by decide +kernel
theorem dX6_swaps_0 : decode M_X6_swaps.2.1 0 = .ok (.iconst 0, 1) := by decide +kernel
theorem dX6_swaps_1 : decode M_X6_swaps.2.1 1 = .ok (.istore_n 3, 1) := by decide +kernel
theorem dX6_swaps_2 : decode M_X6_swaps.2.1 2 = .ok (.iload_n 3, 1) := by decide +kernel
theorem dX6_swaps_3 : decode M_X6_swaps.2.1 3 = .ok (.aload_n 0, 1) := by decide +kernel
theorem dX6_swaps_4 : decode M_X6_swaps.2.1 4 = .ok (.getfield 97, 3) := by decide +kernel
theorem dX6_swaps_7 : decode M_X6_swaps.2.1 7 = .ok (.if_icmp .gt 57, 3) := by decide +kernel
theorem dX6_swaps_10 : decode M_X6_swaps.2.1 10 = .ok (.aload_n 0, 1) := by decide +kernel
theorem dX6_swaps_11 : decode M_X6_swaps.2.1 11 = .ok (.getfield 48, 3) := by decide +kernel
theorem dX6_swaps_14 : decode M_X6_swaps.2.1 14 = .ok (.bipush 9, 2) := by decide +kernel
theorem dX6_swaps_16 : decode M_X6_swaps.2.1 16 = .ok (.iload_n 1, 1) := by decide +kernel
theorem dX6_swaps_17 : decode M_X6_swaps.2.1 17 = .ok (.imul, 1) := by decide +kernel
theorem dX6_swaps_18 : decode M_X6_swaps.2.1 18 = .ok (.iload_n 3, 1) := by decide +kernel
theorem dX6_swaps_19 : decode M_X6_swaps.2.1 19 = .ok (.iadd, 1) := by decide +kernel
theorem dX6_swaps_20 : decode M_X6_swaps.2.1 20 = .ok (.laload, 1) := by decide +kernel
theorem dX6_swaps_21 : decode M_X6_swaps.2.1 21 = .ok (.lstore 4, 2) := by decide +kernel
theorem dX6_swaps_23 : decode M_X6_swaps.2.1 23 = .ok (.aload_n 0, 1) := by decide +kernel
theorem dX6_swaps_24 : decode M_X6_swaps.2.1 24 = .ok (.getfield 48, 3) := by decide +kernel
theorem dX6_swaps_27 : decode M_X6_swaps.2.1 27 = .ok (.bipush 9, 2) := by decide +kernel
theorem dX6_swaps_29 : decode M_X6_swaps.2.1 29 = .ok (.iload_n 1, 1) := by decide +kernel
theorem dX6_swaps_30 : decode M_X6_swaps.2.1 30 = .ok (.imul, 1) := by decide +kernel
theorem dX6_swaps_31 : decode M_X6_swaps.2.1 31 = .ok (.iload_n 3, 1) := by decide +kernel
theorem dX6_swaps_32 : decode M_X6_swaps.2.1 32 = .ok (.iadd, 1) := by decide +kernel
theorem dX6_swaps_33 : decode M_X6_swaps.2.1 33 = .ok (.aload_n 0, 1) := by decide +kernel
theorem dX6_swaps_34 : decode M_X6_swaps.2.1 34 = .ok (.getfield 48, 3) := by decide +kernel
theorem dX6_swaps_37 : decode M_X6_swaps.2.1 37 = .ok (.bipush 9, 2) := by decide +kernel
theorem dX6_swaps_39 : decode M_X6_swaps.2.1 39 = .ok (.iload_n 2, 1) := by decide +kernel
theorem dX6_swaps_40 : decode M_X6_swaps.2.1 40 = .ok (.imul, 1) := by decide +kernel
theorem dX6_swaps_41 : decode M_X6_swaps.2.1 41 = .ok (.iload_n 3, 1) := by decide +kernel
theorem dX6_swaps_42 : decode M_X6_swaps.2.1 42 = .ok (.iadd, 1) := by decide +kernel
theorem dX6_swaps_43 : decode M_X6_swaps.2.1 43 = .ok (.laload, 1) := by decide +kernel
theorem dX6_swaps_44 : decode M_X6_swaps.2.1 44 = .ok (.lastore, 1) := by decide +kernel
theorem dX6_swaps_45 : decode M_X6_swaps.2.1 45 = .ok (.aload_n 0, 1) := by decide +kernel
theorem dX6_swaps_46 : decode M_X6_swaps.2.1 46 = .ok (.getfield 48, 3) := by decide +kernel
theorem dX6_swaps_49 : decode M_X6_swaps.2.1 49 = .ok (.bipush 9, 2) := by decide +kernel
theorem dX6_swaps_51 : decode M_X6_swaps.2.1 51 = .ok (.iload_n 2, 1) := by decide +kernel
theorem dX6_swaps_52 : decode M_X6_swaps.2.1 52 = .ok (.imul, 1) := by decide +kernel
theorem dX6_swaps_53 : decode M_X6_swaps.2.1 53 = .ok (.iload_n 3, 1) := by decide +kernel
theorem dX6_swaps_54 : decode M_X6_swaps.2.1 54 = .ok (.iadd, 1) := by decide +kernel
theorem dX6_swaps_55 : decode M_X6_swaps.2.1 55 = .ok (.lload 4, 2) := by decide +kernel
theorem dX6_swaps_57 : decode M_X6_swaps.2.1 57 = .ok (.lastore, 1) := by decide +kernel
theorem dX6_swaps_58 : decode M_X6_swaps.2.1 58 = .ok (.iinc 3 1, 3) := by decide +kernel
theorem dX6_swaps_61 : decode M_X6_swaps.2.1 61 = .ok (.goto (-59), 3) := by decide +kernel
theorem dX6_swaps_64 : decode M_X6_swaps.2.1 64 = .ok (.return_, 1) := by decide +kernel
theorem dX6_clears_0 : decode M_X6_clears.2.1 0 = .ok (.aload_n 0, 1) := by decide +kernel
theorem dX6_clears_1 : decode M_X6_clears.2.1 1 = .ok (.getfield 48, 3) := by decide +kernel
theorem dX6_clears_4 : decode M_X6_clears.2.1 4 = .ok (.bipush 9, 2) := by decide +kernel
theorem dX6_clears_6 : decode M_X6_clears.2.1 6 = .ok (.iload_n 2, 1) := by decide +kernel
theorem dX6_clears_7 : decode M_X6_clears.2.1 7 = .ok (.imul, 1) := by decide +kernel
theorem dX6_clears_8 : decode M_X6_clears.2.1 8 = .ok (.iload_n 2, 1) := by decide +kernel
theorem dX6_clears_9 : decode M_X6_clears.2.1 9 = .ok (.iadd, 1) := by decide +kernel
theorem dX6_clears_10 : decode M_X6_clears.2.1 10 = .ok (.laload, 1) := by decide +kernel
theorem dX6_clears_11 : decode M_X6_clears.2.1 11 = .ok (.lstore 5, 2) := by decide +kernel
theorem dX6_clears_13 : decode M_X6_clears.2.1 13 = .ok (.aload_n 0, 1) := by decide +kernel
theorem dX6_clears_14 : decode M_X6_clears.2.1 14 = .ok (.getfield 48, 3) := by decide +kernel
theorem dX6_clears_17 : decode M_X6_clears.2.1 17 = .ok (.bipush 9, 2) := by decide +kernel
theorem dX6_clears_19 : decode M_X6_clears.2.1 19 = .ok (.iload_n 1, 1) := by decide +kernel
theorem dX6_clears_20 : decode M_X6_clears.2.1 20 = .ok (.imul, 1) := by decide +kernel
theorem dX6_clears_21 : decode M_X6_clears.2.1 21 = .ok (.iload_n 2, 1) := by decide +kernel
theorem dX6_clears_22 : decode M_X6_clears.2.1 22 = .ok (.iadd, 1) := by decide +kernel
theorem dX6_clears_23 : decode M_X6_clears.2.1 23 = .ok (.laload, 1) := by decide +kernel
theorem dX6_clears_24 : decode M_X6_clears.2.1 24 = .ok (.lstore 7, 2) := by decide +kernel
theorem dX6_clears_26 : decode M_X6_clears.2.1 26 = .ok (.iconst 0, 1) := by decide +kernel
theorem dX6_clears_27 : decode M_X6_clears.2.1 27 = .ok (.istore 9, 2) := by decide +kernel
theorem dX6_clears_29 : decode M_X6_clears.2.1 29 = .ok (.iload 9, 2) := by decide +kernel
theorem dX6_clears_31 : decode M_X6_clears.2.1 31 = .ok (.aload_n 0, 1) := by decide +kernel
theorem dX6_clears_32 : decode M_X6_clears.2.1 32 = .ok (.getfield 97, 3) := by decide +kernel
theorem dX6_clears_35 : decode M_X6_clears.2.1 35 = .ok (.if_icmp .gt 54, 3) := by decide +kernel
theorem dX6_clears_38 : decode M_X6_clears.2.1 38 = .ok (.aload_n 0, 1) := by decide +kernel
theorem dX6_clears_39 : decode M_X6_clears.2.1 39 = .ok (.getfield 48, 3) := by decide +kernel
theorem dX6_clears_42 : decode M_X6_clears.2.1 42 = .ok (.bipush 9, 2) := by decide +kernel
theorem dX6_clears_44 : decode M_X6_clears.2.1 44 = .ok (.iload_n 1, 1) := by decide +kernel
theorem dX6_clears_45 : decode M_X6_clears.2.1 45 = .ok (.imul, 1) := by decide +kernel
theorem dX6_clears_46 : decode M_X6_clears.2.1 46 = .ok (.iload 9, 2) := by decide +kernel
theorem dX6_clears_48 : decode M_X6_clears.2.1 48 = .ok (.iadd, 1) := by decide +kernel
theorem dX6_clears_49 : decode M_X6_clears.2.1 49 = .ok (.lload 5, 2) := by decide +kernel
theorem dX6_clears_51 : decode M_X6_clears.2.1 51 = .ok (.aload_n 0, 1) := by decide +kernel
theorem dX6_clears_52 : decode M_X6_clears.2.1 52 = .ok (.getfield 48, 3) := by decide +kernel
theorem dX6_clears_55 : decode M_X6_clears.2.1 55 = .ok (.bipush 9, 2) := by decide +kernel
theorem dX6_clears_57 : decode M_X6_clears.2.1 57 = .ok (.iload_n 1, 1) := by decide +kernel
theorem dX6_clears_58 : decode M_X6_clears.2.1 58 = .ok (.imul, 1) := by decide +kernel
theorem dX6_clears_59 : decode M_X6_clears.2.1 59 = .ok (.iload 9, 2) := by decide +kernel
theorem dX6_clears_61 : decode M_X6_clears.2.1 61 = .ok (.iadd, 1) := by decide +kernel
theorem dX6_clears_62 : decode M_X6_clears.2.1 62 = .ok (.laload, 1) := by decide +kernel
theorem dX6_clears_63 : decode M_X6_clears.2.1 63 = .ok (.lmul, 1) := by decide +kernel
theorem dX6_clears_64 : decode M_X6_clears.2.1 64 = .ok (.lload 7, 2) := by decide +kernel
theorem dX6_clears_66 : decode M_X6_clears.2.1 66 = .ok (.aload_n 0, 1) := by decide +kernel
theorem dX6_clears_67 : decode M_X6_clears.2.1 67 = .ok (.getfield 48, 3) := by decide +kernel
theorem dX6_clears_70 : decode M_X6_clears.2.1 70 = .ok (.bipush 9, 2) := by decide +kernel
theorem dX6_clears_72 : decode M_X6_clears.2.1 72 = .ok (.iload_n 2, 1) := by decide +kernel
theorem dX6_clears_73 : decode M_X6_clears.2.1 73 = .ok (.imul, 1) := by decide +kernel
theorem dX6_clears_74 : decode M_X6_clears.2.1 74 = .ok (.iload 9, 2) := by decide +kernel
theorem dX6_clears_76 : decode M_X6_clears.2.1 76 = .ok (.iadd, 1) := by decide +kernel
theorem dX6_clears_77 : decode M_X6_clears.2.1 77 = .ok (.laload, 1) := by decide +kernel
theorem dX6_clears_78 : decode M_X6_clears.2.1 78 = .ok (.lmul, 1) := by decide +kernel
theorem dX6_clears_79 : decode M_X6_clears.2.1 79 = .ok (.lsub, 1) := by decide +kernel
theorem dX6_clears_80 : decode M_X6_clears.2.1 80 = .ok (.lload_n 3, 1) := by decide +kernel
theorem dX6_clears_81 : decode M_X6_clears.2.1 81 = .ok (.ldiv, 1) := by decide +kernel
theorem dX6_clears_82 : decode M_X6_clears.2.1 82 = .ok (.lastore, 1) := by decide +kernel
theorem dX6_clears_83 : decode M_X6_clears.2.1 83 = .ok (.iinc 9 1, 3) := by decide +kernel
theorem dX6_clears_86 : decode M_X6_clears.2.1 86 = .ok (.goto (-57), 3) := by decide +kernel
theorem dX6_clears_89 : decode M_X6_clears.2.1 89 = .ok (.return_, 1) := by decide +kernel
theorem dX6_pivot_0 : decode M_X6_pivot.2.1 0 = .ok (.bipush (-9), 2) := by decide +kernel
theorem dX6_pivot_2 : decode M_X6_pivot.2.1 2 = .ok (.istore_n 2, 1) := by decide +kernel
theorem dX6_pivot_3 : decode M_X6_pivot.2.1 3 = .ok (.aload_n 0, 1) := by decide +kernel
theorem dX6_pivot_4 : decode M_X6_pivot.2.1 4 = .ok (.getfield 97, 3) := by decide +kernel
theorem dX6_pivot_7 : decode M_X6_pivot.2.1 7 = .ok (.iconst 1, 1) := by decide +kernel
theorem dX6_pivot_8 : decode M_X6_pivot.2.1 8 = .ok (.isub, 1) := by decide +kernel
theorem dX6_pivot_9 : decode M_X6_pivot.2.1 9 = .ok (.istore_n 3, 1) := by decide +kernel
theorem dX6_pivot_10 : decode M_X6_pivot.2.1 10 = .ok (.iload_n 3, 1) := by decide +kernel
theorem dX6_pivot_11 : decode M_X6_pivot.2.1 11 = .ok (.iload_n 1, 1) := by decide +kernel
theorem dX6_pivot_12 : decode M_X6_pivot.2.1 12 = .ok (.if_icmp .lt 31, 3) := by decide +kernel
theorem dX6_pivot_15 : decode M_X6_pivot.2.1 15 = .ok (.aload_n 0, 1) := by decide +kernel
theorem dX6_pivot_16 : decode M_X6_pivot.2.1 16 = .ok (.getfield 48, 3) := by decide +kernel
theorem dX6_pivot_19 : decode M_X6_pivot.2.1 19 = .ok (.bipush 9, 2) := by decide +kernel
theorem dX6_pivot_21 : decode M_X6_pivot.2.1 21 = .ok (.iload_n 3, 1) := by decide +kernel
theorem dX6_pivot_22 : decode M_X6_pivot.2.1 22 = .ok (.imul, 1) := by decide +kernel
theorem dX6_pivot_23 : decode M_X6_pivot.2.1 23 = .ok (.iload_n 1, 1) := by decide +kernel
theorem dX6_pivot_24 : decode M_X6_pivot.2.1 24 = .ok (.iadd, 1) := by decide +kernel
theorem dX6_pivot_25 : decode M_X6_pivot.2.1 25 = .ok (.laload, 1) := by decide +kernel
theorem dX6_pivot_26 : decode M_X6_pivot.2.1 26 = .ok (.lconst 0, 1) := by decide +kernel
theorem dX6_pivot_27 : decode M_X6_pivot.2.1 27 = .ok (.lcmp, 1) := by decide +kernel
theorem dX6_pivot_28 : decode M_X6_pivot.2.1 28 = .ok (.ifCond .eq 7, 3) := by decide +kernel
theorem dX6_pivot_31 : decode M_X6_pivot.2.1 31 = .ok (.iload_n 3, 1) := by decide +kernel
theorem dX6_pivot_32 : decode M_X6_pivot.2.1 32 = .ok (.goto 4, 3) := by decide +kernel
theorem dX6_pivot_35 : decode M_X6_pivot.2.1 35 = .ok (.iload_n 2, 1) := by decide +kernel
theorem dX6_pivot_36 : decode M_X6_pivot.2.1 36 = .ok (.istore_n 2, 1) := by decide +kernel
theorem dX6_pivot_37 : decode M_X6_pivot.2.1 37 = .ok (.iinc 3 (-1), 3) := by decide +kernel
theorem dX6_pivot_40 : decode M_X6_pivot.2.1 40 = .ok (.goto (-30), 3) := by decide +kernel
theorem dX6_pivot_43 : decode M_X6_pivot.2.1 43 = .ok (.iload_n 2, 1) := by decide +kernel
theorem dX6_pivot_44 : decode M_X6_pivot.2.1 44 = .ok (.ireturn, 1) := by decide +kernel
theorem dX6_fills_0 : decode M_X6_fills.2.1 0 = .ok (.iconst 0, 1) := by decide +kernel
theorem dX6_fills_1 : decode M_X6_fills.2.1 1 = .ok (.istore_n 2, 1) := by decide +kernel
theorem dX6_fills_2 : decode M_X6_fills.2.1 2 = .ok (.iconst 0, 1) := by decide +kernel
theorem dX6_fills_3 : decode M_X6_fills.2.1 3 = .ok (.istore_n 3, 1) := by decide +kernel
theorem dX6_fills_4 : decode M_X6_fills.2.1 4 = .ok (.iload_n 3, 1) := by decide +kernel
theorem dX6_fills_5 : decode M_X6_fills.2.1 5 = .ok (.aload_n 0, 1) := by decide +kernel
theorem dX6_fills_6 : decode M_X6_fills.2.1 6 = .ok (.getfield 104, 3) := by decide +kernel
theorem dX6_fills_9 : decode M_X6_fills.2.1 9 = .ok (.if_icmp .ge 62, 3) := by decide +kernel
theorem dX6_fills_12 : decode M_X6_fills.2.1 12 = .ok (.iload_n 1, 1) := by decide +kernel
theorem dX6_fills_13 : decode M_X6_fills.2.1 13 = .ok (.iload_n 3, 1) := by decide +kernel
theorem dX6_fills_14 : decode M_X6_fills.2.1 14 = .ok (.invokestatic 92, 3) := by decide +kernel
theorem dX6_fills_17 : decode M_X6_fills.2.1 17 = .ok (.ifCond .eq 48, 3) := by decide +kernel
theorem dX6_fills_20 : decode M_X6_fills.2.1 20 = .ok (.iconst 0, 1) := by decide +kernel
theorem dX6_fills_21 : decode M_X6_fills.2.1 21 = .ok (.istore 4, 2) := by decide +kernel
theorem dX6_fills_23 : decode M_X6_fills.2.1 23 = .ok (.iload 4, 2) := by decide +kernel
theorem dX6_fills_25 : decode M_X6_fills.2.1 25 = .ok (.aload_n 0, 1) := by decide +kernel
theorem dX6_fills_26 : decode M_X6_fills.2.1 26 = .ok (.getfield 97, 3) := by decide +kernel
theorem dX6_fills_29 : decode M_X6_fills.2.1 29 = .ok (.if_icmp .ge 33, 3) := by decide +kernel
theorem dX6_fills_32 : decode M_X6_fills.2.1 32 = .ok (.aload_n 0, 1) := by decide +kernel
theorem dX6_fills_33 : decode M_X6_fills.2.1 33 = .ok (.getfield 48, 3) := by decide +kernel
theorem dX6_fills_36 : decode M_X6_fills.2.1 36 = .ok (.bipush 9, 2) := by decide +kernel
theorem dX6_fills_38 : decode M_X6_fills.2.1 38 = .ok (.iload 4, 2) := by decide +kernel
theorem dX6_fills_40 : decode M_X6_fills.2.1 40 = .ok (.imul, 1) := by decide +kernel
theorem dX6_fills_41 : decode M_X6_fills.2.1 41 = .ok (.iload_n 2, 1) := by decide +kernel
theorem dX6_fills_42 : decode M_X6_fills.2.1 42 = .ok (.iadd, 1) := by decide +kernel
theorem dX6_fills_43 : decode M_X6_fills.2.1 43 = .ok (.aload_n 0, 1) := by decide +kernel
theorem dX6_fills_44 : decode M_X6_fills.2.1 44 = .ok (.getfield 41, 3) := by decide +kernel
theorem dX6_fills_47 : decode M_X6_fills.2.1 47 = .ok (.bipush 16, 2) := by decide +kernel
theorem dX6_fills_49 : decode M_X6_fills.2.1 49 = .ok (.iload 4, 2) := by decide +kernel
theorem dX6_fills_51 : decode M_X6_fills.2.1 51 = .ok (.imul, 1) := by decide +kernel
theorem dX6_fills_52 : decode M_X6_fills.2.1 52 = .ok (.iload_n 3, 1) := by decide +kernel
theorem dX6_fills_53 : decode M_X6_fills.2.1 53 = .ok (.iadd, 1) := by decide +kernel
theorem dX6_fills_54 : decode M_X6_fills.2.1 54 = .ok (.laload, 1) := by decide +kernel
theorem dX6_fills_55 : decode M_X6_fills.2.1 55 = .ok (.lastore, 1) := by decide +kernel
theorem dX6_fills_56 : decode M_X6_fills.2.1 56 = .ok (.iinc 4 1, 3) := by decide +kernel
theorem dX6_fills_59 : decode M_X6_fills.2.1 59 = .ok (.goto (-36), 3) := by decide +kernel
theorem dX6_fills_62 : decode M_X6_fills.2.1 62 = .ok (.iinc 2 1, 3) := by decide +kernel
theorem dX6_fills_65 : decode M_X6_fills.2.1 65 = .ok (.iinc 3 1, 3) := by decide +kernel
theorem dX6_fills_68 : decode M_X6_fills.2.1 68 = .ok (.goto (-64), 3) := by decide +kernel
theorem dX6_fills_71 : decode M_X6_fills.2.1 71 = .ok (.iconst 0, 1) := by decide +kernel
theorem dX6_fills_72 : decode M_X6_fills.2.1 72 = .ok (.istore_n 3, 1) := by decide +kernel
theorem dX6_fills_73 : decode M_X6_fills.2.1 73 = .ok (.iload_n 3, 1) := by decide +kernel
theorem dX6_fills_74 : decode M_X6_fills.2.1 74 = .ok (.aload_n 0, 1) := by decide +kernel
theorem dX6_fills_75 : decode M_X6_fills.2.1 75 = .ok (.getfield 97, 3) := by decide +kernel
theorem dX6_fills_78 : decode M_X6_fills.2.1 78 = .ok (.if_icmp .ge 29, 3) := by decide +kernel
theorem dX6_fills_81 : decode M_X6_fills.2.1 81 = .ok (.aload_n 0, 1) := by decide +kernel
theorem dX6_fills_82 : decode M_X6_fills.2.1 82 = .ok (.getfield 48, 3) := by decide +kernel
theorem dX6_fills_85 : decode M_X6_fills.2.1 85 = .ok (.bipush 9, 2) := by decide +kernel
theorem dX6_fills_87 : decode M_X6_fills.2.1 87 = .ok (.iload_n 3, 1) := by decide +kernel
theorem dX6_fills_88 : decode M_X6_fills.2.1 88 = .ok (.imul, 1) := by decide +kernel
theorem dX6_fills_89 : decode M_X6_fills.2.1 89 = .ok (.aload_n 0, 1) := by decide +kernel
theorem dX6_fills_90 : decode M_X6_fills.2.1 90 = .ok (.getfield 97, 3) := by decide +kernel
theorem dX6_fills_93 : decode M_X6_fills.2.1 93 = .ok (.iadd, 1) := by decide +kernel
theorem dX6_fills_94 : decode M_X6_fills.2.1 94 = .ok (.aload_n 0, 1) := by decide +kernel
theorem dX6_fills_95 : decode M_X6_fills.2.1 95 = .ok (.getfield 45, 3) := by decide +kernel
theorem dX6_fills_98 : decode M_X6_fills.2.1 98 = .ok (.iload_n 3, 1) := by decide +kernel
theorem dX6_fills_99 : decode M_X6_fills.2.1 99 = .ok (.laload, 1) := by decide +kernel
theorem dX6_fills_100 : decode M_X6_fills.2.1 100 = .ok (.lastore, 1) := by decide +kernel
theorem dX6_fills_101 : decode M_X6_fills.2.1 101 = .ok (.iinc 3 1, 3) := by decide +kernel
theorem dX6_fills_104 : decode M_X6_fills.2.1 104 = .ok (.goto (-31), 3) := by decide +kernel
theorem dX6_fills_107 : decode M_X6_fills.2.1 107 = .ok (.return_, 1) := by decide +kernel
theorem dX6_solves_0 : decode M_X6_solves.2.1 0 = .ok (.aload_n 0, 1) := by decide +kernel
theorem dX6_solves_1 : decode M_X6_solves.2.1 1 = .ok (.iload_n 1, 1) := by decide +kernel
theorem dX6_solves_2 : decode M_X6_solves.2.1 2 = .ok (.invokevirtual 107, 3) := by decide +kernel
theorem dX6_solves_5 : decode M_X6_solves.2.1 5 = .ok (.lconst 1, 1) := by decide +kernel
theorem dX6_solves_6 : decode M_X6_solves.2.1 6 = .ok (.lstore_n 2, 1) := by decide +kernel
theorem dX6_solves_7 : decode M_X6_solves.2.1 7 = .ok (.iconst 0, 1) := by decide +kernel
theorem dX6_solves_8 : decode M_X6_solves.2.1 8 = .ok (.istore 4, 2) := by decide +kernel
theorem dX6_solves_10 : decode M_X6_solves.2.1 10 = .ok (.iload 4, 2) := by decide +kernel
theorem dX6_solves_12 : decode M_X6_solves.2.1 12 = .ok (.aload_n 0, 1) := by decide +kernel
theorem dX6_solves_13 : decode M_X6_solves.2.1 13 = .ok (.getfield 97, 3) := by decide +kernel
theorem dX6_solves_16 : decode M_X6_solves.2.1 16 = .ok (.if_icmp .ge 82, 3) := by decide +kernel
theorem dX6_solves_19 : decode M_X6_solves.2.1 19 = .ok (.aload_n 0, 1) := by decide +kernel
theorem dX6_solves_20 : decode M_X6_solves.2.1 20 = .ok (.iload 4, 2) := by decide +kernel
theorem dX6_solves_22 : decode M_X6_solves.2.1 22 = .ok (.invokevirtual 110, 3) := by decide +kernel
theorem dX6_solves_25 : decode M_X6_solves.2.1 25 = .ok (.istore 5, 2) := by decide +kernel
theorem dX6_solves_27 : decode M_X6_solves.2.1 27 = .ok (.iload 5, 2) := by decide +kernel
theorem dX6_solves_29 : decode M_X6_solves.2.1 29 = .ok (.bipush (-9), 2) := by decide +kernel
theorem dX6_solves_31 : decode M_X6_solves.2.1 31 = .ok (.if_icmp .ne 5, 3) := by decide +kernel
theorem dX6_solves_34 : decode M_X6_solves.2.1 34 = .ok (.iconst 0, 1) := by decide +kernel
theorem dX6_solves_35 : decode M_X6_solves.2.1 35 = .ok (.ireturn, 1) := by decide +kernel
theorem dX6_solves_36 : decode M_X6_solves.2.1 36 = .ok (.aload_n 0, 1) := by decide +kernel
theorem dX6_solves_37 : decode M_X6_solves.2.1 37 = .ok (.iload 5, 2) := by decide +kernel
theorem dX6_solves_39 : decode M_X6_solves.2.1 39 = .ok (.iload 4, 2) := by decide +kernel
theorem dX6_solves_41 : decode M_X6_solves.2.1 41 = .ok (.invokevirtual 113, 3) := by decide +kernel
theorem dX6_solves_44 : decode M_X6_solves.2.1 44 = .ok (.iconst 0, 1) := by decide +kernel
theorem dX6_solves_45 : decode M_X6_solves.2.1 45 = .ok (.istore 6, 2) := by decide +kernel
theorem dX6_solves_47 : decode M_X6_solves.2.1 47 = .ok (.iload 6, 2) := by decide +kernel
theorem dX6_solves_49 : decode M_X6_solves.2.1 49 = .ok (.aload_n 0, 1) := by decide +kernel
theorem dX6_solves_50 : decode M_X6_solves.2.1 50 = .ok (.getfield 97, 3) := by decide +kernel
theorem dX6_solves_53 : decode M_X6_solves.2.1 53 = .ok (.if_icmp .ge 25, 3) := by decide +kernel
theorem dX6_solves_56 : decode M_X6_solves.2.1 56 = .ok (.iload 6, 2) := by decide +kernel
theorem dX6_solves_58 : decode M_X6_solves.2.1 58 = .ok (.iload 4, 2) := by decide +kernel
theorem dX6_solves_60 : decode M_X6_solves.2.1 60 = .ok (.if_icmp .eq 12, 3) := by decide +kernel
theorem dX6_solves_63 : decode M_X6_solves.2.1 63 = .ok (.aload_n 0, 1) := by decide +kernel
theorem dX6_solves_64 : decode M_X6_solves.2.1 64 = .ok (.iload 6, 2) := by decide +kernel
theorem dX6_solves_66 : decode M_X6_solves.2.1 66 = .ok (.iload 4, 2) := by decide +kernel
theorem dX6_solves_68 : decode M_X6_solves.2.1 68 = .ok (.lload_n 2, 1) := by decide +kernel
theorem dX6_solves_69 : decode M_X6_solves.2.1 69 = .ok (.invokevirtual 117, 3) := by decide +kernel
theorem dX6_solves_72 : decode M_X6_solves.2.1 72 = .ok (.iinc 6 1, 3) := by decide +kernel
theorem dX6_solves_75 : decode M_X6_solves.2.1 75 = .ok (.goto (-28), 3) := by decide +kernel
theorem dX6_solves_78 : decode M_X6_solves.2.1 78 = .ok (.aload_n 0, 1) := by decide +kernel
theorem dX6_solves_79 : decode M_X6_solves.2.1 79 = .ok (.getfield 48, 3) := by decide +kernel
theorem dX6_solves_82 : decode M_X6_solves.2.1 82 = .ok (.bipush 9, 2) := by decide +kernel
theorem dX6_solves_84 : decode M_X6_solves.2.1 84 = .ok (.iload 4, 2) := by decide +kernel
theorem dX6_solves_86 : decode M_X6_solves.2.1 86 = .ok (.imul, 1) := by decide +kernel
theorem dX6_solves_87 : decode M_X6_solves.2.1 87 = .ok (.iload 4, 2) := by decide +kernel
theorem dX6_solves_89 : decode M_X6_solves.2.1 89 = .ok (.iadd, 1) := by decide +kernel
theorem dX6_solves_90 : decode M_X6_solves.2.1 90 = .ok (.laload, 1) := by decide +kernel
theorem dX6_solves_91 : decode M_X6_solves.2.1 91 = .ok (.lstore_n 2, 1) := by decide +kernel
theorem dX6_solves_92 : decode M_X6_solves.2.1 92 = .ok (.iinc 4 1, 3) := by decide +kernel
theorem dX6_solves_95 : decode M_X6_solves.2.1 95 = .ok (.goto (-85), 3) := by decide +kernel
theorem dX6_solves_98 : decode M_X6_solves.2.1 98 = .ok (.iconst 1, 1) := by decide +kernel
theorem dX6_solves_99 : decode M_X6_solves.2.1 99 = .ok (.ireturn, 1) := by decide +kernel
theorem dX6_divisor_0 : decode M_X6_divisor.2.1 0 = .ok (.aload_n 0, 1) := by decide +kernel
theorem dX6_divisor_1 : decode M_X6_divisor.2.1 1 = .ok (.getfield 97, 3) := by decide +kernel
theorem dX6_divisor_4 : decode M_X6_divisor.2.1 4 = .ok (.ifCond .ne 7, 3) := by decide +kernel
theorem dX6_divisor_7 : decode M_X6_divisor.2.1 7 = .ok (.lconst 1, 1) := by decide +kernel
theorem dX6_divisor_8 : decode M_X6_divisor.2.1 8 = .ok (.goto 24, 3) := by decide +kernel
theorem dX6_divisor_11 : decode M_X6_divisor.2.1 11 = .ok (.aload_n 0, 1) := by decide +kernel
theorem dX6_divisor_12 : decode M_X6_divisor.2.1 12 = .ok (.getfield 48, 3) := by decide +kernel
theorem dX6_divisor_15 : decode M_X6_divisor.2.1 15 = .ok (.bipush 9, 2) := by decide +kernel
theorem dX6_divisor_17 : decode M_X6_divisor.2.1 17 = .ok (.aload_n 0, 1) := by decide +kernel
theorem dX6_divisor_18 : decode M_X6_divisor.2.1 18 = .ok (.getfield 97, 3) := by decide +kernel
theorem dX6_divisor_21 : decode M_X6_divisor.2.1 21 = .ok (.iconst 1, 1) := by decide +kernel
theorem dX6_divisor_22 : decode M_X6_divisor.2.1 22 = .ok (.isub, 1) := by decide +kernel
theorem dX6_divisor_23 : decode M_X6_divisor.2.1 23 = .ok (.imul, 1) := by decide +kernel
theorem dX6_divisor_24 : decode M_X6_divisor.2.1 24 = .ok (.aload_n 0, 1) := by decide +kernel
theorem dX6_divisor_25 : decode M_X6_divisor.2.1 25 = .ok (.getfield 97, 3) := by decide +kernel
theorem dX6_divisor_28 : decode M_X6_divisor.2.1 28 = .ok (.iadd, 1) := by decide +kernel
theorem dX6_divisor_29 : decode M_X6_divisor.2.1 29 = .ok (.iconst 1, 1) := by decide +kernel
theorem dX6_divisor_30 : decode M_X6_divisor.2.1 30 = .ok (.isub, 1) := by decide +kernel
theorem dX6_divisor_31 : decode M_X6_divisor.2.1 31 = .ok (.laload, 1) := by decide +kernel
theorem dX6_divisor_32 : decode M_X6_divisor.2.1 32 = .ok (.lreturn, 1) := by decide +kernel
theorem dX6_isNoneBelow_0 : decode M_X6_isNoneBelow.2.1 0 = .ok (.aload_n 0, 1) := by decide +kernel
theorem dX6_isNoneBelow_1 : decode M_X6_isNoneBelow.2.1 1 = .ok (.invokevirtual 121, 3) := by decide +kernel
theorem dX6_isNoneBelow_4 : decode M_X6_isNoneBelow.2.1 4 = .ok (.lconst 0, 1) := by decide +kernel
theorem dX6_isNoneBelow_5 : decode M_X6_isNoneBelow.2.1 5 = .ok (.lcmp, 1) := by decide +kernel
theorem dX6_isNoneBelow_6 : decode M_X6_isNoneBelow.2.1 6 = .ok (.ifCond .le 7, 3) := by decide +kernel
theorem dX6_isNoneBelow_9 : decode M_X6_isNoneBelow.2.1 9 = .ok (.iconst 1, 1) := by decide +kernel
theorem dX6_isNoneBelow_10 : decode M_X6_isNoneBelow.2.1 10 = .ok (.goto 4, 3) := by decide +kernel
theorem dX6_isNoneBelow_13 : decode M_X6_isNoneBelow.2.1 13 = .ok (.iconst 0, 1) := by decide +kernel
theorem dX6_isNoneBelow_14 : decode M_X6_isNoneBelow.2.1 14 = .ok (.istore_n 1, 1) := by decide +kernel
theorem dX6_isNoneBelow_15 : decode M_X6_isNoneBelow.2.1 15 = .ok (.iconst 1, 1) := by decide +kernel
theorem dX6_isNoneBelow_16 : decode M_X6_isNoneBelow.2.1 16 = .ok (.istore_n 2, 1) := by decide +kernel
theorem dX6_isNoneBelow_17 : decode M_X6_isNoneBelow.2.1 17 = .ok (.iconst 0, 1) := by decide +kernel
theorem dX6_isNoneBelow_18 : decode M_X6_isNoneBelow.2.1 18 = .ok (.istore_n 3, 1) := by decide +kernel
theorem dX6_isNoneBelow_19 : decode M_X6_isNoneBelow.2.1 19 = .ok (.iload_n 3, 1) := by decide +kernel
theorem dX6_isNoneBelow_20 : decode M_X6_isNoneBelow.2.1 20 = .ok (.aload_n 0, 1) := by decide +kernel
theorem dX6_isNoneBelow_21 : decode M_X6_isNoneBelow.2.1 21 = .ok (.getfield 97, 3) := by decide +kernel
theorem dX6_isNoneBelow_24 : decode M_X6_isNoneBelow.2.1 24 = .ok (.if_icmp .ge 56, 3) := by decide +kernel
theorem dX6_isNoneBelow_27 : decode M_X6_isNoneBelow.2.1 27 = .ok (.aload_n 0, 1) := by decide +kernel
theorem dX6_isNoneBelow_28 : decode M_X6_isNoneBelow.2.1 28 = .ok (.getfield 48, 3) := by decide +kernel
theorem dX6_isNoneBelow_31 : decode M_X6_isNoneBelow.2.1 31 = .ok (.bipush 9, 2) := by decide +kernel
theorem dX6_isNoneBelow_33 : decode M_X6_isNoneBelow.2.1 33 = .ok (.iload_n 3, 1) := by decide +kernel
theorem dX6_isNoneBelow_34 : decode M_X6_isNoneBelow.2.1 34 = .ok (.imul, 1) := by decide +kernel
theorem dX6_isNoneBelow_35 : decode M_X6_isNoneBelow.2.1 35 = .ok (.aload_n 0, 1) := by decide +kernel
theorem dX6_isNoneBelow_36 : decode M_X6_isNoneBelow.2.1 36 = .ok (.getfield 97, 3) := by decide +kernel
theorem dX6_isNoneBelow_39 : decode M_X6_isNoneBelow.2.1 39 = .ok (.iadd, 1) := by decide +kernel
theorem dX6_isNoneBelow_40 : decode M_X6_isNoneBelow.2.1 40 = .ok (.laload, 1) := by decide +kernel
theorem dX6_isNoneBelow_41 : decode M_X6_isNoneBelow.2.1 41 = .ok (.lstore 4, 2) := by decide +kernel
theorem dX6_isNoneBelow_43 : decode M_X6_isNoneBelow.2.1 43 = .ok (.iload_n 2, 1) := by decide +kernel
theorem dX6_isNoneBelow_44 : decode M_X6_isNoneBelow.2.1 44 = .ok (.ifCond .eq 28, 3) := by decide +kernel
theorem dX6_isNoneBelow_47 : decode M_X6_isNoneBelow.2.1 47 = .ok (.iload_n 1, 1) := by decide +kernel
theorem dX6_isNoneBelow_48 : decode M_X6_isNoneBelow.2.1 48 = .ok (.ifCond .eq 13, 3) := by decide +kernel
theorem dX6_isNoneBelow_51 : decode M_X6_isNoneBelow.2.1 51 = .ok (.lload 4, 2) := by decide +kernel
theorem dX6_isNoneBelow_53 : decode M_X6_isNoneBelow.2.1 53 = .ok (.lconst 0, 1) := by decide +kernel
theorem dX6_isNoneBelow_54 : decode M_X6_isNoneBelow.2.1 54 = .ok (.lcmp, 1) := by decide +kernel
theorem dX6_isNoneBelow_55 : decode M_X6_isNoneBelow.2.1 55 = .ok (.ifCond .lt 17, 3) := by decide +kernel
theorem dX6_isNoneBelow_58 : decode M_X6_isNoneBelow.2.1 58 = .ok (.goto 10, 3) := by decide +kernel
theorem dX6_isNoneBelow_61 : decode M_X6_isNoneBelow.2.1 61 = .ok (.lload 4, 2) := by decide +kernel
theorem dX6_isNoneBelow_63 : decode M_X6_isNoneBelow.2.1 63 = .ok (.lconst 0, 1) := by decide +kernel
theorem dX6_isNoneBelow_64 : decode M_X6_isNoneBelow.2.1 64 = .ok (.lcmp, 1) := by decide +kernel
theorem dX6_isNoneBelow_65 : decode M_X6_isNoneBelow.2.1 65 = .ok (.ifCond .gt 7, 3) := by decide +kernel
theorem dX6_isNoneBelow_68 : decode M_X6_isNoneBelow.2.1 68 = .ok (.iconst 1, 1) := by decide +kernel
theorem dX6_isNoneBelow_69 : decode M_X6_isNoneBelow.2.1 69 = .ok (.goto 4, 3) := by decide +kernel
theorem dX6_isNoneBelow_72 : decode M_X6_isNoneBelow.2.1 72 = .ok (.iconst 0, 1) := by decide +kernel
theorem dX6_isNoneBelow_73 : decode M_X6_isNoneBelow.2.1 73 = .ok (.istore_n 2, 1) := by decide +kernel
theorem dX6_isNoneBelow_74 : decode M_X6_isNoneBelow.2.1 74 = .ok (.iinc 3 1, 3) := by decide +kernel
theorem dX6_isNoneBelow_77 : decode M_X6_isNoneBelow.2.1 77 = .ok (.goto (-58), 3) := by decide +kernel
theorem dX6_isNoneBelow_80 : decode M_X6_isNoneBelow.2.1 80 = .ok (.iload_n 2, 1) := by decide +kernel
theorem dX6_isNoneBelow_81 : decode M_X6_isNoneBelow.2.1 81 = .ok (.ireturn, 1) := by decide +kernel
theorem dX6_solved_0 : decode M_X6_solved.2.1 0 = .ok (.iload_n 2, 1) := by decide +kernel
theorem dX6_solved_1 : decode M_X6_solved.2.1 1 = .ok (.bipush (-9), 2) := by decide +kernel
theorem dX6_solved_3 : decode M_X6_solved.2.1 3 = .ok (.if_icmp .eq 11, 3) := by decide +kernel
theorem dX6_solved_6 : decode M_X6_solved.2.1 6 = .ok (.iload_n 1, 1) := by decide +kernel
