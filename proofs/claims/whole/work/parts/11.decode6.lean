theorem dX6_contact_2 : decode M_X6_contact.2.1 2 = .ok (.invokevirtual 248, 3) := by decide +kernel
theorem dX6_contact_5 : decode M_X6_contact.2.1 5 = .ok (.ifCond .eq 12, 3) := by decide +kernel
theorem dX6_contact_8 : decode M_X6_contact.2.1 8 = .ok (.iload_n 2, 1) := by decide +kernel
theorem dX6_contact_9 : decode M_X6_contact.2.1 9 = .ok (.iconst 0, 1) := by decide +kernel
theorem dX6_contact_10 : decode M_X6_contact.2.1 10 = .ok (.iconst 2, 1) := by decide +kernel
theorem dX6_contact_11 : decode M_X6_contact.2.1 11 = .ok (.invokestatic 54, 3) := by decide +kernel
theorem dX6_contact_14 : decode M_X6_contact.2.1 14 = .ok (.ifCond .ne 5, 3) := by decide +kernel
theorem dX6_contact_17 : decode M_X6_contact.2.1 17 = .ok (.iconst (-1), 1) := by decide +kernel
theorem dX6_contact_18 : decode M_X6_contact.2.1 18 = .ok (.ireturn, 1) := by decide +kernel
theorem dX6_contact_19 : decode M_X6_contact.2.1 19 = .ok (.iload_n 2, 1) := by decide +kernel
theorem dX6_contact_20 : decode M_X6_contact.2.1 20 = .ok (.ifCond .ne 12, 3) := by decide +kernel
theorem dX6_contact_23 : decode M_X6_contact.2.1 23 = .ok (.aload_n 0, 1) := by decide +kernel
theorem dX6_contact_24 : decode M_X6_contact.2.1 24 = .ok (.getfield 32, 3) := by decide +kernel
theorem dX6_contact_27 : decode M_X6_contact.2.1 27 = .ok (.iload_n 1, 1) := by decide +kernel
theorem dX6_contact_28 : decode M_X6_contact.2.1 28 = .ok (.iaload, 1) := by decide +kernel
theorem dX6_contact_29 : decode M_X6_contact.2.1 29 = .ok (.goto 23, 3) := by decide +kernel
theorem dX6_contact_32 : decode M_X6_contact.2.1 32 = .ok (.iload_n 2, 1) := by decide +kernel
theorem dX6_contact_33 : decode M_X6_contact.2.1 33 = .ok (.iconst 1, 1) := by decide +kernel
theorem dX6_contact_34 : decode M_X6_contact.2.1 34 = .ok (.if_icmp .ne 12, 3) := by decide +kernel
theorem dX6_contact_37 : decode M_X6_contact.2.1 37 = .ok (.aload_n 0, 1) := by decide +kernel
theorem dX6_contact_38 : decode M_X6_contact.2.1 38 = .ok (.getfield 35, 3) := by decide +kernel
theorem dX6_contact_41 : decode M_X6_contact.2.1 41 = .ok (.iload_n 1, 1) := by decide +kernel
theorem dX6_contact_42 : decode M_X6_contact.2.1 42 = .ok (.iaload, 1) := by decide +kernel
theorem dX6_contact_43 : decode M_X6_contact.2.1 43 = .ok (.goto 9, 3) := by decide +kernel
theorem dX6_contact_46 : decode M_X6_contact.2.1 46 = .ok (.aload_n 0, 1) := by decide +kernel
theorem dX6_contact_47 : decode M_X6_contact.2.1 47 = .ok (.getfield 38, 3) := by decide +kernel
theorem dX6_contact_50 : decode M_X6_contact.2.1 50 = .ok (.iload_n 1, 1) := by decide +kernel
theorem dX6_contact_51 : decode M_X6_contact.2.1 51 = .ok (.iaload, 1) := by decide +kernel
theorem dX6_contact_52 : decode M_X6_contact.2.1 52 = .ok (.ireturn, 1) := by decide +kernel
theorem dX6_rests_0 : decode M_X6_rests.2.1 0 = .ok (.aload_n 0, 1) := by decide +kernel
theorem dX6_rests_1 : decode M_X6_rests.2.1 1 = .ok (.invokevirtual 251, 3) := by decide +kernel
theorem dX6_rests_4 : decode M_X6_rests.2.1 4 = .ok (.ifCond .eq 7, 3) := by decide +kernel
theorem dX6_rests_7 : decode M_X6_rests.2.1 7 = .ok (.iconst 1, 1) := by decide +kernel
theorem dX6_rests_8 : decode M_X6_rests.2.1 8 = .ok (.goto 4, 3) := by decide +kernel
theorem dX6_rests_11 : decode M_X6_rests.2.1 11 = .ok (.iconst 0, 1) := by decide +kernel
theorem dX6_rests_12 : decode M_X6_rests.2.1 12 = .ok (.ireturn, 1) := by decide +kernel
theorem dX6_bounds_0 : decode M_X6_bounds.2.1 0 = .ok (.aload_n 0, 1) := by decide +kernel
theorem dX6_bounds_1 : decode M_X6_bounds.2.1 1 = .ok (.iload_n 1, 1) := by decide +kernel
theorem dX6_bounds_2 : decode M_X6_bounds.2.1 2 = .ok (.invokevirtual 248, 3) := by decide +kernel
theorem dX6_bounds_5 : decode M_X6_bounds.2.1 5 = .ok (.ifCond .eq 12, 3) := by decide +kernel
theorem dX6_bounds_8 : decode M_X6_bounds.2.1 8 = .ok (.iload_n 2, 1) := by decide +kernel
theorem dX6_bounds_9 : decode M_X6_bounds.2.1 9 = .ok (.iconst 0, 1) := by decide +kernel
theorem dX6_bounds_10 : decode M_X6_bounds.2.1 10 = .ok (.iconst 3, 1) := by decide +kernel
theorem dX6_bounds_11 : decode M_X6_bounds.2.1 11 = .ok (.invokestatic 54, 3) := by decide +kernel
theorem dX6_bounds_14 : decode M_X6_bounds.2.1 14 = .ok (.ifCond .ne 7, 3) := by decide +kernel
theorem dX6_bounds_17 : decode M_X6_bounds.2.1 17 = .ok (.ldc2_w 95, 3) := by decide +kernel
theorem dX6_bounds_20 : decode M_X6_bounds.2.1 20 = .ok (.lreturn, 1) := by decide +kernel
theorem dX6_bounds_21 : decode M_X6_bounds.2.1 21 = .ok (.aload_n 0, 1) := by decide +kernel
theorem dX6_bounds_22 : decode M_X6_bounds.2.1 22 = .ok (.aload_n 0, 1) := by decide +kernel
theorem dX6_bounds_23 : decode M_X6_bounds.2.1 23 = .ok (.invokevirtual 171, 3) := by decide +kernel
theorem dX6_bounds_26 : decode M_X6_bounds.2.1 26 = .ok (.bipush (-9), 2) := by decide +kernel
theorem dX6_bounds_28 : decode M_X6_bounds.2.1 28 = .ok (.iconst 0, 1) := by decide +kernel
theorem dX6_bounds_29 : decode M_X6_bounds.2.1 29 = .ok (.iconst 0, 1) := by decide +kernel
theorem dX6_bounds_30 : decode M_X6_bounds.2.1 30 = .ok (.invokevirtual 164, 3) := by decide +kernel
theorem dX6_bounds_33 : decode M_X6_bounds.2.1 33 = .ok (.aload_n 0, 1) := by decide +kernel
theorem dX6_bounds_34 : decode M_X6_bounds.2.1 34 = .ok (.iload_n 1, 1) := by decide +kernel
theorem dX6_bounds_35 : decode M_X6_bounds.2.1 35 = .ok (.invokevirtual 168, 3) := by decide +kernel
theorem dX6_bounds_38 : decode M_X6_bounds.2.1 38 = .ok (.aload_n 0, 1) := by decide +kernel
theorem dX6_bounds_39 : decode M_X6_bounds.2.1 39 = .ok (.getfield 128, 3) := by decide +kernel
theorem dX6_bounds_42 : decode M_X6_bounds.2.1 42 = .ok (.ifCond .eq 11, 3) := by decide +kernel
theorem dX6_bounds_45 : decode M_X6_bounds.2.1 45 = .ok (.aload_n 0, 1) := by decide +kernel
theorem dX6_bounds_46 : decode M_X6_bounds.2.1 46 = .ok (.iload_n 2, 1) := by decide +kernel
theorem dX6_bounds_47 : decode M_X6_bounds.2.1 47 = .ok (.invokevirtual 254, 3) := by decide +kernel
theorem dX6_bounds_50 : decode M_X6_bounds.2.1 50 = .ok (.goto 6, 3) := by decide +kernel
theorem dX6_bounds_53 : decode M_X6_bounds.2.1 53 = .ok (.ldc2_w 258, 3) := by decide +kernel
theorem dX6_bounds_56 : decode M_X6_bounds.2.1 56 = .ok (.lreturn, 1) := by decide +kernel
theorem dX6_bears_0 : decode M_X6_bears.2.1 0 = .ok (.aload_n 0, 1) := by decide +kernel
theorem dX6_bears_1 : decode M_X6_bears.2.1 1 = .ok (.iload_n 1, 1) := by decide +kernel
theorem dX6_bears_2 : decode M_X6_bears.2.1 2 = .ok (.iload_n 2, 1) := by decide +kernel
theorem dX6_bears_3 : decode M_X6_bears.2.1 3 = .ok (.invokevirtual 242, 3) := by decide +kernel
theorem dX6_bears_6 : decode M_X6_bears.2.1 6 = .ok (.ifCond .eq 12, 3) := by decide +kernel
theorem dX6_bears_9 : decode M_X6_bears.2.1 9 = .ok (.iload_n 3, 1) := by decide +kernel
theorem dX6_bears_10 : decode M_X6_bears.2.1 10 = .ok (.iconst 0, 1) := by decide +kernel
theorem dX6_bears_11 : decode M_X6_bears.2.1 11 = .ok (.iconst 3, 1) := by decide +kernel
theorem dX6_bears_12 : decode M_X6_bears.2.1 12 = .ok (.invokestatic 54, 3) := by decide +kernel
theorem dX6_bears_15 : decode M_X6_bears.2.1 15 = .ok (.ifCond .ne 7, 3) := by decide +kernel
theorem dX6_bears_18 : decode M_X6_bears.2.1 18 = .ok (.ldc2_w 95, 3) := by decide +kernel
theorem dX6_bears_21 : decode M_X6_bears.2.1 21 = .ok (.lreturn, 1) := by decide +kernel
theorem dX6_bears_22 : decode M_X6_bears.2.1 22 = .ok (.aload_n 0, 1) := by decide +kernel
theorem dX6_bears_23 : decode M_X6_bears.2.1 23 = .ok (.invokevirtual 161, 3) := by decide +kernel
theorem dX6_bears_26 : decode M_X6_bears.2.1 26 = .ok (.aload_n 0, 1) := by decide +kernel
theorem dX6_bears_27 : decode M_X6_bears.2.1 27 = .ok (.aload_n 0, 1) := by decide +kernel
theorem dX6_bears_28 : decode M_X6_bears.2.1 28 = .ok (.invokevirtual 171, 3) := by decide +kernel
theorem dX6_bears_31 : decode M_X6_bears.2.1 31 = .ok (.iload_n 1, 1) := by decide +kernel
theorem dX6_bears_32 : decode M_X6_bears.2.1 32 = .ok (.iload_n 2, 1) := by decide +kernel
theorem dX6_bears_33 : decode M_X6_bears.2.1 33 = .ok (.iconst 1, 1) := by decide +kernel
theorem dX6_bears_34 : decode M_X6_bears.2.1 34 = .ok (.invokevirtual 164, 3) := by decide +kernel
theorem dX6_bears_37 : decode M_X6_bears.2.1 37 = .ok (.aload_n 0, 1) := by decide +kernel
theorem dX6_bears_38 : decode M_X6_bears.2.1 38 = .ok (.bipush (-9), 2) := by decide +kernel
theorem dX6_bears_40 : decode M_X6_bears.2.1 40 = .ok (.invokevirtual 168, 3) := by decide +kernel
theorem dX6_bears_43 : decode M_X6_bears.2.1 43 = .ok (.aload_n 0, 1) := by decide +kernel
theorem dX6_bears_44 : decode M_X6_bears.2.1 44 = .ok (.getfield 128, 3) := by decide +kernel
theorem dX6_bears_47 : decode M_X6_bears.2.1 47 = .ok (.istore 4, 2) := by decide +kernel
theorem dX6_bears_49 : decode M_X6_bears.2.1 49 = .ok (.aload_n 0, 1) := by decide +kernel
theorem dX6_bears_50 : decode M_X6_bears.2.1 50 = .ok (.aload_n 0, 1) := by decide +kernel
theorem dX6_bears_51 : decode M_X6_bears.2.1 51 = .ok (.invokevirtual 171, 3) := by decide +kernel
theorem dX6_bears_54 : decode M_X6_bears.2.1 54 = .ok (.iload_n 1, 1) := by decide +kernel
theorem dX6_bears_55 : decode M_X6_bears.2.1 55 = .ok (.iload_n 2, 1) := by decide +kernel
theorem dX6_bears_56 : decode M_X6_bears.2.1 56 = .ok (.iconst 0, 1) := by decide +kernel
theorem dX6_bears_57 : decode M_X6_bears.2.1 57 = .ok (.invokevirtual 164, 3) := by decide +kernel
theorem dX6_bears_60 : decode M_X6_bears.2.1 60 = .ok (.aload_n 0, 1) := by decide +kernel
theorem dX6_bears_61 : decode M_X6_bears.2.1 61 = .ok (.aload_n 0, 1) := by decide +kernel
theorem dX6_bears_62 : decode M_X6_bears.2.1 62 = .ok (.getfield 72, 3) := by decide +kernel
theorem dX6_bears_65 : decode M_X6_bears.2.1 65 = .ok (.invokevirtual 168, 3) := by decide +kernel
theorem dX6_bears_68 : decode M_X6_bears.2.1 68 = .ok (.aload_n 0, 1) := by decide +kernel
theorem dX6_bears_69 : decode M_X6_bears.2.1 69 = .ok (.getfield 128, 3) := by decide +kernel
theorem dX6_bears_72 : decode M_X6_bears.2.1 72 = .ok (.ifCond .ne 9, 3) := by decide +kernel
theorem dX6_bears_75 : decode M_X6_bears.2.1 75 = .ok (.ldc2_w 258, 3) := by decide +kernel
theorem dX6_bears_78 : decode M_X6_bears.2.1 78 = .ok (.goto 24, 3) := by decide +kernel
theorem dX6_bears_81 : decode M_X6_bears.2.1 81 = .ok (.iload_n 3, 1) := by decide +kernel
theorem dX6_bears_82 : decode M_X6_bears.2.1 82 = .ok (.iconst 1, 1) := by decide +kernel
theorem dX6_bears_83 : decode M_X6_bears.2.1 83 = .ok (.if_icmp .le 14, 3) := by decide +kernel
theorem dX6_bears_86 : decode M_X6_bears.2.1 86 = .ok (.iload 4, 2) := by decide +kernel
theorem dX6_bears_88 : decode M_X6_bears.2.1 88 = .ok (.ifCond .eq 9, 3) := by decide +kernel
theorem dX6_bears_91 : decode M_X6_bears.2.1 91 = .ok (.ldc2_w 260, 3) := by decide +kernel
theorem dX6_bears_94 : decode M_X6_bears.2.1 94 = .ok (.goto 8, 3) := by decide +kernel
theorem dX6_bears_97 : decode M_X6_bears.2.1 97 = .ok (.aload_n 0, 1) := by decide +kernel
theorem dX6_bears_98 : decode M_X6_bears.2.1 98 = .ok (.iload_n 3, 1) := by decide +kernel
theorem dX6_bears_99 : decode M_X6_bears.2.1 99 = .ok (.invokevirtual 254, 3) := by decide +kernel
theorem dX6_bears_102 : decode M_X6_bears.2.1 102 = .ok (.lreturn, 1) := by decide +kernel
theorem dX6_where_0 : decode M_X6_where.2.1 0 = .ok (.iconst 0, 1) := by decide +kernel
theorem dX6_where_1 : decode M_X6_where.2.1 1 = .ok (.iload_n 1, 1) := by decide +kernel
theorem dX6_where_2 : decode M_X6_where.2.1 2 = .ok (.iload_n 2, 1) := by decide +kernel
theorem dX6_where_3 : decode M_X6_where.2.1 3 = .ok (.invokestatic 230, 3) := by decide +kernel
theorem dX6_where_6 : decode M_X6_where.2.1 6 = .ok (.ifCond .ne 5, 3) := by decide +kernel
theorem dX6_where_9 : decode M_X6_where.2.1 9 = .ok (.iconst (-1), 1) := by decide +kernel
theorem dX6_where_10 : decode M_X6_where.2.1 10 = .ok (.ireturn, 1) := by decide +kernel
theorem dX6_where_11 : decode M_X6_where.2.1 11 = .ok (.aload_n 0, 1) := by decide +kernel
theorem dX6_where_12 : decode M_X6_where.2.1 12 = .ok (.getfield 7, 3) := by decide +kernel
theorem dX6_where_15 : decode M_X6_where.2.1 15 = .ok (.iconst 0, 1) := by decide +kernel
theorem dX6_where_16 : decode M_X6_where.2.1 16 = .ok (.iaload, 1) := by decide +kernel
theorem dX6_where_17 : decode M_X6_where.2.1 17 = .ok (.iconst 4, 1) := by decide +kernel
theorem dX6_where_18 : decode M_X6_where.2.1 18 = .ok (.if_icmp .ne 6, 3) := by decide +kernel
theorem dX6_where_21 : decode M_X6_where.2.1 21 = .ok (.bipush (-3), 2) := by decide +kernel
theorem dX6_where_23 : decode M_X6_where.2.1 23 = .ok (.ireturn, 1) := by decide +kernel
theorem dX6_where_24 : decode M_X6_where.2.1 24 = .ok (.iconst 0, 1) := by decide +kernel
theorem dX6_where_25 : decode M_X6_where.2.1 25 = .ok (.istore_n 3, 1) := by decide +kernel
theorem dX6_where_26 : decode M_X6_where.2.1 26 = .ok (.iconst 0, 1) := by decide +kernel
theorem dX6_where_27 : decode M_X6_where.2.1 27 = .ok (.istore 4, 2) := by decide +kernel
theorem dX6_where_29 : decode M_X6_where.2.1 29 = .ok (.iload 4, 2) := by decide +kernel
theorem dX6_where_31 : decode M_X6_where.2.1 31 = .ok (.bipush 10, 2) := by decide +kernel
theorem dX6_where_33 : decode M_X6_where.2.1 33 = .ok (.if_icmp .ge 45, 3) := by decide +kernel
theorem dX6_where_36 : decode M_X6_where.2.1 36 = .ok (.aload_n 0, 1) := by decide +kernel
theorem dX6_where_37 : decode M_X6_where.2.1 37 = .ok (.iload 4, 2) := by decide +kernel
theorem dX6_where_39 : decode M_X6_where.2.1 39 = .ok (.iload_n 1, 1) := by decide +kernel
theorem dX6_where_40 : decode M_X6_where.2.1 40 = .ok (.iload_n 2, 1) := by decide +kernel
theorem dX6_where_41 : decode M_X6_where.2.1 41 = .ok (.invokevirtual 202, 3) := by decide +kernel
theorem dX6_where_44 : decode M_X6_where.2.1 44 = .ok (.iload_n 3, 1) := by decide +kernel
theorem dX6_where_45 : decode M_X6_where.2.1 45 = .ok (.aload_n 0, 1) := by decide +kernel
theorem dX6_where_46 : decode M_X6_where.2.1 46 = .ok (.invokevirtual 251, 3) := by decide +kernel
theorem dX6_where_49 : decode M_X6_where.2.1 49 = .ok (.ifCond .eq 10, 3) := by decide +kernel
theorem dX6_where_52 : decode M_X6_where.2.1 52 = .ok (.iconst 1, 1) := by decide +kernel
theorem dX6_where_53 : decode M_X6_where.2.1 53 = .ok (.iload 4, 2) := by decide +kernel
theorem dX6_where_55 : decode M_X6_where.2.1 55 = .ok (.ishl, 1) := by decide +kernel
theorem dX6_where_56 : decode M_X6_where.2.1 56 = .ok (.goto 4, 3) := by decide +kernel
theorem dX6_where_59 : decode M_X6_where.2.1 59 = .ok (.iconst 0, 1) := by decide +kernel
theorem dX6_where_60 : decode M_X6_where.2.1 60 = .ok (.ior, 1) := by decide +kernel
theorem dX6_where_61 : decode M_X6_where.2.1 61 = .ok (.istore_n 3, 1) := by decide +kernel
theorem dX6_where_62 : decode M_X6_where.2.1 62 = .ok (.aload_n 0, 1) := by decide +kernel
theorem dX6_where_63 : decode M_X6_where.2.1 63 = .ok (.getfield 7, 3) := by decide +kernel
theorem dX6_where_66 : decode M_X6_where.2.1 66 = .ok (.iconst 0, 1) := by decide +kernel
theorem dX6_where_67 : decode M_X6_where.2.1 67 = .ok (.dup2, 1) := by decide +kernel
theorem dX6_where_68 : decode M_X6_where.2.1 68 = .ok (.iaload, 1) := by decide +kernel
theorem dX6_where_69 : decode M_X6_where.2.1 69 = .ok (.iconst 1, 1) := by decide +kernel
theorem dX6_where_70 : decode M_X6_where.2.1 70 = .ok (.isub, 1) := by decide +kernel
theorem dX6_where_71 : decode M_X6_where.2.1 71 = .ok (.iastore, 1) := by decide +kernel
theorem dX6_where_72 : decode M_X6_where.2.1 72 = .ok (.iinc 4 1, 3) := by decide +kernel
theorem dX6_where_75 : decode M_X6_where.2.1 75 = .ok (.goto (-46), 3) := by decide +kernel
theorem dX6_where_78 : decode M_X6_where.2.1 78 = .ok (.iload_n 3, 1) := by decide +kernel
theorem dX6_where_79 : decode M_X6_where.2.1 79 = .ok (.ireturn, 1) := by decide +kernel
theorem dX6_weights_0 : decode M_X6_weights.2.1 0 = .ok (.aload_n 0, 1) := by decide +kernel
theorem dX6_weights_1 : decode M_X6_weights.2.1 1 = .ok (.iload_n 1, 1) := by decide +kernel
theorem dX6_weights_2 : decode M_X6_weights.2.1 2 = .ok (.invokevirtual 233, 3) := by decide +kernel
theorem dX6_weights_5 : decode M_X6_weights.2.1 5 = .ok (.ifCond .ne 5, 3) := by decide +kernel
theorem dX6_weights_8 : decode M_X6_weights.2.1 8 = .ok (.iconst (-1), 1) := by decide +kernel
theorem dX6_weights_9 : decode M_X6_weights.2.1 9 = .ok (.ireturn, 1) := by decide +kernel
theorem dX6_weights_10 : decode M_X6_weights.2.1 10 = .ok (.aload_n 0, 1) := by decide +kernel
theorem dX6_weights_11 : decode M_X6_weights.2.1 11 = .ok (.iload_n 1, 1) := by decide +kernel
theorem dX6_weights_12 : decode M_X6_weights.2.1 12 = .ok (.iconst 3, 1) := by decide +kernel
theorem dX6_weights_13 : decode M_X6_weights.2.1 13 = .ok (.invokevirtual 58, 3) := by decide +kernel
theorem dX6_weights_16 : decode M_X6_weights.2.1 16 = .ok (.istore_n 2, 1) := by decide +kernel
theorem dX6_weights_17 : decode M_X6_weights.2.1 17 = .ok (.iconst 0, 1) := by decide +kernel
theorem dX6_weights_18 : decode M_X6_weights.2.1 18 = .ok (.istore_n 3, 1) := by decide +kernel
theorem dX6_weights_19 : decode M_X6_weights.2.1 19 = .ok (.iconst 1, 1) := by decide +kernel
theorem dX6_weights_20 : decode M_X6_weights.2.1 20 = .ok (.istore 4, 2) := by decide +kernel
theorem dX6_weights_22 : decode M_X6_weights.2.1 22 = .ok (.iload 4, 2) := by decide +kernel
theorem dX6_weights_24 : decode M_X6_weights.2.1 24 = .ok (.bipush 10, 2) := by decide +kernel
theorem dX6_weights_26 : decode M_X6_weights.2.1 26 = .ok (.if_icmp .ge 39, 3) := by decide +kernel
theorem dX6_weights_29 : decode M_X6_weights.2.1 29 = .ok (.aload_n 0, 1) := by decide +kernel
theorem dX6_weights_30 : decode M_X6_weights.2.1 30 = .ok (.getfield 7, 3) := by decide +kernel
theorem dX6_weights_33 : decode M_X6_weights.2.1 33 = .ok (.iconst 5, 1) := by decide +kernel
theorem dX6_weights_34 : decode M_X6_weights.2.1 34 = .ok (.iload_n 1, 1) := by decide +kernel
theorem dX6_weights_35 : decode M_X6_weights.2.1 35 = .ok (.imul, 1) := by decide +kernel
theorem dX6_weights_36 : decode M_X6_weights.2.1 36 = .ok (.iconst 3, 1) := by decide +kernel
theorem dX6_weights_37 : decode M_X6_weights.2.1 37 = .ok (.iadd, 1) := by decide +kernel
theorem dX6_weights_38 : decode M_X6_weights.2.1 38 = .ok (.iload 4, 2) := by decide +kernel
theorem dX6_weights_40 : decode M_X6_weights.2.1 40 = .ok (.iastore, 1) := by decide +kernel
theorem dX6_weights_41 : decode M_X6_weights.2.1 41 = .ok (.iload_n 3, 1) := by decide +kernel
theorem dX6_weights_42 : decode M_X6_weights.2.1 42 = .ok (.aload_n 0, 1) := by decide +kernel
theorem dX6_weights_43 : decode M_X6_weights.2.1 43 = .ok (.invokevirtual 251, 3) := by decide +kernel
theorem dX6_weights_46 : decode M_X6_weights.2.1 46 = .ok (.ifCond .eq 10, 3) := by decide +kernel
theorem dX6_weights_49 : decode M_X6_weights.2.1 49 = .ok (.iconst 1, 1) := by decide +kernel
theorem dX6_weights_50 : decode M_X6_weights.2.1 50 = .ok (.iload 4, 2) := by decide +kernel
theorem dX6_weights_52 : decode M_X6_weights.2.1 52 = .ok (.ishl, 1) := by decide +kernel
theorem dX6_weights_53 : decode M_X6_weights.2.1 53 = .ok (.goto 4, 3) := by decide +kernel
theorem dX6_weights_56 : decode M_X6_weights.2.1 56 = .ok (.iconst 0, 1) := by decide +kernel
theorem dX6_weights_57 : decode M_X6_weights.2.1 57 = .ok (.ior, 1) := by decide +kernel
theorem dX6_weights_58 : decode M_X6_weights.2.1 58 = .ok (.istore_n 3, 1) := by decide +kernel
theorem dX6_weights_59 : decode M_X6_weights.2.1 59 = .ok (.iinc 4 1, 3) := by decide +kernel
theorem dX6_weights_62 : decode M_X6_weights.2.1 62 = .ok (.goto (-40), 3) := by decide +kernel
theorem dX6_weights_65 : decode M_X6_weights.2.1 65 = .ok (.aload_n 0, 1) := by decide +kernel
theorem dX6_weights_66 : decode M_X6_weights.2.1 66 = .ok (.getfield 7, 3) := by decide +kernel
theorem dX6_weights_69 : decode M_X6_weights.2.1 69 = .ok (.iconst 5, 1) := by decide +kernel
theorem dX6_weights_70 : decode M_X6_weights.2.1 70 = .ok (.iload_n 1, 1) := by decide +kernel
theorem dX6_weights_71 : decode M_X6_weights.2.1 71 = .ok (.imul, 1) := by decide +kernel
theorem dX6_weights_72 : decode M_X6_weights.2.1 72 = .ok (.iconst 3, 1) := by decide +kernel
theorem dX6_weights_73 : decode M_X6_weights.2.1 73 = .ok (.iadd, 1) := by decide +kernel
theorem dX6_weights_74 : decode M_X6_weights.2.1 74 = .ok (.iload_n 2, 1) := by decide +kernel
theorem dX6_weights_75 : decode M_X6_weights.2.1 75 = .ok (.iastore, 1) := by decide +kernel
theorem dX6_weights_76 : decode M_X6_weights.2.1 76 = .ok (.iload_n 3, 1) := by decide +kernel
theorem dX6_weights_77 : decode M_X6_weights.2.1 77 = .ok (.ireturn, 1) := by decide +kernel
theorem dX6_restsWithout_0 : decode M_X6_restsWithout.2.1 0 = .ok (.aload_n 0, 1) := by decide +kernel
theorem dX6_restsWithout_1 : decode M_X6_restsWithout.2.1 1 = .ok (.aload_n 0, 1) := by decide +kernel
theorem dX6_restsWithout_2 : decode M_X6_restsWithout.2.1 2 = .ok (.getfield 51, 3) := by decide +kernel
theorem dX6_restsWithout_5 : decode M_X6_restsWithout.2.1 5 = .ok (.iconst 0, 1) := by decide +kernel
theorem dX6_restsWithout_6 : decode M_X6_restsWithout.2.1 6 = .ok (.invokevirtual 217, 3) := by decide +kernel
theorem dX6_restsWithout_9 : decode M_X6_restsWithout.2.1 9 = .ok (.aload_n 0, 1) := by decide +kernel
theorem dX6_restsWithout_10 : decode M_X6_restsWithout.2.1 10 = .ok (.iload_n 1, 1) := by decide +kernel
theorem dX6_restsWithout_11 : decode M_X6_restsWithout.2.1 11 = .ok (.invokevirtual 239, 3) := by decide +kernel
theorem dX6_restsWithout_14 : decode M_X6_restsWithout.2.1 14 = .ok (.aload_n 0, 1) := by decide +kernel
theorem dX6_restsWithout_15 : decode M_X6_restsWithout.2.1 15 = .ok (.invokevirtual 251, 3) := by decide +kernel
theorem dX6_restsWithout_18 : decode M_X6_restsWithout.2.1 18 = .ok (.istore_n 2, 1) := by decide +kernel
theorem dX6_restsWithout_19 : decode M_X6_restsWithout.2.1 19 = .ok (.aload_n 0, 1) := by decide +kernel
theorem dX6_restsWithout_20 : decode M_X6_restsWithout.2.1 20 = .ok (.aload_n 0, 1) := by decide +kernel
theorem dX6_restsWithout_21 : decode M_X6_restsWithout.2.1 21 = .ok (.getfield 51, 3) := by decide +kernel
theorem dX6_restsWithout_24 : decode M_X6_restsWithout.2.1 24 = .ok (.iconst 0, 1) := by decide +kernel
theorem dX6_restsWithout_25 : decode M_X6_restsWithout.2.1 25 = .ok (.invokevirtual 224, 3) := by decide +kernel
theorem dX6_restsWithout_28 : decode M_X6_restsWithout.2.1 28 = .ok (.iload_n 2, 1) := by decide +kernel
theorem dX6_restsWithout_29 : decode M_X6_restsWithout.2.1 29 = .ok (.ireturn, 1) := by decide +kernel
theorem dX6_key_0 : decode M_X6_key.2.1 0 = .ok (.aload_n 0, 1) := by decide +kernel
theorem dX6_key_1 : decode M_X6_key.2.1 1 = .ok (.invokevirtual 251, 3) := by decide +kernel
theorem dX6_key_4 : decode M_X6_key.2.1 4 = .ok (.ifCond .ne 6, 3) := by decide +kernel
theorem dX6_key_7 : decode M_X6_key.2.1 7 = .ok (.bipush (-9), 2) := by decide +kernel
theorem dX6_key_9 : decode M_X6_key.2.1 9 = .ok (.ireturn, 1) := by decide +kernel
theorem dX6_key_10 : decode M_X6_key.2.1 10 = .ok (.iconst 0, 1) := by decide +kernel
theorem dX6_key_11 : decode M_X6_key.2.1 11 = .ok (.istore_n 1, 1) := by decide +kernel
theorem dX6_key_12 : decode M_X6_key.2.1 12 = .ok (.iload_n 1, 1) := by decide +kernel
theorem dX6_key_13 : decode M_X6_key.2.1 13 = .ok (.aload_n 0, 1) := by decide +kernel
theorem dX6_key_14 : decode M_X6_key.2.1 14 = .ok (.invokevirtual 84, 3) := by decide +kernel
theorem dX6_key_17 : decode M_X6_key.2.1 17 = .ok (.if_icmp .ge 31, 3) := by decide +kernel
theorem dX6_key_20 : decode M_X6_key.2.1 20 = .ok (.aload_n 0, 1) := by decide +kernel
theorem dX6_key_21 : decode M_X6_key.2.1 21 = .ok (.invokevirtual 161, 3) := by decide +kernel
theorem dX6_key_24 : decode M_X6_key.2.1 24 = .ok (.aload_n 0, 1) := by decide +kernel
theorem dX6_key_25 : decode M_X6_key.2.1 25 = .ok (.iload_n 1, 1) := by decide +kernel
theorem dX6_key_26 : decode M_X6_key.2.1 26 = .ok (.invokevirtual 236, 3) := by decide +kernel
theorem dX6_key_29 : decode M_X6_key.2.1 29 = .ok (.ifCond .ne 13, 3) := by decide +kernel
theorem dX6_key_32 : decode M_X6_key.2.1 32 = .ok (.aload_n 0, 1) := by decide +kernel
theorem dX6_key_33 : decode M_X6_key.2.1 33 = .ok (.iload_n 1, 1) := by decide +kernel
theorem dX6_key_34 : decode M_X6_key.2.1 34 = .ok (.invokevirtual 262, 3) := by decide +kernel
theorem dX6_key_37 : decode M_X6_key.2.1 37 = .ok (.ifCond .ne 5, 3) := by decide +kernel
theorem dX6_key_40 : decode M_X6_key.2.1 40 = .ok (.iload_n 1, 1) := by decide +kernel
theorem dX6_key_41 : decode M_X6_key.2.1 41 = .ok (.ireturn, 1) := by decide +kernel
theorem dX6_key_42 : decode M_X6_key.2.1 42 = .ok (.iinc 1 1, 3) := by decide +kernel
theorem dX6_key_45 : decode M_X6_key.2.1 45 = .ok (.goto (-33), 3) := by decide +kernel
theorem dX6_key_48 : decode M_X6_key.2.1 48 = .ok (.bipush (-9), 2) := by decide +kernel
theorem dX6_key_50 : decode M_X6_key.2.1 50 = .ok (.ireturn, 1) := by decide +kernel
theorem dX6_hold_0 : decode M_X6_hold.2.1 0 = .ok (.aload_n 0, 1) := by decide +kernel
theorem dX6_hold_1 : decode M_X6_hold.2.1 1 = .ok (.invokevirtual 171, 3) := by decide +kernel
theorem dX6_hold_4 : decode M_X6_hold.2.1 4 = .ok (.istore_n 1, 1) := by decide +kernel
theorem dX6_hold_5 : decode M_X6_hold.2.1 5 = .ok (.iconst 0, 1) := by decide +kernel
theorem dX6_hold_6 : decode M_X6_hold.2.1 6 = .ok (.istore_n 2, 1) := by decide +kernel
theorem dX6_hold_7 : decode M_X6_hold.2.1 7 = .ok (.iload_n 2, 1) := by decide +kernel
theorem dX6_hold_8 : decode M_X6_hold.2.1 8 = .ok (.aload_n 0, 1) := by decide +kernel
theorem dX6_hold_9 : decode M_X6_hold.2.1 9 = .ok (.invokevirtual 171, 3) := by decide +kernel
theorem dX6_hold_12 : decode M_X6_hold.2.1 12 = .ok (.if_icmp .gt 41, 3) := by decide +kernel
theorem dX6_hold_15 : decode M_X6_hold.2.1 15 = .ok (.iload_n 2, 1) := by decide +kernel
theorem dX6_hold_16 : decode M_X6_hold.2.1 16 = .ok (.invokestatic 125, 3) := by decide +kernel
theorem dX6_hold_19 : decode M_X6_hold.2.1 19 = .ok (.iload_n 1, 1) := by decide +kernel
theorem dX6_hold_20 : decode M_X6_hold.2.1 20 = .ok (.invokestatic 125, 3) := by decide +kernel
theorem dX6_hold_23 : decode M_X6_hold.2.1 23 = .ok (.if_icmp .ge 22, 3) := by decide +kernel
theorem dX6_hold_26 : decode M_X6_hold.2.1 26 = .ok (.aload_n 0, 1) := by decide +kernel
theorem dX6_hold_27 : decode M_X6_hold.2.1 27 = .ok (.aload_n 0, 1) := by decide +kernel
theorem dX6_hold_28 : decode M_X6_hold.2.1 28 = .ok (.invokevirtual 171, 3) := by decide +kernel
theorem dX6_hold_31 : decode M_X6_hold.2.1 31 = .ok (.iload_n 2, 1) := by decide +kernel
theorem dX6_hold_32 : decode M_X6_hold.2.1 32 = .ok (.iconst (-1), 1) := by decide +kernel
theorem dX6_hold_33 : decode M_X6_hold.2.1 33 = .ok (.ixor, 1) := by decide +kernel
theorem dX6_hold_34 : decode M_X6_hold.2.1 34 = .ok (.iand, 1) := by decide +kernel
theorem dX6_hold_35 : decode M_X6_hold.2.1 35 = .ok (.invokevirtual 174, 3) := by decide +kernel
theorem dX6_hold_38 : decode M_X6_hold.2.1 38 = .ok (.ifCond .eq 7, 3) := by decide +kernel
theorem dX6_hold_41 : decode M_X6_hold.2.1 41 = .ok (.iload_n 2, 1) := by decide +kernel
theorem dX6_hold_42 : decode M_X6_hold.2.1 42 = .ok (.goto 4, 3) := by decide +kernel
theorem dX6_hold_45 : decode M_X6_hold.2.1 45 = .ok (.iload_n 1, 1) := by decide +kernel
theorem dX6_hold_46 : decode M_X6_hold.2.1 46 = .ok (.istore_n 1, 1) := by decide +kernel
theorem dX6_hold_47 : decode M_X6_hold.2.1 47 = .ok (.iinc 2 1, 3) := by decide +kernel
theorem dX6_hold_50 : decode M_X6_hold.2.1 50 = .ok (.goto (-43), 3) := by decide +kernel
theorem dX6_hold_53 : decode M_X6_hold.2.1 53 = .ok (.iload_n 1, 1) := by decide +kernel
theorem dX6_hold_54 : decode M_X6_hold.2.1 54 = .ok (.ireturn, 1) := by decide +kernel
theorem dX6_keep_0 : decode M_X6_keep.2.1 0 = .ok (.iload_n 1, 1) := by decide +kernel
theorem dX6_keep_1 : decode M_X6_keep.2.1 1 = .ok (.iconst 0, 1) := by decide +kernel
theorem dX6_keep_2 : decode M_X6_keep.2.1 2 = .ok (.iconst 1, 1) := by decide +kernel
theorem dX6_keep_3 : decode M_X6_keep.2.1 3 = .ok (.invokestatic 54, 3) := by decide +kernel
theorem dX6_keep_6 : decode M_X6_keep.2.1 6 = .ok (.ifCond .ne 5, 3) := by decide +kernel
theorem dX6_keep_9 : decode M_X6_keep.2.1 9 = .ok (.iconst (-1), 1) := by decide +kernel
theorem dX6_keep_10 : decode M_X6_keep.2.1 10 = .ok (.ireturn, 1) := by decide +kernel
theorem dX6_keep_11 : decode M_X6_keep.2.1 11 = .ok (.aload_n 0, 1) := by decide +kernel
theorem dX6_keep_12 : decode M_X6_keep.2.1 12 = .ok (.aload_n 0, 1) := by decide +kernel
theorem dX6_keep_13 : decode M_X6_keep.2.1 13 = .ok (.getfield 16, 3) := by decide +kernel
theorem dX6_keep_16 : decode M_X6_keep.2.1 16 = .ok (.bipush 21, 2) := by decide +kernel
theorem dX6_keep_18 : decode M_X6_keep.2.1 18 = .ok (.iload_n 1, 1) := by decide +kernel
theorem dX6_keep_19 : decode M_X6_keep.2.1 19 = .ok (.imul, 1) := by decide +kernel
theorem dX6_keep_20 : decode M_X6_keep.2.1 20 = .ok (.invokevirtual 217, 3) := by decide +kernel
theorem dX6_keep_23 : decode M_X6_keep.2.1 23 = .ok (.aload_n 0, 1) := by decide +kernel
theorem dX6_keep_24 : decode M_X6_keep.2.1 24 = .ok (.getfield 19, 3) := by decide +kernel
theorem dX6_keep_27 : decode M_X6_keep.2.1 27 = .ok (.iload_n 1, 1) := by decide +kernel
theorem dX6_keep_28 : decode M_X6_keep.2.1 28 = .ok (.iconst 1, 1) := by decide +kernel
theorem dX6_keep_29 : decode M_X6_keep.2.1 29 = .ok (.bastore, 1) := by decide +kernel
theorem dX6_keep_30 : decode M_X6_keep.2.1 30 = .ok (.aload_n 0, 1) := by decide +kernel
theorem dX6_keep_31 : decode M_X6_keep.2.1 31 = .ok (.getfield 7, 3) := by decide +kernel
theorem dX6_keep_34 : decode M_X6_keep.2.1 34 = .ok (.iconst 0, 1) := by decide +kernel
theorem dX6_keep_35 : decode M_X6_keep.2.1 35 = .ok (.iaload, 1) := by decide +kernel
theorem dX6_keep_36 : decode M_X6_keep.2.1 36 = .ok (.ireturn, 1) := by decide +kernel
theorem dX6_back_0 : decode M_X6_back.2.1 0 = .ok (.iload_n 1, 1) := by decide +kernel
theorem dX6_back_1 : decode M_X6_back.2.1 1 = .ok (.iconst 0, 1) := by decide +kernel
theorem dX6_back_2 : decode M_X6_back.2.1 2 = .ok (.iconst 1, 1) := by decide +kernel
theorem dX6_back_3 : decode M_X6_back.2.1 3 = .ok (.invokestatic 54, 3) := by decide +kernel
theorem dX6_back_6 : decode M_X6_back.2.1 6 = .ok (.ifCond .ne 5, 3) := by decide +kernel
theorem dX6_back_9 : decode M_X6_back.2.1 9 = .ok (.iconst (-1), 1) := by decide +kernel
theorem dX6_back_10 : decode M_X6_back.2.1 10 = .ok (.ireturn, 1) := by decide +kernel
theorem dX6_back_11 : decode M_X6_back.2.1 11 = .ok (.aload_n 0, 1) := by decide +kernel
theorem dX6_back_12 : decode M_X6_back.2.1 12 = .ok (.getfield 19, 3) := by decide +kernel
theorem dX6_back_15 : decode M_X6_back.2.1 15 = .ok (.iload_n 1, 1) := by decide +kernel
theorem dX6_back_16 : decode M_X6_back.2.1 16 = .ok (.baload, 1) := by decide +kernel
theorem dX6_back_17 : decode M_X6_back.2.1 17 = .ok (.ifCond .ne 6, 3) := by decide +kernel
theorem dX6_back_20 : decode M_X6_back.2.1 20 = .ok (.bipush (-2), 2) := by decide +kernel
theorem dX6_back_22 : decode M_X6_back.2.1 22 = .ok (.ireturn, 1) := by decide +kernel
theorem dX6_back_23 : decode M_X6_back.2.1 23 = .ok (.aload_n 0, 1) := by decide +kernel
theorem dX6_back_24 : decode M_X6_back.2.1 24 = .ok (.aload_n 0, 1) := by decide +kernel
theorem dX6_back_25 : decode M_X6_back.2.1 25 = .ok (.getfield 16, 3) := by decide +kernel
theorem dX6_back_28 : decode M_X6_back.2.1 28 = .ok (.bipush 21, 2) := by decide +kernel
theorem dX6_back_30 : decode M_X6_back.2.1 30 = .ok (.iload_n 1, 1) := by decide +kernel
theorem dX6_back_31 : decode M_X6_back.2.1 31 = .ok (.imul, 1) := by decide +kernel
theorem dX6_back_32 : decode M_X6_back.2.1 32 = .ok (.invokevirtual 224, 3) := by decide +kernel
theorem dX6_back_35 : decode M_X6_back.2.1 35 = .ok (.aload_n 0, 1) := by decide +kernel
theorem dX6_back_36 : decode M_X6_back.2.1 36 = .ok (.iconst 0, 1) := by decide +kernel
theorem dX6_back_37 : decode M_X6_back.2.1 37 = .ok (.putfield 214, 3) := by decide +kernel
theorem dX6_back_40 : decode M_X6_back.2.1 40 = .ok (.aload_n 0, 1) := by decide +kernel
theorem dX6_back_41 : decode M_X6_back.2.1 41 = .ok (.getfield 7, 3) := by decide +kernel
theorem dX6_back_44 : decode M_X6_back.2.1 44 = .ok (.iconst 0, 1) := by decide +kernel
theorem dX6_back_45 : decode M_X6_back.2.1 45 = .ok (.iaload, 1) := by decide +kernel
theorem dX6_back_46 : decode M_X6_back.2.1 46 = .ok (.ireturn, 1) := by decide +kernel
theorem dX6_heavy_0 : decode M_X6_heavy.2.1 0 = .ok (.iconst 0, 1) := by decide +kernel
theorem dX6_heavy_1 : decode M_X6_heavy.2.1 1 = .ok (.istore_n 1, 1) := by decide +kernel
theorem dX6_heavy_2 : decode M_X6_heavy.2.1 2 = .ok (.iconst 0, 1) := by decide +kernel
theorem dX6_heavy_3 : decode M_X6_heavy.2.1 3 = .ok (.istore_n 2, 1) := by decide +kernel
theorem dX6_heavy_4 : decode M_X6_heavy.2.1 4 = .ok (.iload_n 2, 1) := by decide +kernel
theorem dX6_heavy_5 : decode M_X6_heavy.2.1 5 = .ok (.aload_n 0, 1) := by decide +kernel
theorem dX6_heavy_6 : decode M_X6_heavy.2.1 6 = .ok (.invokevirtual 84, 3) := by decide +kernel
theorem dX6_heavy_9 : decode M_X6_heavy.2.1 9 = .ok (.if_icmp .ge 25, 3) := by decide +kernel
theorem dX6_heavy_12 : decode M_X6_heavy.2.1 12 = .ok (.iload_n 1, 1) := by decide +kernel
theorem dX6_heavy_13 : decode M_X6_heavy.2.1 13 = .ok (.aload_n 0, 1) := by decide +kernel
theorem dX6_heavy_14 : decode M_X6_heavy.2.1 14 = .ok (.iload_n 2, 1) := by decide +kernel
theorem dX6_heavy_15 : decode M_X6_heavy.2.1 15 = .ok (.iconst 3, 1) := by decide +kernel
theorem dX6_heavy_16 : decode M_X6_heavy.2.1 16 = .ok (.invokevirtual 58, 3) := by decide +kernel
theorem dX6_heavy_19 : decode M_X6_heavy.2.1 19 = .ok (.aload_n 0, 1) := by decide +kernel
theorem dX6_heavy_20 : decode M_X6_heavy.2.1 20 = .ok (.iload_n 2, 1) := by decide +kernel
theorem dX6_heavy_21 : decode M_X6_heavy.2.1 21 = .ok (.iconst 4, 1) := by decide +kernel
theorem dX6_heavy_22 : decode M_X6_heavy.2.1 22 = .ok (.invokevirtual 58, 3) := by decide +kernel
theorem dX6_heavy_25 : decode M_X6_heavy.2.1 25 = .ok (.iadd, 1) := by decide +kernel
theorem dX6_heavy_26 : decode M_X6_heavy.2.1 26 = .ok (.iadd, 1) := by decide +kernel
theorem dX6_heavy_27 : decode M_X6_heavy.2.1 27 = .ok (.istore_n 1, 1) := by decide +kernel
theorem dX6_heavy_28 : decode M_X6_heavy.2.1 28 = .ok (.iinc 2 1, 3) := by decide +kernel
theorem dX6_heavy_31 : decode M_X6_heavy.2.1 31 = .ok (.goto (-27), 3) := by decide +kernel
theorem dX6_heavy_34 : decode M_X6_heavy.2.1 34 = .ok (.iload_n 1, 1) := by decide +kernel
theorem dX6_heavy_35 : decode M_X6_heavy.2.1 35 = .ok (.ireturn, 1) := by decide +kernel
theorem dX6_highest_0 : decode M_X6_highest.2.1 0 = .ok (.aload_n 0, 1) := by decide +kernel
theorem dX6_highest_1 : decode M_X6_highest.2.1 1 = .ok (.invokevirtual 161, 3) := by decide +kernel
theorem dX6_highest_4 : decode M_X6_highest.2.1 4 = .ok (.bipush (-9), 2) := by decide +kernel
theorem dX6_highest_6 : decode M_X6_highest.2.1 6 = .ok (.istore_n 1, 1) := by decide +kernel
theorem dX6_highest_7 : decode M_X6_highest.2.1 7 = .ok (.iconst 0, 1) := by decide +kernel
theorem dX6_highest_8 : decode M_X6_highest.2.1 8 = .ok (.istore_n 2, 1) := by decide +kernel
theorem dX6_highest_9 : decode M_X6_highest.2.1 9 = .ok (.iload_n 2, 1) := by decide +kernel
theorem dX6_highest_10 : decode M_X6_highest.2.1 10 = .ok (.aload_n 0, 1) := by decide +kernel
theorem dX6_highest_11 : decode M_X6_highest.2.1 11 = .ok (.invokevirtual 84, 3) := by decide +kernel
theorem dX6_highest_14 : decode M_X6_highest.2.1 14 = .ok (.if_icmp .ge 30, 3) := by decide +kernel
theorem dX6_highest_17 : decode M_X6_highest.2.1 17 = .ok (.aload_n 0, 1) := by decide +kernel
theorem dX6_highest_18 : decode M_X6_highest.2.1 18 = .ok (.getfield 26, 3) := by decide +kernel
theorem dX6_highest_21 : decode M_X6_highest.2.1 21 = .ok (.iload_n 2, 1) := by decide +kernel
theorem dX6_highest_22 : decode M_X6_highest.2.1 22 = .ok (.iaload, 1) := by decide +kernel
theorem dX6_highest_23 : decode M_X6_highest.2.1 23 = .ok (.iload_n 1, 1) := by decide +kernel
theorem dX6_highest_24 : decode M_X6_highest.2.1 24 = .ok (.if_icmp .le 12, 3) := by decide +kernel
theorem dX6_highest_27 : decode M_X6_highest.2.1 27 = .ok (.aload_n 0, 1) := by decide +kernel
theorem dX6_highest_28 : decode M_X6_highest.2.1 28 = .ok (.getfield 26, 3) := by decide +kernel
theorem dX6_highest_31 : decode M_X6_highest.2.1 31 = .ok (.iload_n 2, 1) := by decide +kernel
theorem dX6_highest_32 : decode M_X6_highest.2.1 32 = .ok (.iaload, 1) := by decide +kernel
theorem dX6_highest_33 : decode M_X6_highest.2.1 33 = .ok (.goto 4, 3) := by decide +kernel
theorem dX6_highest_36 : decode M_X6_highest.2.1 36 = .ok (.iload_n 1, 1) := by decide +kernel
theorem dX6_highest_37 : decode M_X6_highest.2.1 37 = .ok (.istore_n 1, 1) := by decide +kernel
theorem dX6_highest_38 : decode M_X6_highest.2.1 38 = .ok (.iinc 2 1, 3) := by decide +kernel
theorem dX6_highest_41 : decode M_X6_highest.2.1 41 = .ok (.goto (-32), 3) := by decide +kernel
theorem dX6_highest_44 : decode M_X6_highest.2.1 44 = .ok (.iload_n 1, 1) := by decide +kernel
theorem dX6_highest_45 : decode M_X6_highest.2.1 45 = .ok (.ireturn, 1) := by decide +kernel
theorem dX6_contactsNow_0 : decode M_X6_contactsNow.2.1 0 = .ok (.aload_n 0, 1) := by decide +kernel
theorem dX6_contactsNow_1 : decode M_X6_contactsNow.2.1 1 = .ok (.invokevirtual 161, 3) := by decide +kernel
theorem dX6_contactsNow_4 : decode M_X6_contactsNow.2.1 4 = .ok (.aload_n 0, 1) := by decide +kernel
theorem dX6_contactsNow_5 : decode M_X6_contactsNow.2.1 5 = .ok (.getfield 72, 3) := by decide +kernel
theorem dX6_contactsNow_8 : decode M_X6_contactsNow.2.1 8 = .ok (.ireturn, 1) := by decide +kernel
theorem dX6_count_0 : decode M_X6_count.2.1 0 = .ok (.iload_n 1, 1) := by decide +kernel
theorem dX6_count_1 : decode M_X6_count.2.1 1 = .ok (.tableswitch 71 0 5 #[39, 46, 51, 56, 61, 66], 39) := by decide +kernel
theorem dX6_count_40 : decode M_X6_count.2.1 40 = .ok (.aload_n 0, 1) := by decide +kernel
theorem dX6_count_41 : decode M_X6_count.2.1 41 = .ok (.getfield 7, 3) := by decide +kernel
theorem dX6_count_44 : decode M_X6_count.2.1 44 = .ok (.iconst 0, 1) := by decide +kernel
theorem dX6_count_45 : decode M_X6_count.2.1 45 = .ok (.iaload, 1) := by decide +kernel
theorem dX6_count_46 : decode M_X6_count.2.1 46 = .ok (.ireturn, 1) := by decide +kernel
theorem dX6_count_47 : decode M_X6_count.2.1 47 = .ok (.aload_n 0, 1) := by decide +kernel
theorem dX6_count_48 : decode M_X6_count.2.1 48 = .ok (.invokevirtual 265, 3) := by decide +kernel
theorem dX6_count_51 : decode M_X6_count.2.1 51 = .ok (.ireturn, 1) := by decide +kernel
theorem dX6_count_52 : decode M_X6_count.2.1 52 = .ok (.aload_n 0, 1) := by decide +kernel
theorem dX6_count_53 : decode M_X6_count.2.1 53 = .ok (.invokevirtual 268, 3) := by decide +kernel
theorem dX6_count_56 : decode M_X6_count.2.1 56 = .ok (.ireturn, 1) := by decide +kernel
theorem dX6_count_57 : decode M_X6_count.2.1 57 = .ok (.aload_n 0, 1) := by decide +kernel
theorem dX6_count_58 : decode M_X6_count.2.1 58 = .ok (.invokevirtual 271, 3) := by decide +kernel
theorem dX6_count_61 : decode M_X6_count.2.1 61 = .ok (.ireturn, 1) := by decide +kernel
theorem dX6_count_62 : decode M_X6_count.2.1 62 = .ok (.aload_n 0, 1) := by decide +kernel
theorem dX6_count_63 : decode M_X6_count.2.1 63 = .ok (.getfield 184, 3) := by decide +kernel
theorem dX6_count_66 : decode M_X6_count.2.1 66 = .ok (.ireturn, 1) := by decide +kernel
theorem dX6_count_67 : decode M_X6_count.2.1 67 = .ok (.aload_n 0, 1) := by decide +kernel
theorem dX6_count_68 : decode M_X6_count.2.1 68 = .ok (.getfield 214, 3) := by decide +kernel
theorem dX6_count_71 : decode M_X6_count.2.1 71 = .ok (.ireturn, 1) := by decide +kernel
theorem dX6_count_72 : decode M_X6_count.2.1 72 = .ok (.iconst (-1), 1) := by decide +kernel
theorem dX6_count_73 : decode M_X6_count.2.1 73 = .ok (.ireturn, 1) := by decide +kernel
theorem dJ6_bitCount_0f7a4_0 : decode M_J6_bitCount_0f7a4.2.1 0 = .ok (.iload_n 0, 1) := by decide +kernel
theorem dJ6_bitCount_0f7a4_1 : decode M_J6_bitCount_0f7a4.2.1 1 = .ok (.iload_n 0, 1) := by decide +kernel
theorem dJ6_bitCount_0f7a4_2 : decode M_J6_bitCount_0f7a4.2.1 2 = .ok (.iconst 1, 1) := by decide +kernel
theorem dJ6_bitCount_0f7a4_3 : decode M_J6_bitCount_0f7a4.2.1 3 = .ok (.iushr, 1) := by decide +kernel
theorem dJ6_bitCount_0f7a4_4 : decode M_J6_bitCount_0f7a4.2.1 4 = .ok (.ldc_w 265, 3) := by decide +kernel
theorem dJ6_bitCount_0f7a4_7 : decode M_J6_bitCount_0f7a4.2.1 7 = .ok (.iand, 1) := by decide +kernel
theorem dJ6_bitCount_0f7a4_8 : decode M_J6_bitCount_0f7a4.2.1 8 = .ok (.isub, 1) := by decide +kernel
theorem dJ6_bitCount_0f7a4_9 : decode M_J6_bitCount_0f7a4.2.1 9 = .ok (.istore_n 0, 1) := by decide +kernel
theorem dJ6_bitCount_0f7a4_10 : decode M_J6_bitCount_0f7a4.2.1 10 = .ok (.iload_n 0, 1) := by decide +kernel
theorem dJ6_bitCount_0f7a4_11 : decode M_J6_bitCount_0f7a4.2.1 11 = .ok (.ldc_w 266, 3) := by decide +kernel
theorem dJ6_bitCount_0f7a4_14 : decode M_J6_bitCount_0f7a4.2.1 14 = .ok (.iand, 1) := by decide +kernel
theorem dJ6_bitCount_0f7a4_15 : decode M_J6_bitCount_0f7a4.2.1 15 = .ok (.iload_n 0, 1) := by decide +kernel
theorem dJ6_bitCount_0f7a4_16 : decode M_J6_bitCount_0f7a4.2.1 16 = .ok (.iconst 2, 1) := by decide +kernel
theorem dJ6_bitCount_0f7a4_17 : decode M_J6_bitCount_0f7a4.2.1 17 = .ok (.iushr, 1) := by decide +kernel
theorem dJ6_bitCount_0f7a4_18 : decode M_J6_bitCount_0f7a4.2.1 18 = .ok (.ldc_w 266, 3) := by decide +kernel
theorem dJ6_bitCount_0f7a4_21 : decode M_J6_bitCount_0f7a4.2.1 21 = .ok (.iand, 1) := by decide +kernel
theorem dJ6_bitCount_0f7a4_22 : decode M_J6_bitCount_0f7a4.2.1 22 = .ok (.iadd, 1) := by decide +kernel
theorem dJ6_bitCount_0f7a4_23 : decode M_J6_bitCount_0f7a4.2.1 23 = .ok (.istore_n 0, 1) := by decide +kernel
theorem dJ6_bitCount_0f7a4_24 : decode M_J6_bitCount_0f7a4.2.1 24 = .ok (.iload_n 0, 1) := by decide +kernel
theorem dJ6_bitCount_0f7a4_25 : decode M_J6_bitCount_0f7a4.2.1 25 = .ok (.iload_n 0, 1) := by decide +kernel
theorem dJ6_bitCount_0f7a4_26 : decode M_J6_bitCount_0f7a4.2.1 26 = .ok (.iconst 4, 1) := by decide +kernel
theorem dJ6_bitCount_0f7a4_27 : decode M_J6_bitCount_0f7a4.2.1 27 = .ok (.iushr, 1) := by decide +kernel
theorem dJ6_bitCount_0f7a4_28 : decode M_J6_bitCount_0f7a4.2.1 28 = .ok (.iadd, 1) := by decide +kernel
theorem dJ6_bitCount_0f7a4_29 : decode M_J6_bitCount_0f7a4.2.1 29 = .ok (.ldc_w 267, 3) := by decide +kernel
theorem dJ6_bitCount_0f7a4_32 : decode M_J6_bitCount_0f7a4.2.1 32 = .ok (.iand, 1) := by decide +kernel
theorem dJ6_bitCount_0f7a4_33 : decode M_J6_bitCount_0f7a4.2.1 33 = .ok (.istore_n 0, 1) := by decide +kernel
theorem dJ6_bitCount_0f7a4_34 : decode M_J6_bitCount_0f7a4.2.1 34 = .ok (.iload_n 0, 1) := by decide +kernel
theorem dJ6_bitCount_0f7a4_35 : decode M_J6_bitCount_0f7a4.2.1 35 = .ok (.iload_n 0, 1) := by decide +kernel
theorem dJ6_bitCount_0f7a4_36 : decode M_J6_bitCount_0f7a4.2.1 36 = .ok (.bipush 8, 2) := by decide +kernel
theorem dJ6_bitCount_0f7a4_38 : decode M_J6_bitCount_0f7a4.2.1 38 = .ok (.iushr, 1) := by decide +kernel
theorem dJ6_bitCount_0f7a4_39 : decode M_J6_bitCount_0f7a4.2.1 39 = .ok (.iadd, 1) := by decide +kernel
theorem dJ6_bitCount_0f7a4_40 : decode M_J6_bitCount_0f7a4.2.1 40 = .ok (.istore_n 0, 1) := by decide +kernel
theorem dJ6_bitCount_0f7a4_41 : decode M_J6_bitCount_0f7a4.2.1 41 = .ok (.iload_n 0, 1) := by decide +kernel
theorem dJ6_bitCount_0f7a4_42 : decode M_J6_bitCount_0f7a4.2.1 42 = .ok (.iload_n 0, 1) := by decide +kernel
theorem dJ6_bitCount_0f7a4_43 : decode M_J6_bitCount_0f7a4.2.1 43 = .ok (.bipush 16, 2) := by decide +kernel
theorem dJ6_bitCount_0f7a4_45 : decode M_J6_bitCount_0f7a4.2.1 45 = .ok (.iushr, 1) := by decide +kernel
theorem dJ6_bitCount_0f7a4_46 : decode M_J6_bitCount_0f7a4.2.1 46 = .ok (.iadd, 1) := by decide +kernel
theorem dJ6_bitCount_0f7a4_47 : decode M_J6_bitCount_0f7a4.2.1 47 = .ok (.istore_n 0, 1) := by decide +kernel
theorem dJ6_bitCount_0f7a4_48 : decode M_J6_bitCount_0f7a4.2.1 48 = .ok (.iload_n 0, 1) := by decide +kernel
theorem dJ6_bitCount_0f7a4_49 : decode M_J6_bitCount_0f7a4.2.1 49 = .ok (.bipush 63, 2) := by decide +kernel
theorem dJ6_bitCount_0f7a4_51 : decode M_J6_bitCount_0f7a4.2.1 51 = .ok (.iand, 1) := by decide +kernel
theorem dJ6_bitCount_0f7a4_52 : decode M_J6_bitCount_0f7a4.2.1 52 = .ok (.ireturn, 1) := by decide +kernel
theorem dL_law_0 : decode code 0 = .ok (.new 7, 3) := by decide +kernel
theorem dL_law_3 : decode code 3 = .ok (.dup, 1) := by decide +kernel
theorem dL_law_4 : decode code 4 = .ok (.invokespecial 9, 3) := by decide +kernel
theorem dL_law_7 : decode code 7 = .ok (.astore_n 1, 1) := by decide +kernel
theorem dL_law_8 : decode code 8 = .ok (.new 10, 3) := by decide +kernel
theorem dL_law_11 : decode code 11 = .ok (.dup, 1) := by decide +kernel
theorem dL_law_12 : decode code 12 = .ok (.invokespecial 12, 3) := by decide +kernel
theorem dL_law_15 : decode code 15 = .ok (.astore_n 2, 1) := by decide +kernel
theorem dL_law_16 : decode code 16 = .ok (.iconst 0, 1) := by decide +kernel
theorem dL_law_17 : decode code 17 = .ok (.istore_n 3, 1) := by decide +kernel
theorem dL_law_18 : decode code 18 = .ok (.iload_n 3, 1) := by decide +kernel
theorem dL_law_19 : decode code 19 = .ok (.aload_n 0, 1) := by decide +kernel
theorem dL_law_20 : decode code 20 = .ok (.arraylength, 1) := by decide +kernel
theorem dL_law_21 : decode code 21 = .ok (.iconst 4, 1) := by decide +kernel
theorem dL_law_22 : decode code 22 = .ok (.isub, 1) := by decide +kernel
theorem dL_law_23 : decode code 23 = .ok (.if_icmp .gt 623, 3) := by decide +kernel
theorem dL_law_26 : decode code 26 = .ok (.aload_n 0, 1) := by decide +kernel
theorem dL_law_27 : decode code 27 = .ok (.iload_n 3, 1) := by decide +kernel
theorem dL_law_28 : decode code 28 = .ok (.iaload, 1) := by decide +kernel
theorem dL_law_29 : decode code 29 = .ok (.bipush 31, 2) := by decide +kernel
theorem dL_law_31 : decode code 31 = .ok (.iand, 1) := by decide +kernel
theorem dL_law_32 : decode code 32 = .ok (.tableswitch 608 0 19 #[96, 119, 132, 145, 188, 211, 244, 287, 300, 333, 366, 379, 413, 457, 490, 513, 526, 539, 562, 585], 96) := by decide +kernel
theorem dL_law_128 : decode code 128 = .ok (.aload_n 1, 1) := by decide +kernel
theorem dL_law_129 : decode code 129 = .ok (.aload_n 0, 1) := by decide +kernel
theorem dL_law_130 : decode code 130 = .ok (.iload_n 3, 1) := by decide +kernel
theorem dL_law_131 : decode code 131 = .ok (.iconst 1, 1) := by decide +kernel
theorem dL_law_132 : decode code 132 = .ok (.iadd, 1) := by decide +kernel
theorem dL_law_133 : decode code 133 = .ok (.iaload, 1) := by decide +kernel
theorem dL_law_134 : decode code 134 = .ok (.invokevirtual 13, 3) := by decide +kernel
theorem dL_law_137 : decode code 137 = .ok (.aload_n 2, 1) := by decide +kernel
theorem dL_law_138 : decode code 138 = .ok (.aload_n 0, 1) := by decide +kernel
theorem dL_law_139 : decode code 139 = .ok (.iload_n 3, 1) := by decide +kernel
theorem dL_law_140 : decode code 140 = .ok (.iconst 1, 1) := by decide +kernel
theorem dL_law_141 : decode code 141 = .ok (.iadd, 1) := by decide +kernel
theorem dL_law_142 : decode code 142 = .ok (.iaload, 1) := by decide +kernel
theorem dL_law_143 : decode code 143 = .ok (.invokevirtual 17, 3) := by decide +kernel
theorem dL_law_146 : decode code 146 = .ok (.if_icmp .eq 494, 3) := by decide +kernel
theorem dL_law_149 : decode code 149 = .ok (.iconst 0, 1) := by decide +kernel
theorem dL_law_150 : decode code 150 = .ok (.ireturn, 1) := by decide +kernel
theorem dL_law_151 : decode code 151 = .ok (.aload_n 1, 1) := by decide +kernel
theorem dL_law_152 : decode code 152 = .ok (.invokevirtual 18, 3) := by decide +kernel
theorem dL_law_155 : decode code 155 = .ok (.aload_n 2, 1) := by decide +kernel
theorem dL_law_156 : decode code 156 = .ok (.invokevirtual 22, 3) := by decide +kernel
theorem dL_law_159 : decode code 159 = .ok (.if_icmp .eq 481, 3) := by decide +kernel
theorem dL_law_162 : decode code 162 = .ok (.iconst 0, 1) := by decide +kernel
theorem dL_law_163 : decode code 163 = .ok (.ireturn, 1) := by decide +kernel
theorem dL_law_164 : decode code 164 = .ok (.aload_n 1, 1) := by decide +kernel
theorem dL_law_165 : decode code 165 = .ok (.invokevirtual 23, 3) := by decide +kernel
theorem dL_law_168 : decode code 168 = .ok (.aload_n 2, 1) := by decide +kernel
theorem dL_law_169 : decode code 169 = .ok (.invokevirtual 26, 3) := by decide +kernel
theorem dL_law_172 : decode code 172 = .ok (.if_icmp .eq 468, 3) := by decide +kernel
theorem dL_law_175 : decode code 175 = .ok (.iconst 0, 1) := by decide +kernel
theorem dL_law_176 : decode code 176 = .ok (.ireturn, 1) := by decide +kernel
theorem dL_law_177 : decode code 177 = .ok (.aload_n 1, 1) := by decide +kernel
theorem dL_law_178 : decode code 178 = .ok (.aload_n 0, 1) := by decide +kernel
theorem dL_law_179 : decode code 179 = .ok (.iload_n 3, 1) := by decide +kernel
theorem dL_law_180 : decode code 180 = .ok (.iconst 1, 1) := by decide +kernel
theorem dL_law_181 : decode code 181 = .ok (.iadd, 1) := by decide +kernel
theorem dL_law_182 : decode code 182 = .ok (.iaload, 1) := by decide +kernel
theorem dL_law_183 : decode code 183 = .ok (.aload_n 0, 1) := by decide +kernel
theorem dL_law_184 : decode code 184 = .ok (.iload_n 3, 1) := by decide +kernel
theorem dL_law_185 : decode code 185 = .ok (.iconst 2, 1) := by decide +kernel
theorem dL_law_186 : decode code 186 = .ok (.iadd, 1) := by decide +kernel
theorem dL_law_187 : decode code 187 = .ok (.iaload, 1) := by decide +kernel
theorem dL_law_188 : decode code 188 = .ok (.aload_n 0, 1) := by decide +kernel
theorem dL_law_189 : decode code 189 = .ok (.iload_n 3, 1) := by decide +kernel
theorem dL_law_190 : decode code 190 = .ok (.iconst 3, 1) := by decide +kernel
theorem dL_law_191 : decode code 191 = .ok (.iadd, 1) := by decide +kernel
theorem dL_law_192 : decode code 192 = .ok (.iaload, 1) := by decide +kernel
theorem dL_law_193 : decode code 193 = .ok (.invokevirtual 27, 3) := by decide +kernel
theorem dL_law_196 : decode code 196 = .ok (.aload_n 2, 1) := by decide +kernel
theorem dL_law_197 : decode code 197 = .ok (.aload_n 0, 1) := by decide +kernel
theorem dL_law_198 : decode code 198 = .ok (.iload_n 3, 1) := by decide +kernel
theorem dL_law_199 : decode code 199 = .ok (.iconst 1, 1) := by decide +kernel
theorem dL_law_200 : decode code 200 = .ok (.iadd, 1) := by decide +kernel
theorem dL_law_201 : decode code 201 = .ok (.iaload, 1) := by decide +kernel
theorem dL_law_202 : decode code 202 = .ok (.aload_n 0, 1) := by decide +kernel
theorem dL_law_203 : decode code 203 = .ok (.iload_n 3, 1) := by decide +kernel
theorem dL_law_204 : decode code 204 = .ok (.iconst 2, 1) := by decide +kernel
theorem dL_law_205 : decode code 205 = .ok (.iadd, 1) := by decide +kernel
theorem dL_law_206 : decode code 206 = .ok (.iaload, 1) := by decide +kernel
theorem dL_law_207 : decode code 207 = .ok (.aload_n 0, 1) := by decide +kernel
theorem dL_law_208 : decode code 208 = .ok (.iload_n 3, 1) := by decide +kernel
theorem dL_law_209 : decode code 209 = .ok (.iconst 3, 1) := by decide +kernel
theorem dL_law_210 : decode code 210 = .ok (.iadd, 1) := by decide +kernel
theorem dL_law_211 : decode code 211 = .ok (.iaload, 1) := by decide +kernel
theorem dL_law_212 : decode code 212 = .ok (.invokevirtual 31, 3) := by decide +kernel
theorem dL_law_215 : decode code 215 = .ok (.if_icmp .eq 425, 3) := by decide +kernel
theorem dL_law_218 : decode code 218 = .ok (.iconst 0, 1) := by decide +kernel
theorem dL_law_219 : decode code 219 = .ok (.ireturn, 1) := by decide +kernel
theorem dL_law_220 : decode code 220 = .ok (.aload_n 1, 1) := by decide +kernel
theorem dL_law_221 : decode code 221 = .ok (.aload_n 0, 1) := by decide +kernel
theorem dL_law_222 : decode code 222 = .ok (.iload_n 3, 1) := by decide +kernel
theorem dL_law_223 : decode code 223 = .ok (.iconst 1, 1) := by decide +kernel
theorem dL_law_224 : decode code 224 = .ok (.iadd, 1) := by decide +kernel
theorem dL_law_225 : decode code 225 = .ok (.iaload, 1) := by decide +kernel
theorem dL_law_226 : decode code 226 = .ok (.invokevirtual 32, 3) := by decide +kernel
theorem dL_law_229 : decode code 229 = .ok (.aload_n 2, 1) := by decide +kernel
theorem dL_law_230 : decode code 230 = .ok (.aload_n 0, 1) := by decide +kernel
theorem dL_law_231 : decode code 231 = .ok (.iload_n 3, 1) := by decide +kernel
theorem dL_law_232 : decode code 232 = .ok (.iconst 1, 1) := by decide +kernel
theorem dL_law_233 : decode code 233 = .ok (.iadd, 1) := by decide +kernel
theorem dL_law_234 : decode code 234 = .ok (.iaload, 1) := by decide +kernel
theorem dL_law_235 : decode code 235 = .ok (.invokevirtual 35, 3) := by decide +kernel
theorem dL_law_238 : decode code 238 = .ok (.if_icmp .eq 402, 3) := by decide +kernel
theorem dL_law_241 : decode code 241 = .ok (.iconst 0, 1) := by decide +kernel
theorem dL_law_242 : decode code 242 = .ok (.ireturn, 1) := by decide +kernel
theorem dL_law_243 : decode code 243 = .ok (.aload_n 1, 1) := by decide +kernel
theorem dL_law_244 : decode code 244 = .ok (.aload_n 0, 1) := by decide +kernel
theorem dL_law_245 : decode code 245 = .ok (.iload_n 3, 1) := by decide +kernel
theorem dL_law_246 : decode code 246 = .ok (.iconst 1, 1) := by decide +kernel
theorem dL_law_247 : decode code 247 = .ok (.iadd, 1) := by decide +kernel
theorem dL_law_248 : decode code 248 = .ok (.iaload, 1) := by decide +kernel
theorem dL_law_249 : decode code 249 = .ok (.aload_n 0, 1) := by decide +kernel
theorem dL_law_250 : decode code 250 = .ok (.iload_n 3, 1) := by decide +kernel
theorem dL_law_251 : decode code 251 = .ok (.iconst 2, 1) := by decide +kernel
theorem dL_law_252 : decode code 252 = .ok (.iadd, 1) := by decide +kernel
theorem dL_law_253 : decode code 253 = .ok (.iaload, 1) := by decide +kernel
theorem dL_law_254 : decode code 254 = .ok (.invokevirtual 36, 3) := by decide +kernel
theorem dL_law_257 : decode code 257 = .ok (.aload_n 2, 1) := by decide +kernel
theorem dL_law_258 : decode code 258 = .ok (.aload_n 0, 1) := by decide +kernel
theorem dL_law_259 : decode code 259 = .ok (.iload_n 3, 1) := by decide +kernel
theorem dL_law_260 : decode code 260 = .ok (.iconst 1, 1) := by decide +kernel
theorem dL_law_261 : decode code 261 = .ok (.iadd, 1) := by decide +kernel
theorem dL_law_262 : decode code 262 = .ok (.iaload, 1) := by decide +kernel
theorem dL_law_263 : decode code 263 = .ok (.aload_n 0, 1) := by decide +kernel
theorem dL_law_264 : decode code 264 = .ok (.iload_n 3, 1) := by decide +kernel
theorem dL_law_265 : decode code 265 = .ok (.iconst 2, 1) := by decide +kernel
theorem dL_law_266 : decode code 266 = .ok (.iadd, 1) := by decide +kernel
theorem dL_law_267 : decode code 267 = .ok (.iaload, 1) := by decide +kernel
theorem dL_law_268 : decode code 268 = .ok (.invokevirtual 40, 3) := by decide +kernel
theorem dL_law_271 : decode code 271 = .ok (.if_icmp .eq 369, 3) := by decide +kernel
theorem dL_law_274 : decode code 274 = .ok (.iconst 0, 1) := by decide +kernel
theorem dL_law_275 : decode code 275 = .ok (.ireturn, 1) := by decide +kernel
theorem dL_law_276 : decode code 276 = .ok (.aload_n 1, 1) := by decide +kernel
theorem dL_law_277 : decode code 277 = .ok (.aload_n 0, 1) := by decide +kernel
theorem dL_law_278 : decode code 278 = .ok (.iload_n 3, 1) := by decide +kernel
theorem dL_law_279 : decode code 279 = .ok (.iconst 1, 1) := by decide +kernel
theorem dL_law_280 : decode code 280 = .ok (.iadd, 1) := by decide +kernel
theorem dL_law_281 : decode code 281 = .ok (.iaload, 1) := by decide +kernel
theorem dL_law_282 : decode code 282 = .ok (.aload_n 0, 1) := by decide +kernel
theorem dL_law_283 : decode code 283 = .ok (.iload_n 3, 1) := by decide +kernel
theorem dL_law_284 : decode code 284 = .ok (.iconst 2, 1) := by decide +kernel
theorem dL_law_285 : decode code 285 = .ok (.iadd, 1) := by decide +kernel
theorem dL_law_286 : decode code 286 = .ok (.iaload, 1) := by decide +kernel
theorem dL_law_287 : decode code 287 = .ok (.aload_n 0, 1) := by decide +kernel
theorem dL_law_288 : decode code 288 = .ok (.iload_n 3, 1) := by decide +kernel
theorem dL_law_289 : decode code 289 = .ok (.iconst 3, 1) := by decide +kernel
theorem dL_law_290 : decode code 290 = .ok (.iadd, 1) := by decide +kernel
theorem dL_law_291 : decode code 291 = .ok (.iaload, 1) := by decide +kernel
theorem dL_law_292 : decode code 292 = .ok (.invokevirtual 41, 3) := by decide +kernel
theorem dL_law_295 : decode code 295 = .ok (.aload_n 2, 1) := by decide +kernel
theorem dL_law_296 : decode code 296 = .ok (.aload_n 0, 1) := by decide +kernel
theorem dL_law_297 : decode code 297 = .ok (.iload_n 3, 1) := by decide +kernel
theorem dL_law_298 : decode code 298 = .ok (.iconst 1, 1) := by decide +kernel
theorem dL_law_299 : decode code 299 = .ok (.iadd, 1) := by decide +kernel
theorem dL_law_300 : decode code 300 = .ok (.iaload, 1) := by decide +kernel
theorem dL_law_301 : decode code 301 = .ok (.aload_n 0, 1) := by decide +kernel
theorem dL_law_302 : decode code 302 = .ok (.iload_n 3, 1) := by decide +kernel
theorem dL_law_303 : decode code 303 = .ok (.iconst 2, 1) := by decide +kernel
theorem dL_law_304 : decode code 304 = .ok (.iadd, 1) := by decide +kernel
theorem dL_law_305 : decode code 305 = .ok (.iaload, 1) := by decide +kernel
theorem dL_law_306 : decode code 306 = .ok (.aload_n 0, 1) := by decide +kernel
theorem dL_law_307 : decode code 307 = .ok (.iload_n 3, 1) := by decide +kernel
theorem dL_law_308 : decode code 308 = .ok (.iconst 3, 1) := by decide +kernel
theorem dL_law_309 : decode code 309 = .ok (.iadd, 1) := by decide +kernel
theorem dL_law_310 : decode code 310 = .ok (.iaload, 1) := by decide +kernel
theorem dL_law_311 : decode code 311 = .ok (.invokevirtual 44, 3) := by decide +kernel
theorem dL_law_314 : decode code 314 = .ok (.if_icmp .eq 326, 3) := by decide +kernel
theorem dL_law_317 : decode code 317 = .ok (.iconst 0, 1) := by decide +kernel
theorem dL_law_318 : decode code 318 = .ok (.ireturn, 1) := by decide +kernel
theorem dL_law_319 : decode code 319 = .ok (.aload_n 1, 1) := by decide +kernel
theorem dL_law_320 : decode code 320 = .ok (.invokevirtual 45, 3) := by decide +kernel
theorem dL_law_323 : decode code 323 = .ok (.aload_n 2, 1) := by decide +kernel
theorem dL_law_324 : decode code 324 = .ok (.invokevirtual 48, 3) := by decide +kernel
theorem dL_law_327 : decode code 327 = .ok (.if_icmp .eq 313, 3) := by decide +kernel
theorem dL_law_330 : decode code 330 = .ok (.iconst 0, 1) := by decide +kernel
theorem dL_law_331 : decode code 331 = .ok (.ireturn, 1) := by decide +kernel
theorem dL_law_332 : decode code 332 = .ok (.aload_n 1, 1) := by decide +kernel
theorem dL_law_333 : decode code 333 = .ok (.aload_n 0, 1) := by decide +kernel
theorem dL_law_334 : decode code 334 = .ok (.iload_n 3, 1) := by decide +kernel
theorem dL_law_335 : decode code 335 = .ok (.iconst 1, 1) := by decide +kernel
theorem dL_law_336 : decode code 336 = .ok (.iadd, 1) := by decide +kernel
theorem dL_law_337 : decode code 337 = .ok (.iaload, 1) := by decide +kernel
theorem dL_law_338 : decode code 338 = .ok (.aload_n 0, 1) := by decide +kernel
theorem dL_law_339 : decode code 339 = .ok (.iload_n 3, 1) := by decide +kernel
theorem dL_law_340 : decode code 340 = .ok (.iconst 2, 1) := by decide +kernel
theorem dL_law_341 : decode code 341 = .ok (.iadd, 1) := by decide +kernel
theorem dL_law_342 : decode code 342 = .ok (.iaload, 1) := by decide +kernel
theorem dL_law_343 : decode code 343 = .ok (.invokevirtual 49, 3) := by decide +kernel
theorem dL_law_346 : decode code 346 = .ok (.aload_n 2, 1) := by decide +kernel
theorem dL_law_347 : decode code 347 = .ok (.aload_n 0, 1) := by decide +kernel
theorem dL_law_348 : decode code 348 = .ok (.iload_n 3, 1) := by decide +kernel
theorem dL_law_349 : decode code 349 = .ok (.iconst 1, 1) := by decide +kernel
theorem dL_law_350 : decode code 350 = .ok (.iadd, 1) := by decide +kernel
theorem dL_law_351 : decode code 351 = .ok (.iaload, 1) := by decide +kernel
theorem dL_law_352 : decode code 352 = .ok (.aload_n 0, 1) := by decide +kernel
theorem dL_law_353 : decode code 353 = .ok (.iload_n 3, 1) := by decide +kernel
theorem dL_law_354 : decode code 354 = .ok (.iconst 2, 1) := by decide +kernel
theorem dL_law_355 : decode code 355 = .ok (.iadd, 1) := by decide +kernel
theorem dL_law_356 : decode code 356 = .ok (.iaload, 1) := by decide +kernel
theorem dL_law_357 : decode code 357 = .ok (.invokevirtual 52, 3) := by decide +kernel
theorem dL_law_360 : decode code 360 = .ok (.if_icmp .eq 280, 3) := by decide +kernel
theorem dL_law_363 : decode code 363 = .ok (.iconst 0, 1) := by decide +kernel
theorem dL_law_364 : decode code 364 = .ok (.ireturn, 1) := by decide +kernel
theorem dL_law_365 : decode code 365 = .ok (.aload_n 1, 1) := by decide +kernel
theorem dL_law_366 : decode code 366 = .ok (.aload_n 0, 1) := by decide +kernel
theorem dL_law_367 : decode code 367 = .ok (.iload_n 3, 1) := by decide +kernel
theorem dL_law_368 : decode code 368 = .ok (.iconst 1, 1) := by decide +kernel
theorem dL_law_369 : decode code 369 = .ok (.iadd, 1) := by decide +kernel
theorem dL_law_370 : decode code 370 = .ok (.iaload, 1) := by decide +kernel
theorem dL_law_371 : decode code 371 = .ok (.aload_n 0, 1) := by decide +kernel
theorem dL_law_372 : decode code 372 = .ok (.iload_n 3, 1) := by decide +kernel
theorem dL_law_373 : decode code 373 = .ok (.iconst 2, 1) := by decide +kernel
theorem dL_law_374 : decode code 374 = .ok (.iadd, 1) := by decide +kernel
theorem dL_law_375 : decode code 375 = .ok (.iaload, 1) := by decide +kernel
theorem dL_law_376 : decode code 376 = .ok (.invokevirtual 53, 3) := by decide +kernel
theorem dL_law_379 : decode code 379 = .ok (.aload_n 2, 1) := by decide +kernel
theorem dL_law_380 : decode code 380 = .ok (.aload_n 0, 1) := by decide +kernel
theorem dL_law_381 : decode code 381 = .ok (.iload_n 3, 1) := by decide +kernel
theorem dL_law_382 : decode code 382 = .ok (.iconst 1, 1) := by decide +kernel
theorem dL_law_383 : decode code 383 = .ok (.iadd, 1) := by decide +kernel
theorem dL_law_384 : decode code 384 = .ok (.iaload, 1) := by decide +kernel
theorem dL_law_385 : decode code 385 = .ok (.aload_n 0, 1) := by decide +kernel
theorem dL_law_386 : decode code 386 = .ok (.iload_n 3, 1) := by decide +kernel
theorem dL_law_387 : decode code 387 = .ok (.iconst 2, 1) := by decide +kernel
theorem dL_law_388 : decode code 388 = .ok (.iadd, 1) := by decide +kernel
theorem dL_law_389 : decode code 389 = .ok (.iaload, 1) := by decide +kernel
theorem dL_law_390 : decode code 390 = .ok (.invokevirtual 56, 3) := by decide +kernel
theorem dL_law_393 : decode code 393 = .ok (.if_icmp .eq 247, 3) := by decide +kernel
theorem dL_law_396 : decode code 396 = .ok (.iconst 0, 1) := by decide +kernel
theorem dL_law_397 : decode code 397 = .ok (.ireturn, 1) := by decide +kernel
theorem dL_law_398 : decode code 398 = .ok (.aload_n 1, 1) := by decide +kernel
theorem dL_law_399 : decode code 399 = .ok (.invokevirtual 57, 3) := by decide +kernel
theorem dL_law_402 : decode code 402 = .ok (.aload_n 2, 1) := by decide +kernel
theorem dL_law_403 : decode code 403 = .ok (.invokevirtual 60, 3) := by decide +kernel
theorem dL_law_406 : decode code 406 = .ok (.if_icmp .eq 234, 3) := by decide +kernel
theorem dL_law_409 : decode code 409 = .ok (.iconst 0, 1) := by decide +kernel
theorem dL_law_410 : decode code 410 = .ok (.ireturn, 1) := by decide +kernel
theorem dL_law_411 : decode code 411 = .ok (.aload_n 1, 1) := by decide +kernel
theorem dL_law_412 : decode code 412 = .ok (.aload_n 0, 1) := by decide +kernel
theorem dL_law_413 : decode code 413 = .ok (.iload_n 3, 1) := by decide +kernel
theorem dL_law_414 : decode code 414 = .ok (.iconst 1, 1) := by decide +kernel
theorem dL_law_415 : decode code 415 = .ok (.iadd, 1) := by decide +kernel
theorem dL_law_416 : decode code 416 = .ok (.iaload, 1) := by decide +kernel
theorem dL_law_417 : decode code 417 = .ok (.aload_n 0, 1) := by decide +kernel
theorem dL_law_418 : decode code 418 = .ok (.iload_n 3, 1) := by decide +kernel
theorem dL_law_419 : decode code 419 = .ok (.iconst 2, 1) := by decide +kernel
theorem dL_law_420 : decode code 420 = .ok (.iadd, 1) := by decide +kernel
theorem dL_law_421 : decode code 421 = .ok (.iaload, 1) := by decide +kernel
theorem dL_law_422 : decode code 422 = .ok (.invokevirtual 61, 3) := by decide +kernel
theorem dL_law_425 : decode code 425 = .ok (.aload_n 2, 1) := by decide +kernel
theorem dL_law_426 : decode code 426 = .ok (.aload_n 0, 1) := by decide +kernel
theorem dL_law_427 : decode code 427 = .ok (.iload_n 3, 1) := by decide +kernel
theorem dL_law_428 : decode code 428 = .ok (.iconst 1, 1) := by decide +kernel
theorem dL_law_429 : decode code 429 = .ok (.iadd, 1) := by decide +kernel
theorem dL_law_430 : decode code 430 = .ok (.iaload, 1) := by decide +kernel
theorem dL_law_431 : decode code 431 = .ok (.aload_n 0, 1) := by decide +kernel
theorem dL_law_432 : decode code 432 = .ok (.iload_n 3, 1) := by decide +kernel
theorem dL_law_433 : decode code 433 = .ok (.iconst 2, 1) := by decide +kernel
theorem dL_law_434 : decode code 434 = .ok (.iadd, 1) := by decide +kernel
theorem dL_law_435 : decode code 435 = .ok (.iaload, 1) := by decide +kernel
theorem dL_law_436 : decode code 436 = .ok (.invokevirtual 65, 3) := by decide +kernel
theorem dL_law_439 : decode code 439 = .ok (.lcmp, 1) := by decide +kernel
theorem dL_law_440 : decode code 440 = .ok (.ifCond .eq 200, 3) := by decide +kernel
theorem dL_law_443 : decode code 443 = .ok (.iconst 0, 1) := by decide +kernel
theorem dL_law_444 : decode code 444 = .ok (.ireturn, 1) := by decide +kernel
theorem dL_law_445 : decode code 445 = .ok (.aload_n 1, 1) := by decide +kernel
theorem dL_law_446 : decode code 446 = .ok (.aload_n 0, 1) := by decide +kernel
theorem dL_law_447 : decode code 447 = .ok (.iload_n 3, 1) := by decide +kernel
theorem dL_law_448 : decode code 448 = .ok (.iconst 1, 1) := by decide +kernel
theorem dL_law_449 : decode code 449 = .ok (.iadd, 1) := by decide +kernel
theorem dL_law_450 : decode code 450 = .ok (.iaload, 1) := by decide +kernel
theorem dL_law_451 : decode code 451 = .ok (.aload_n 0, 1) := by decide +kernel
theorem dL_law_452 : decode code 452 = .ok (.iload_n 3, 1) := by decide +kernel
theorem dL_law_453 : decode code 453 = .ok (.iconst 2, 1) := by decide +kernel
theorem dL_law_454 : decode code 454 = .ok (.iadd, 1) := by decide +kernel
theorem dL_law_455 : decode code 455 = .ok (.iaload, 1) := by decide +kernel
theorem dL_law_456 : decode code 456 = .ok (.aload_n 0, 1) := by decide +kernel
theorem dL_law_457 : decode code 457 = .ok (.iload_n 3, 1) := by decide +kernel
theorem dL_law_458 : decode code 458 = .ok (.iconst 3, 1) := by decide +kernel
theorem dL_law_459 : decode code 459 = .ok (.iadd, 1) := by decide +kernel
theorem dL_law_460 : decode code 460 = .ok (.iaload, 1) := by decide +kernel
theorem dL_law_461 : decode code 461 = .ok (.invokevirtual 66, 3) := by decide +kernel
theorem dL_law_464 : decode code 464 = .ok (.aload_n 2, 1) := by decide +kernel
theorem dL_law_465 : decode code 465 = .ok (.aload_n 0, 1) := by decide +kernel
theorem dL_law_466 : decode code 466 = .ok (.iload_n 3, 1) := by decide +kernel
theorem dL_law_467 : decode code 467 = .ok (.iconst 1, 1) := by decide +kernel
theorem dL_law_468 : decode code 468 = .ok (.iadd, 1) := by decide +kernel
theorem dL_law_469 : decode code 469 = .ok (.iaload, 1) := by decide +kernel
theorem dL_law_470 : decode code 470 = .ok (.aload_n 0, 1) := by decide +kernel
theorem dL_law_471 : decode code 471 = .ok (.iload_n 3, 1) := by decide +kernel
theorem dL_law_472 : decode code 472 = .ok (.iconst 2, 1) := by decide +kernel
theorem dL_law_473 : decode code 473 = .ok (.iadd, 1) := by decide +kernel
theorem dL_law_474 : decode code 474 = .ok (.iaload, 1) := by decide +kernel
theorem dL_law_475 : decode code 475 = .ok (.aload_n 0, 1) := by decide +kernel
theorem dL_law_476 : decode code 476 = .ok (.iload_n 3, 1) := by decide +kernel
theorem dL_law_477 : decode code 477 = .ok (.iconst 3, 1) := by decide +kernel
theorem dL_law_478 : decode code 478 = .ok (.iadd, 1) := by decide +kernel
theorem dL_law_479 : decode code 479 = .ok (.iaload, 1) := by decide +kernel
theorem dL_law_480 : decode code 480 = .ok (.invokevirtual 70, 3) := by decide +kernel
theorem dL_law_483 : decode code 483 = .ok (.lcmp, 1) := by decide +kernel
theorem dL_law_484 : decode code 484 = .ok (.ifCond .eq 156, 3) := by decide +kernel
theorem dL_law_487 : decode code 487 = .ok (.iconst 0, 1) := by decide +kernel
theorem dL_law_488 : decode code 488 = .ok (.ireturn, 1) := by decide +kernel
theorem dL_law_489 : decode code 489 = .ok (.aload_n 1, 1) := by decide +kernel
theorem dL_law_490 : decode code 490 = .ok (.aload_n 0, 1) := by decide +kernel
theorem dL_law_491 : decode code 491 = .ok (.iload_n 3, 1) := by decide +kernel
theorem dL_law_492 : decode code 492 = .ok (.iconst 1, 1) := by decide +kernel
theorem dL_law_493 : decode code 493 = .ok (.iadd, 1) := by decide +kernel
theorem dL_law_494 : decode code 494 = .ok (.iaload, 1) := by decide +kernel
theorem dL_law_495 : decode code 495 = .ok (.aload_n 0, 1) := by decide +kernel
theorem dL_law_496 : decode code 496 = .ok (.iload_n 3, 1) := by decide +kernel
theorem dL_law_497 : decode code 497 = .ok (.iconst 2, 1) := by decide +kernel
theorem dL_law_498 : decode code 498 = .ok (.iadd, 1) := by decide +kernel
theorem dL_law_499 : decode code 499 = .ok (.iaload, 1) := by decide +kernel
theorem dL_law_500 : decode code 500 = .ok (.invokevirtual 71, 3) := by decide +kernel
theorem dL_law_503 : decode code 503 = .ok (.aload_n 2, 1) := by decide +kernel
theorem dL_law_504 : decode code 504 = .ok (.aload_n 0, 1) := by decide +kernel
theorem dL_law_505 : decode code 505 = .ok (.iload_n 3, 1) := by decide +kernel
theorem dL_law_506 : decode code 506 = .ok (.iconst 1, 1) := by decide +kernel
theorem dL_law_507 : decode code 507 = .ok (.iadd, 1) := by decide +kernel
theorem dL_law_508 : decode code 508 = .ok (.iaload, 1) := by decide +kernel
theorem dL_law_509 : decode code 509 = .ok (.aload_n 0, 1) := by decide +kernel
theorem dL_law_510 : decode code 510 = .ok (.iload_n 3, 1) := by decide +kernel
theorem dL_law_511 : decode code 511 = .ok (.iconst 2, 1) := by decide +kernel
theorem dL_law_512 : decode code 512 = .ok (.iadd, 1) := by decide +kernel
theorem dL_law_513 : decode code 513 = .ok (.iaload, 1) := by decide +kernel
theorem dL_law_514 : decode code 514 = .ok (.invokevirtual 74, 3) := by decide +kernel
theorem dL_law_517 : decode code 517 = .ok (.if_icmp .eq 123, 3) := by decide +kernel
theorem dL_law_520 : decode code 520 = .ok (.iconst 0, 1) := by decide +kernel
theorem dL_law_521 : decode code 521 = .ok (.ireturn, 1) := by decide +kernel
theorem dL_law_522 : decode code 522 = .ok (.aload_n 1, 1) := by decide +kernel
theorem dL_law_523 : decode code 523 = .ok (.aload_n 0, 1) := by decide +kernel
theorem dL_law_524 : decode code 524 = .ok (.iload_n 3, 1) := by decide +kernel
theorem dL_law_525 : decode code 525 = .ok (.iconst 1, 1) := by decide +kernel
theorem dL_law_526 : decode code 526 = .ok (.iadd, 1) := by decide +kernel
theorem dL_law_527 : decode code 527 = .ok (.iaload, 1) := by decide +kernel
theorem dL_law_528 : decode code 528 = .ok (.invokevirtual 75, 3) := by decide +kernel
theorem dL_law_531 : decode code 531 = .ok (.aload_n 2, 1) := by decide +kernel
theorem dL_law_532 : decode code 532 = .ok (.aload_n 0, 1) := by decide +kernel
theorem dL_law_533 : decode code 533 = .ok (.iload_n 3, 1) := by decide +kernel
theorem dL_law_534 : decode code 534 = .ok (.iconst 1, 1) := by decide +kernel
theorem dL_law_535 : decode code 535 = .ok (.iadd, 1) := by decide +kernel
theorem dL_law_536 : decode code 536 = .ok (.iaload, 1) := by decide +kernel
theorem dL_law_537 : decode code 537 = .ok (.invokevirtual 78, 3) := by decide +kernel
theorem dL_law_540 : decode code 540 = .ok (.if_icmp .eq 100, 3) := by decide +kernel
theorem dL_law_543 : decode code 543 = .ok (.iconst 0, 1) := by decide +kernel
theorem dL_law_544 : decode code 544 = .ok (.ireturn, 1) := by decide +kernel
theorem dL_law_545 : decode code 545 = .ok (.aload_n 1, 1) := by decide +kernel
theorem dL_law_546 : decode code 546 = .ok (.invokevirtual 79, 3) := by decide +kernel
theorem dL_law_549 : decode code 549 = .ok (.aload_n 2, 1) := by decide +kernel
theorem dL_law_550 : decode code 550 = .ok (.invokevirtual 82, 3) := by decide +kernel
theorem dL_law_553 : decode code 553 = .ok (.if_icmp .eq 87, 3) := by decide +kernel
theorem dL_law_556 : decode code 556 = .ok (.iconst 0, 1) := by decide +kernel
theorem dL_law_557 : decode code 557 = .ok (.ireturn, 1) := by decide +kernel
theorem dL_law_558 : decode code 558 = .ok (.aload_n 1, 1) := by decide +kernel
theorem dL_law_559 : decode code 559 = .ok (.invokevirtual 83, 3) := by decide +kernel
theorem dL_law_562 : decode code 562 = .ok (.aload_n 2, 1) := by decide +kernel
theorem dL_law_563 : decode code 563 = .ok (.invokevirtual 86, 3) := by decide +kernel
theorem dL_law_566 : decode code 566 = .ok (.if_icmp .eq 74, 3) := by decide +kernel
theorem dL_law_569 : decode code 569 = .ok (.iconst 0, 1) := by decide +kernel
theorem dL_law_570 : decode code 570 = .ok (.ireturn, 1) := by decide +kernel
theorem dL_law_571 : decode code 571 = .ok (.aload_n 1, 1) := by decide +kernel
theorem dL_law_572 : decode code 572 = .ok (.aload_n 0, 1) := by decide +kernel
theorem dL_law_573 : decode code 573 = .ok (.iload_n 3, 1) := by decide +kernel
theorem dL_law_574 : decode code 574 = .ok (.iconst 1, 1) := by decide +kernel
theorem dL_law_575 : decode code 575 = .ok (.iadd, 1) := by decide +kernel
theorem dL_law_576 : decode code 576 = .ok (.iaload, 1) := by decide +kernel
theorem dL_law_577 : decode code 577 = .ok (.invokevirtual 87, 3) := by decide +kernel
theorem dL_law_580 : decode code 580 = .ok (.aload_n 2, 1) := by decide +kernel
theorem dL_law_581 : decode code 581 = .ok (.aload_n 0, 1) := by decide +kernel
theorem dL_law_582 : decode code 582 = .ok (.iload_n 3, 1) := by decide +kernel
theorem dL_law_583 : decode code 583 = .ok (.iconst 1, 1) := by decide +kernel
theorem dL_law_584 : decode code 584 = .ok (.iadd, 1) := by decide +kernel
theorem dL_law_585 : decode code 585 = .ok (.iaload, 1) := by decide +kernel
theorem dL_law_586 : decode code 586 = .ok (.invokevirtual 90, 3) := by decide +kernel
theorem dL_law_589 : decode code 589 = .ok (.if_icmp .eq 51, 3) := by decide +kernel
theorem dL_law_592 : decode code 592 = .ok (.iconst 0, 1) := by decide +kernel
theorem dL_law_593 : decode code 593 = .ok (.ireturn, 1) := by decide +kernel
theorem dL_law_594 : decode code 594 = .ok (.aload_n 1, 1) := by decide +kernel
theorem dL_law_595 : decode code 595 = .ok (.aload_n 0, 1) := by decide +kernel
theorem dL_law_596 : decode code 596 = .ok (.iload_n 3, 1) := by decide +kernel
theorem dL_law_597 : decode code 597 = .ok (.iconst 1, 1) := by decide +kernel
theorem dL_law_598 : decode code 598 = .ok (.iadd, 1) := by decide +kernel
theorem dL_law_599 : decode code 599 = .ok (.iaload, 1) := by decide +kernel
theorem dL_law_600 : decode code 600 = .ok (.invokevirtual 91, 3) := by decide +kernel
theorem dL_law_603 : decode code 603 = .ok (.aload_n 2, 1) := by decide +kernel
theorem dL_law_604 : decode code 604 = .ok (.aload_n 0, 1) := by decide +kernel
theorem dL_law_605 : decode code 605 = .ok (.iload_n 3, 1) := by decide +kernel
theorem dL_law_606 : decode code 606 = .ok (.iconst 1, 1) := by decide +kernel
theorem dL_law_607 : decode code 607 = .ok (.iadd, 1) := by decide +kernel
theorem dL_law_608 : decode code 608 = .ok (.iaload, 1) := by decide +kernel
theorem dL_law_609 : decode code 609 = .ok (.invokevirtual 94, 3) := by decide +kernel
theorem dL_law_612 : decode code 612 = .ok (.if_icmp .eq 28, 3) := by decide +kernel
theorem dL_law_615 : decode code 615 = .ok (.iconst 0, 1) := by decide +kernel
theorem dL_law_616 : decode code 616 = .ok (.ireturn, 1) := by decide +kernel
theorem dL_law_617 : decode code 617 = .ok (.aload_n 1, 1) := by decide +kernel
theorem dL_law_618 : decode code 618 = .ok (.aload_n 0, 1) := by decide +kernel
theorem dL_law_619 : decode code 619 = .ok (.iload_n 3, 1) := by decide +kernel
theorem dL_law_620 : decode code 620 = .ok (.iconst 1, 1) := by decide +kernel
theorem dL_law_621 : decode code 621 = .ok (.iadd, 1) := by decide +kernel
theorem dL_law_622 : decode code 622 = .ok (.iaload, 1) := by decide +kernel
theorem dL_law_623 : decode code 623 = .ok (.invokevirtual 95, 3) := by decide +kernel
theorem dL_law_626 : decode code 626 = .ok (.aload_n 2, 1) := by decide +kernel
theorem dL_law_627 : decode code 627 = .ok (.aload_n 0, 1) := by decide +kernel
theorem dL_law_628 : decode code 628 = .ok (.iload_n 3, 1) := by decide +kernel
theorem dL_law_629 : decode code 629 = .ok (.iconst 1, 1) := by decide +kernel
theorem dL_law_630 : decode code 630 = .ok (.iadd, 1) := by decide +kernel
theorem dL_law_631 : decode code 631 = .ok (.iaload, 1) := by decide +kernel
theorem dL_law_632 : decode code 632 = .ok (.invokevirtual 98, 3) := by decide +kernel
theorem dL_law_635 : decode code 635 = .ok (.if_icmp .eq 5, 3) := by decide +kernel
theorem dL_law_638 : decode code 638 = .ok (.iconst 0, 1) := by decide +kernel
theorem dL_law_639 : decode code 639 = .ok (.ireturn, 1) := by decide +kernel
theorem dL_law_640 : decode code 640 = .ok (.iinc 3 4, 3) := by decide +kernel
theorem dL_law_643 : decode code 643 = .ok (.goto (-625), 3) := by decide +kernel
theorem dL_law_646 : decode code 646 = .ok (.iconst 1, 1) := by decide +kernel
theorem dL_law_647 : decode code 647 = .ok (.ireturn, 1) := by decide +kernel
