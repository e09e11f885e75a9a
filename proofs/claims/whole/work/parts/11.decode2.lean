theorem dX1_find_35 : decode M_X1_find.2.1 35 = .ok (.invokevirtual 55, 3) := by decide +kernel
theorem dX1_find_38 : decode M_X1_find.2.1 38 = .ok (.iastore, 1) := by decide +kernel
theorem dX1_find_39 : decode M_X1_find.2.1 39 = .ok (.aload_n 0, 1) := by decide +kernel
theorem dX1_find_40 : decode M_X1_find.2.1 40 = .ok (.getfield 15, 3) := by decide +kernel
theorem dX1_find_43 : decode M_X1_find.2.1 43 = .ok (.iload_n 2, 1) := by decide +kernel
theorem dX1_find_44 : decode M_X1_find.2.1 44 = .ok (.aload_n 0, 1) := by decide +kernel
theorem dX1_find_45 : decode M_X1_find.2.1 45 = .ok (.getfield 9, 3) := by decide +kernel
theorem dX1_find_48 : decode M_X1_find.2.1 48 = .ok (.iload_n 2, 1) := by decide +kernel
theorem dX1_find_49 : decode M_X1_find.2.1 49 = .ok (.iaload, 1) := by decide +kernel
theorem dX1_find_50 : decode M_X1_find.2.1 50 = .ok (.iconst 2, 1) := by decide +kernel
theorem dX1_find_51 : decode M_X1_find.2.1 51 = .ok (.aload_n 1, 1) := by decide +kernel
theorem dX1_find_52 : decode M_X1_find.2.1 52 = .ok (.iload_n 2, 1) := by decide +kernel
theorem dX1_find_53 : decode M_X1_find.2.1 53 = .ok (.iconst 1, 1) := by decide +kernel
theorem dX1_find_54 : decode M_X1_find.2.1 54 = .ok (.invokevirtual 55, 3) := by decide +kernel
theorem dX1_find_57 : decode M_X1_find.2.1 57 = .ok (.imul, 1) := by decide +kernel
theorem dX1_find_58 : decode M_X1_find.2.1 58 = .ok (.iadd, 1) := by decide +kernel
theorem dX1_find_59 : decode M_X1_find.2.1 59 = .ok (.iastore, 1) := by decide +kernel
theorem dX1_find_60 : decode M_X1_find.2.1 60 = .ok (.aload_n 0, 1) := by decide +kernel
theorem dX1_find_61 : decode M_X1_find.2.1 61 = .ok (.getfield 24, 3) := by decide +kernel
theorem dX1_find_64 : decode M_X1_find.2.1 64 = .ok (.iload_n 2, 1) := by decide +kernel
theorem dX1_find_65 : decode M_X1_find.2.1 65 = .ok (.iconst 0, 1) := by decide +kernel
theorem dX1_find_66 : decode M_X1_find.2.1 66 = .ok (.iastore, 1) := by decide +kernel
theorem dX1_find_67 : decode M_X1_find.2.1 67 = .ok (.aload_n 0, 1) := by decide +kernel
theorem dX1_find_68 : decode M_X1_find.2.1 68 = .ok (.iload_n 2, 1) := by decide +kernel
theorem dX1_find_69 : decode M_X1_find.2.1 69 = .ok (.invokevirtual 58, 3) := by decide +kernel
theorem dX1_find_72 : decode M_X1_find.2.1 72 = .ok (.aload_n 0, 1) := by decide +kernel
theorem dX1_find_73 : decode M_X1_find.2.1 73 = .ok (.iload_n 2, 1) := by decide +kernel
theorem dX1_find_74 : decode M_X1_find.2.1 74 = .ok (.invokevirtual 62, 3) := by decide +kernel
theorem dX1_find_77 : decode M_X1_find.2.1 77 = .ok (.aload_n 0, 1) := by decide +kernel
theorem dX1_find_78 : decode M_X1_find.2.1 78 = .ok (.iload_n 2, 1) := by decide +kernel
theorem dX1_find_79 : decode M_X1_find.2.1 79 = .ok (.invokevirtual 65, 3) := by decide +kernel
theorem dX1_find_82 : decode M_X1_find.2.1 82 = .ok (.iinc 2 1, 3) := by decide +kernel
theorem dX1_find_85 : decode M_X1_find.2.1 85 = .ok (.goto (-66), 3) := by decide +kernel
theorem dX1_find_88 : decode M_X1_find.2.1 88 = .ok (.return_, 1) := by decide +kernel
theorem dX1_findLevel_0 : decode M_X1_findLevel.2.1 0 = .ok (.iconst 0, 1) := by decide +kernel
theorem dX1_findLevel_1 : decode M_X1_findLevel.2.1 1 = .ok (.istore_n 2, 1) := by decide +kernel
theorem dX1_findLevel_2 : decode M_X1_findLevel.2.1 2 = .ok (.iconst 0, 1) := by decide +kernel
theorem dX1_findLevel_3 : decode M_X1_findLevel.2.1 3 = .ok (.istore_n 3, 1) := by decide +kernel
theorem dX1_findLevel_4 : decode M_X1_findLevel.2.1 4 = .ok (.iload_n 3, 1) := by decide +kernel
theorem dX1_findLevel_5 : decode M_X1_findLevel.2.1 5 = .ok (.iload_n 1, 1) := by decide +kernel
theorem dX1_findLevel_6 : decode M_X1_findLevel.2.1 6 = .ok (.if_icmp .ge 31, 3) := by decide +kernel
theorem dX1_findLevel_9 : decode M_X1_findLevel.2.1 9 = .ok (.aload_n 0, 1) := by decide +kernel
theorem dX1_findLevel_10 : decode M_X1_findLevel.2.1 10 = .ok (.iload_n 3, 1) := by decide +kernel
theorem dX1_findLevel_11 : decode M_X1_findLevel.2.1 11 = .ok (.iload_n 1, 1) := by decide +kernel
theorem dX1_findLevel_12 : decode M_X1_findLevel.2.1 12 = .ok (.invokevirtual 68, 3) := by decide +kernel
theorem dX1_findLevel_15 : decode M_X1_findLevel.2.1 15 = .ok (.ifCond .eq 16, 3) := by decide +kernel
theorem dX1_findLevel_18 : decode M_X1_findLevel.2.1 18 = .ok (.iload_n 2, 1) := by decide +kernel
theorem dX1_findLevel_19 : decode M_X1_findLevel.2.1 19 = .ok (.aload_n 0, 1) := by decide +kernel
theorem dX1_findLevel_20 : decode M_X1_findLevel.2.1 20 = .ok (.getfield 18, 3) := by decide +kernel
theorem dX1_findLevel_23 : decode M_X1_findLevel.2.1 23 = .ok (.iload_n 3, 1) := by decide +kernel
theorem dX1_findLevel_24 : decode M_X1_findLevel.2.1 24 = .ok (.iaload, 1) := by decide +kernel
theorem dX1_findLevel_25 : decode M_X1_findLevel.2.1 25 = .ok (.iconst 1, 1) := by decide +kernel
theorem dX1_findLevel_26 : decode M_X1_findLevel.2.1 26 = .ok (.iadd, 1) := by decide +kernel
theorem dX1_findLevel_27 : decode M_X1_findLevel.2.1 27 = .ok (.invokestatic 72, 3) := by decide +kernel
theorem dX1_findLevel_30 : decode M_X1_findLevel.2.1 30 = .ok (.istore_n 2, 1) := by decide +kernel
theorem dX1_findLevel_31 : decode M_X1_findLevel.2.1 31 = .ok (.iinc 3 1, 3) := by decide +kernel
theorem dX1_findLevel_34 : decode M_X1_findLevel.2.1 34 = .ok (.goto (-30), 3) := by decide +kernel
theorem dX1_findLevel_37 : decode M_X1_findLevel.2.1 37 = .ok (.aload_n 0, 1) := by decide +kernel
theorem dX1_findLevel_38 : decode M_X1_findLevel.2.1 38 = .ok (.getfield 18, 3) := by decide +kernel
theorem dX1_findLevel_41 : decode M_X1_findLevel.2.1 41 = .ok (.iload_n 1, 1) := by decide +kernel
theorem dX1_findLevel_42 : decode M_X1_findLevel.2.1 42 = .ok (.iload_n 2, 1) := by decide +kernel
theorem dX1_findLevel_43 : decode M_X1_findLevel.2.1 43 = .ok (.iastore, 1) := by decide +kernel
theorem dX1_findLevel_44 : decode M_X1_findLevel.2.1 44 = .ok (.return_, 1) := by decide +kernel
theorem dX1_findUnder_0 : decode M_X1_findUnder.2.1 0 = .ok (.aload_n 0, 1) := by decide +kernel
theorem dX1_findUnder_1 : decode M_X1_findUnder.2.1 1 = .ok (.getfield 21, 3) := by decide +kernel
theorem dX1_findUnder_4 : decode M_X1_findUnder.2.1 4 = .ok (.iload_n 1, 1) := by decide +kernel
theorem dX1_findUnder_5 : decode M_X1_findUnder.2.1 5 = .ok (.iconst 0, 1) := by decide +kernel
theorem dX1_findUnder_6 : decode M_X1_findUnder.2.1 6 = .ok (.iastore, 1) := by decide +kernel
theorem dX1_findUnder_7 : decode M_X1_findUnder.2.1 7 = .ok (.iconst 0, 1) := by decide +kernel
theorem dX1_findUnder_8 : decode M_X1_findUnder.2.1 8 = .ok (.istore_n 2, 1) := by decide +kernel
theorem dX1_findUnder_9 : decode M_X1_findUnder.2.1 9 = .ok (.iload_n 2, 1) := by decide +kernel
theorem dX1_findUnder_10 : decode M_X1_findUnder.2.1 10 = .ok (.iload_n 1, 1) := by decide +kernel
theorem dX1_findUnder_11 : decode M_X1_findUnder.2.1 11 = .ok (.if_icmp .ge 59, 3) := by decide +kernel
theorem dX1_findUnder_14 : decode M_X1_findUnder.2.1 14 = .ok (.aload_n 0, 1) := by decide +kernel
theorem dX1_findUnder_15 : decode M_X1_findUnder.2.1 15 = .ok (.getfield 18, 3) := by decide +kernel
theorem dX1_findUnder_18 : decode M_X1_findUnder.2.1 18 = .ok (.iload_n 2, 1) := by decide +kernel
theorem dX1_findUnder_19 : decode M_X1_findUnder.2.1 19 = .ok (.iaload, 1) := by decide +kernel
theorem dX1_findUnder_20 : decode M_X1_findUnder.2.1 20 = .ok (.aload_n 0, 1) := by decide +kernel
theorem dX1_findUnder_21 : decode M_X1_findUnder.2.1 21 = .ok (.getfield 18, 3) := by decide +kernel
theorem dX1_findUnder_24 : decode M_X1_findUnder.2.1 24 = .ok (.iload_n 1, 1) := by decide +kernel
theorem dX1_findUnder_25 : decode M_X1_findUnder.2.1 25 = .ok (.iaload, 1) := by decide +kernel
theorem dX1_findUnder_26 : decode M_X1_findUnder.2.1 26 = .ok (.iconst 1, 1) := by decide +kernel
theorem dX1_findUnder_27 : decode M_X1_findUnder.2.1 27 = .ok (.isub, 1) := by decide +kernel
theorem dX1_findUnder_28 : decode M_X1_findUnder.2.1 28 = .ok (.if_icmp .ne 36, 3) := by decide +kernel
theorem dX1_findUnder_31 : decode M_X1_findUnder.2.1 31 = .ok (.aload_n 0, 1) := by decide +kernel
theorem dX1_findUnder_32 : decode M_X1_findUnder.2.1 32 = .ok (.iload_n 2, 1) := by decide +kernel
theorem dX1_findUnder_33 : decode M_X1_findUnder.2.1 33 = .ok (.iload_n 1, 1) := by decide +kernel
theorem dX1_findUnder_34 : decode M_X1_findUnder.2.1 34 = .ok (.invokevirtual 68, 3) := by decide +kernel
theorem dX1_findUnder_37 : decode M_X1_findUnder.2.1 37 = .ok (.ifCond .eq 27, 3) := by decide +kernel
theorem dX1_findUnder_40 : decode M_X1_findUnder.2.1 40 = .ok (.aload_n 0, 1) := by decide +kernel
theorem dX1_findUnder_41 : decode M_X1_findUnder.2.1 41 = .ok (.getfield 21, 3) := by decide +kernel
theorem dX1_findUnder_44 : decode M_X1_findUnder.2.1 44 = .ok (.iload_n 1, 1) := by decide +kernel
theorem dX1_findUnder_45 : decode M_X1_findUnder.2.1 45 = .ok (.dup2, 1) := by decide +kernel
theorem dX1_findUnder_46 : decode M_X1_findUnder.2.1 46 = .ok (.iaload, 1) := by decide +kernel
theorem dX1_findUnder_47 : decode M_X1_findUnder.2.1 47 = .ok (.iconst 1, 1) := by decide +kernel
theorem dX1_findUnder_48 : decode M_X1_findUnder.2.1 48 = .ok (.iload_n 2, 1) := by decide +kernel
theorem dX1_findUnder_49 : decode M_X1_findUnder.2.1 49 = .ok (.ishl, 1) := by decide +kernel
theorem dX1_findUnder_50 : decode M_X1_findUnder.2.1 50 = .ok (.ior, 1) := by decide +kernel
theorem dX1_findUnder_51 : decode M_X1_findUnder.2.1 51 = .ok (.iastore, 1) := by decide +kernel
theorem dX1_findUnder_52 : decode M_X1_findUnder.2.1 52 = .ok (.aload_n 0, 1) := by decide +kernel
theorem dX1_findUnder_53 : decode M_X1_findUnder.2.1 53 = .ok (.getfield 24, 3) := by decide +kernel
theorem dX1_findUnder_56 : decode M_X1_findUnder.2.1 56 = .ok (.iload_n 2, 1) := by decide +kernel
theorem dX1_findUnder_57 : decode M_X1_findUnder.2.1 57 = .ok (.dup2, 1) := by decide +kernel
theorem dX1_findUnder_58 : decode M_X1_findUnder.2.1 58 = .ok (.iaload, 1) := by decide +kernel
theorem dX1_findUnder_59 : decode M_X1_findUnder.2.1 59 = .ok (.iconst 1, 1) := by decide +kernel
theorem dX1_findUnder_60 : decode M_X1_findUnder.2.1 60 = .ok (.iload_n 1, 1) := by decide +kernel
theorem dX1_findUnder_61 : decode M_X1_findUnder.2.1 61 = .ok (.ishl, 1) := by decide +kernel
theorem dX1_findUnder_62 : decode M_X1_findUnder.2.1 62 = .ok (.ior, 1) := by decide +kernel
theorem dX1_findUnder_63 : decode M_X1_findUnder.2.1 63 = .ok (.iastore, 1) := by decide +kernel
theorem dX1_findUnder_64 : decode M_X1_findUnder.2.1 64 = .ok (.iinc 2 1, 3) := by decide +kernel
theorem dX1_findUnder_67 : decode M_X1_findUnder.2.1 67 = .ok (.goto (-58), 3) := by decide +kernel
theorem dX1_findUnder_70 : decode M_X1_findUnder.2.1 70 = .ok (.return_, 1) := by decide +kernel
theorem dX1_findContacts_0 : decode M_X1_findContacts.2.1 0 = .ok (.aload_n 0, 1) := by decide +kernel
theorem dX1_findContacts_1 : decode M_X1_findContacts.2.1 1 = .ok (.getfield 21, 3) := by decide +kernel
theorem dX1_findContacts_4 : decode M_X1_findContacts.2.1 4 = .ok (.iload_n 1, 1) := by decide +kernel
theorem dX1_findContacts_5 : decode M_X1_findContacts.2.1 5 = .ok (.iaload, 1) := by decide +kernel
theorem dX1_findContacts_6 : decode M_X1_findContacts.2.1 6 = .ok (.ifCond .ne 29, 3) := by decide +kernel
theorem dX1_findContacts_9 : decode M_X1_findContacts.2.1 9 = .ok (.aload_n 0, 1) := by decide +kernel
theorem dX1_findContacts_10 : decode M_X1_findContacts.2.1 10 = .ok (.iload_n 1, 1) := by decide +kernel
theorem dX1_findContacts_11 : decode M_X1_findContacts.2.1 11 = .ok (.bipush (-9), 2) := by decide +kernel
theorem dX1_findContacts_13 : decode M_X1_findContacts.2.1 13 = .ok (.aload_n 0, 1) := by decide +kernel
theorem dX1_findContacts_14 : decode M_X1_findContacts.2.1 14 = .ok (.getfield 9, 3) := by decide +kernel
theorem dX1_findContacts_17 : decode M_X1_findContacts.2.1 17 = .ok (.iload_n 1, 1) := by decide +kernel
theorem dX1_findContacts_18 : decode M_X1_findContacts.2.1 18 = .ok (.iaload, 1) := by decide +kernel
theorem dX1_findContacts_19 : decode M_X1_findContacts.2.1 19 = .ok (.invokevirtual 75, 3) := by decide +kernel
theorem dX1_findContacts_22 : decode M_X1_findContacts.2.1 22 = .ok (.aload_n 0, 1) := by decide +kernel
theorem dX1_findContacts_23 : decode M_X1_findContacts.2.1 23 = .ok (.iload_n 1, 1) := by decide +kernel
theorem dX1_findContacts_24 : decode M_X1_findContacts.2.1 24 = .ok (.bipush (-9), 2) := by decide +kernel
theorem dX1_findContacts_26 : decode M_X1_findContacts.2.1 26 = .ok (.aload_n 0, 1) := by decide +kernel
theorem dX1_findContacts_27 : decode M_X1_findContacts.2.1 27 = .ok (.getfield 15, 3) := by decide +kernel
theorem dX1_findContacts_30 : decode M_X1_findContacts.2.1 30 = .ok (.iload_n 1, 1) := by decide +kernel
theorem dX1_findContacts_31 : decode M_X1_findContacts.2.1 31 = .ok (.iaload, 1) := by decide +kernel
theorem dX1_findContacts_32 : decode M_X1_findContacts.2.1 32 = .ok (.invokevirtual 75, 3) := by decide +kernel
theorem dX1_findContacts_35 : decode M_X1_findContacts.2.1 35 = .ok (.iconst 0, 1) := by decide +kernel
theorem dX1_findContacts_36 : decode M_X1_findContacts.2.1 36 = .ok (.istore_n 2, 1) := by decide +kernel
theorem dX1_findContacts_37 : decode M_X1_findContacts.2.1 37 = .ok (.iload_n 2, 1) := by decide +kernel
theorem dX1_findContacts_38 : decode M_X1_findContacts.2.1 38 = .ok (.iload_n 1, 1) := by decide +kernel
theorem dX1_findContacts_39 : decode M_X1_findContacts.2.1 39 = .ok (.if_icmp .ge 65, 3) := by decide +kernel
theorem dX1_findContacts_42 : decode M_X1_findContacts.2.1 42 = .ok (.aload_n 0, 1) := by decide +kernel
theorem dX1_findContacts_43 : decode M_X1_findContacts.2.1 43 = .ok (.getfield 21, 3) := by decide +kernel
theorem dX1_findContacts_46 : decode M_X1_findContacts.2.1 46 = .ok (.iload_n 1, 1) := by decide +kernel
theorem dX1_findContacts_47 : decode M_X1_findContacts.2.1 47 = .ok (.iaload, 1) := by decide +kernel
theorem dX1_findContacts_48 : decode M_X1_findContacts.2.1 48 = .ok (.iload_n 2, 1) := by decide +kernel
theorem dX1_findContacts_49 : decode M_X1_findContacts.2.1 49 = .ok (.ishr, 1) := by decide +kernel
theorem dX1_findContacts_50 : decode M_X1_findContacts.2.1 50 = .ok (.iconst 1, 1) := by decide +kernel
theorem dX1_findContacts_51 : decode M_X1_findContacts.2.1 51 = .ok (.iand, 1) := by decide +kernel
theorem dX1_findContacts_52 : decode M_X1_findContacts.2.1 52 = .ok (.iconst 1, 1) := by decide +kernel
theorem dX1_findContacts_53 : decode M_X1_findContacts.2.1 53 = .ok (.if_icmp .ne 45, 3) := by decide +kernel
theorem dX1_findContacts_56 : decode M_X1_findContacts.2.1 56 = .ok (.aload_n 0, 1) := by decide +kernel
theorem dX1_findContacts_57 : decode M_X1_findContacts.2.1 57 = .ok (.iload_n 1, 1) := by decide +kernel
theorem dX1_findContacts_58 : decode M_X1_findContacts.2.1 58 = .ok (.iload_n 2, 1) := by decide +kernel
theorem dX1_findContacts_59 : decode M_X1_findContacts.2.1 59 = .ok (.aload_n 0, 1) := by decide +kernel
theorem dX1_findContacts_60 : decode M_X1_findContacts.2.1 60 = .ok (.getfield 9, 3) := by decide +kernel
theorem dX1_findContacts_63 : decode M_X1_findContacts.2.1 63 = .ok (.iload_n 2, 1) := by decide +kernel
theorem dX1_findContacts_64 : decode M_X1_findContacts.2.1 64 = .ok (.iaload, 1) := by decide +kernel
theorem dX1_findContacts_65 : decode M_X1_findContacts.2.1 65 = .ok (.aload_n 0, 1) := by decide +kernel
theorem dX1_findContacts_66 : decode M_X1_findContacts.2.1 66 = .ok (.getfield 9, 3) := by decide +kernel
theorem dX1_findContacts_69 : decode M_X1_findContacts.2.1 69 = .ok (.iload_n 1, 1) := by decide +kernel
theorem dX1_findContacts_70 : decode M_X1_findContacts.2.1 70 = .ok (.iaload, 1) := by decide +kernel
theorem dX1_findContacts_71 : decode M_X1_findContacts.2.1 71 = .ok (.invokestatic 72, 3) := by decide +kernel
theorem dX1_findContacts_74 : decode M_X1_findContacts.2.1 74 = .ok (.invokevirtual 75, 3) := by decide +kernel
theorem dX1_findContacts_77 : decode M_X1_findContacts.2.1 77 = .ok (.aload_n 0, 1) := by decide +kernel
theorem dX1_findContacts_78 : decode M_X1_findContacts.2.1 78 = .ok (.iload_n 1, 1) := by decide +kernel
theorem dX1_findContacts_79 : decode M_X1_findContacts.2.1 79 = .ok (.iload_n 2, 1) := by decide +kernel
theorem dX1_findContacts_80 : decode M_X1_findContacts.2.1 80 = .ok (.aload_n 0, 1) := by decide +kernel
theorem dX1_findContacts_81 : decode M_X1_findContacts.2.1 81 = .ok (.getfield 15, 3) := by decide +kernel
theorem dX1_findContacts_84 : decode M_X1_findContacts.2.1 84 = .ok (.iload_n 2, 1) := by decide +kernel
theorem dX1_findContacts_85 : decode M_X1_findContacts.2.1 85 = .ok (.iaload, 1) := by decide +kernel
theorem dX1_findContacts_86 : decode M_X1_findContacts.2.1 86 = .ok (.aload_n 0, 1) := by decide +kernel
theorem dX1_findContacts_87 : decode M_X1_findContacts.2.1 87 = .ok (.getfield 15, 3) := by decide +kernel
theorem dX1_findContacts_90 : decode M_X1_findContacts.2.1 90 = .ok (.iload_n 1, 1) := by decide +kernel
theorem dX1_findContacts_91 : decode M_X1_findContacts.2.1 91 = .ok (.iaload, 1) := by decide +kernel
theorem dX1_findContacts_92 : decode M_X1_findContacts.2.1 92 = .ok (.invokestatic 49, 3) := by decide +kernel
theorem dX1_findContacts_95 : decode M_X1_findContacts.2.1 95 = .ok (.invokevirtual 75, 3) := by decide +kernel
theorem dX1_findContacts_98 : decode M_X1_findContacts.2.1 98 = .ok (.iinc 2 1, 3) := by decide +kernel
theorem dX1_findContacts_101 : decode M_X1_findContacts.2.1 101 = .ok (.goto (-64), 3) := by decide +kernel
theorem dX1_findContacts_104 : decode M_X1_findContacts.2.1 104 = .ok (.return_, 1) := by decide +kernel
theorem dX1_addContact_0 : decode M_X1_addContact.2.1 0 = .ok (.aload_n 0, 1) := by decide +kernel
theorem dX1_addContact_1 : decode M_X1_addContact.2.1 1 = .ok (.getfield 40, 3) := by decide +kernel
theorem dX1_addContact_4 : decode M_X1_addContact.2.1 4 = .ok (.bipush 12, 2) := by decide +kernel
theorem dX1_addContact_6 : decode M_X1_addContact.2.1 6 = .ok (.if_icmp .ge 43, 3) := by decide +kernel
theorem dX1_addContact_9 : decode M_X1_addContact.2.1 9 = .ok (.aload_n 0, 1) := by decide +kernel
theorem dX1_addContact_10 : decode M_X1_addContact.2.1 10 = .ok (.getfield 27, 3) := by decide +kernel
theorem dX1_addContact_13 : decode M_X1_addContact.2.1 13 = .ok (.aload_n 0, 1) := by decide +kernel
theorem dX1_addContact_14 : decode M_X1_addContact.2.1 14 = .ok (.getfield 40, 3) := by decide +kernel
theorem dX1_addContact_17 : decode M_X1_addContact.2.1 17 = .ok (.iload_n 1, 1) := by decide +kernel
theorem dX1_addContact_18 : decode M_X1_addContact.2.1 18 = .ok (.iastore, 1) := by decide +kernel
theorem dX1_addContact_19 : decode M_X1_addContact.2.1 19 = .ok (.aload_n 0, 1) := by decide +kernel
theorem dX1_addContact_20 : decode M_X1_addContact.2.1 20 = .ok (.getfield 30, 3) := by decide +kernel
theorem dX1_addContact_23 : decode M_X1_addContact.2.1 23 = .ok (.aload_n 0, 1) := by decide +kernel
theorem dX1_addContact_24 : decode M_X1_addContact.2.1 24 = .ok (.getfield 40, 3) := by decide +kernel
theorem dX1_addContact_27 : decode M_X1_addContact.2.1 27 = .ok (.iload_n 2, 1) := by decide +kernel
theorem dX1_addContact_28 : decode M_X1_addContact.2.1 28 = .ok (.iastore, 1) := by decide +kernel
theorem dX1_addContact_29 : decode M_X1_addContact.2.1 29 = .ok (.aload_n 0, 1) := by decide +kernel
theorem dX1_addContact_30 : decode M_X1_addContact.2.1 30 = .ok (.getfield 33, 3) := by decide +kernel
theorem dX1_addContact_33 : decode M_X1_addContact.2.1 33 = .ok (.aload_n 0, 1) := by decide +kernel
theorem dX1_addContact_34 : decode M_X1_addContact.2.1 34 = .ok (.getfield 40, 3) := by decide +kernel
theorem dX1_addContact_37 : decode M_X1_addContact.2.1 37 = .ok (.iload_n 3, 1) := by decide +kernel
theorem dX1_addContact_38 : decode M_X1_addContact.2.1 38 = .ok (.iastore, 1) := by decide +kernel
theorem dX1_addContact_39 : decode M_X1_addContact.2.1 39 = .ok (.aload_n 0, 1) := by decide +kernel
theorem dX1_addContact_40 : decode M_X1_addContact.2.1 40 = .ok (.dup, 1) := by decide +kernel
theorem dX1_addContact_41 : decode M_X1_addContact.2.1 41 = .ok (.getfield 40, 3) := by decide +kernel
theorem dX1_addContact_44 : decode M_X1_addContact.2.1 44 = .ok (.iconst 1, 1) := by decide +kernel
theorem dX1_addContact_45 : decode M_X1_addContact.2.1 45 = .ok (.iadd, 1) := by decide +kernel
theorem dX1_addContact_46 : decode M_X1_addContact.2.1 46 = .ok (.putfield 40, 3) := by decide +kernel
theorem dX1_addContact_49 : decode M_X1_addContact.2.1 49 = .ok (.return_, 1) := by decide +kernel
theorem dX1_overlap_0 : decode M_X1_overlap.2.1 0 = .ok (.aload_n 0, 1) := by decide +kernel
theorem dX1_overlap_1 : decode M_X1_overlap.2.1 1 = .ok (.getfield 9, 3) := by decide +kernel
theorem dX1_overlap_4 : decode M_X1_overlap.2.1 4 = .ok (.iload_n 1, 1) := by decide +kernel
theorem dX1_overlap_5 : decode M_X1_overlap.2.1 5 = .ok (.iaload, 1) := by decide +kernel
theorem dX1_overlap_6 : decode M_X1_overlap.2.1 6 = .ok (.aload_n 0, 1) := by decide +kernel
theorem dX1_overlap_7 : decode M_X1_overlap.2.1 7 = .ok (.getfield 15, 3) := by decide +kernel
theorem dX1_overlap_10 : decode M_X1_overlap.2.1 10 = .ok (.iload_n 2, 1) := by decide +kernel
theorem dX1_overlap_11 : decode M_X1_overlap.2.1 11 = .ok (.iaload, 1) := by decide +kernel
theorem dX1_overlap_12 : decode M_X1_overlap.2.1 12 = .ok (.if_icmp .ge 22, 3) := by decide +kernel
theorem dX1_overlap_15 : decode M_X1_overlap.2.1 15 = .ok (.aload_n 0, 1) := by decide +kernel
theorem dX1_overlap_16 : decode M_X1_overlap.2.1 16 = .ok (.getfield 9, 3) := by decide +kernel
theorem dX1_overlap_19 : decode M_X1_overlap.2.1 19 = .ok (.iload_n 2, 1) := by decide +kernel
theorem dX1_overlap_20 : decode M_X1_overlap.2.1 20 = .ok (.iaload, 1) := by decide +kernel
theorem dX1_overlap_21 : decode M_X1_overlap.2.1 21 = .ok (.aload_n 0, 1) := by decide +kernel
theorem dX1_overlap_22 : decode M_X1_overlap.2.1 22 = .ok (.getfield 15, 3) := by decide +kernel
theorem dX1_overlap_25 : decode M_X1_overlap.2.1 25 = .ok (.iload_n 1, 1) := by decide +kernel
theorem dX1_overlap_26 : decode M_X1_overlap.2.1 26 = .ok (.iaload, 1) := by decide +kernel
theorem dX1_overlap_27 : decode M_X1_overlap.2.1 27 = .ok (.if_icmp .ge 7, 3) := by decide +kernel
theorem dX1_overlap_30 : decode M_X1_overlap.2.1 30 = .ok (.iconst 1, 1) := by decide +kernel
theorem dX1_overlap_31 : decode M_X1_overlap.2.1 31 = .ok (.goto 4, 3) := by decide +kernel
theorem dX1_overlap_34 : decode M_X1_overlap.2.1 34 = .ok (.iconst 0, 1) := by decide +kernel
theorem dX1_overlap_35 : decode M_X1_overlap.2.1 35 = .ok (.ireturn, 1) := by decide +kernel
theorem dX1_contacts_0 : decode M_X1_contacts.2.1 0 = .ok (.aload_n 0, 1) := by decide +kernel
theorem dX1_contacts_1 : decode M_X1_contacts.2.1 1 = .ok (.getfield 40, 3) := by decide +kernel
theorem dX1_contacts_4 : decode M_X1_contacts.2.1 4 = .ok (.ireturn, 1) := by decide +kernel
theorem dX1_level_0 : decode M_X1_level.2.1 0 = .ok (.iload_n 1, 1) := by decide +kernel
theorem dX1_level_1 : decode M_X1_level.2.1 1 = .ok (.iconst 0, 1) := by decide +kernel
theorem dX1_level_2 : decode M_X1_level.2.1 2 = .ok (.aload_n 0, 1) := by decide +kernel
theorem dX1_level_3 : decode M_X1_level.2.1 3 = .ok (.getfield 36, 3) := by decide +kernel
theorem dX1_level_6 : decode M_X1_level.2.1 6 = .ok (.iconst 1, 1) := by decide +kernel
theorem dX1_level_7 : decode M_X1_level.2.1 7 = .ok (.isub, 1) := by decide +kernel
theorem dX1_level_8 : decode M_X1_level.2.1 8 = .ok (.invokestatic 79, 3) := by decide +kernel
theorem dX1_level_11 : decode M_X1_level.2.1 11 = .ok (.ifCond .eq 12, 3) := by decide +kernel
theorem dX1_level_14 : decode M_X1_level.2.1 14 = .ok (.aload_n 0, 1) := by decide +kernel
theorem dX1_level_15 : decode M_X1_level.2.1 15 = .ok (.getfield 18, 3) := by decide +kernel
theorem dX1_level_18 : decode M_X1_level.2.1 18 = .ok (.iload_n 1, 1) := by decide +kernel
theorem dX1_level_19 : decode M_X1_level.2.1 19 = .ok (.iaload, 1) := by decide +kernel
theorem dX1_level_20 : decode M_X1_level.2.1 20 = .ok (.goto 5, 3) := by decide +kernel
theorem dX1_level_23 : decode M_X1_level.2.1 23 = .ok (.bipush (-9), 2) := by decide +kernel
theorem dX1_level_25 : decode M_X1_level.2.1 25 = .ok (.ireturn, 1) := by decide +kernel
theorem dX1_under_0 : decode M_X1_under.2.1 0 = .ok (.iload_n 1, 1) := by decide +kernel
theorem dX1_under_1 : decode M_X1_under.2.1 1 = .ok (.iconst 0, 1) := by decide +kernel
theorem dX1_under_2 : decode M_X1_under.2.1 2 = .ok (.aload_n 0, 1) := by decide +kernel
theorem dX1_under_3 : decode M_X1_under.2.1 3 = .ok (.getfield 36, 3) := by decide +kernel
theorem dX1_under_6 : decode M_X1_under.2.1 6 = .ok (.iconst 1, 1) := by decide +kernel
theorem dX1_under_7 : decode M_X1_under.2.1 7 = .ok (.isub, 1) := by decide +kernel
theorem dX1_under_8 : decode M_X1_under.2.1 8 = .ok (.invokestatic 79, 3) := by decide +kernel
theorem dX1_under_11 : decode M_X1_under.2.1 11 = .ok (.ifCond .eq 12, 3) := by decide +kernel
theorem dX1_under_14 : decode M_X1_under.2.1 14 = .ok (.aload_n 0, 1) := by decide +kernel
theorem dX1_under_15 : decode M_X1_under.2.1 15 = .ok (.getfield 21, 3) := by decide +kernel
theorem dX1_under_18 : decode M_X1_under.2.1 18 = .ok (.iload_n 1, 1) := by decide +kernel
theorem dX1_under_19 : decode M_X1_under.2.1 19 = .ok (.iaload, 1) := by decide +kernel
theorem dX1_under_20 : decode M_X1_under.2.1 20 = .ok (.goto 4, 3) := by decide +kernel
theorem dX1_under_23 : decode M_X1_under.2.1 23 = .ok (.iconst 0, 1) := by decide +kernel
theorem dX1_under_24 : decode M_X1_under.2.1 24 = .ok (.ireturn, 1) := by decide +kernel
theorem dX1_over_0 : decode M_X1_over.2.1 0 = .ok (.iload_n 1, 1) := by decide +kernel
theorem dX1_over_1 : decode M_X1_over.2.1 1 = .ok (.iconst 0, 1) := by decide +kernel
theorem dX1_over_2 : decode M_X1_over.2.1 2 = .ok (.aload_n 0, 1) := by decide +kernel
theorem dX1_over_3 : decode M_X1_over.2.1 3 = .ok (.getfield 36, 3) := by decide +kernel
theorem dX1_over_6 : decode M_X1_over.2.1 6 = .ok (.iconst 1, 1) := by decide +kernel
theorem dX1_over_7 : decode M_X1_over.2.1 7 = .ok (.isub, 1) := by decide +kernel
theorem dX1_over_8 : decode M_X1_over.2.1 8 = .ok (.invokestatic 79, 3) := by decide +kernel
theorem dX1_over_11 : decode M_X1_over.2.1 11 = .ok (.ifCond .eq 12, 3) := by decide +kernel
theorem dX1_over_14 : decode M_X1_over.2.1 14 = .ok (.aload_n 0, 1) := by decide +kernel
theorem dX1_over_15 : decode M_X1_over.2.1 15 = .ok (.getfield 24, 3) := by decide +kernel
theorem dX1_over_18 : decode M_X1_over.2.1 18 = .ok (.iload_n 1, 1) := by decide +kernel
theorem dX1_over_19 : decode M_X1_over.2.1 19 = .ok (.iaload, 1) := by decide +kernel
theorem dX1_over_20 : decode M_X1_over.2.1 20 = .ok (.goto 4, 3) := by decide +kernel
theorem dX1_over_23 : decode M_X1_over.2.1 23 = .ok (.iconst 0, 1) := by decide +kernel
theorem dX1_over_24 : decode M_X1_over.2.1 24 = .ok (.ireturn, 1) := by decide +kernel
theorem dX1_greatestLevel_0 : decode M_X1_greatestLevel.2.1 0 = .ok (.bipush (-9), 2) := by decide +kernel
theorem dX1_greatestLevel_2 : decode M_X1_greatestLevel.2.1 2 = .ok (.istore_n 1, 1) := by decide +kernel
theorem dX1_greatestLevel_3 : decode M_X1_greatestLevel.2.1 3 = .ok (.iconst 0, 1) := by decide +kernel
theorem dX1_greatestLevel_4 : decode M_X1_greatestLevel.2.1 4 = .ok (.istore_n 2, 1) := by decide +kernel
theorem dX1_greatestLevel_5 : decode M_X1_greatestLevel.2.1 5 = .ok (.iload_n 2, 1) := by decide +kernel
theorem dX1_greatestLevel_6 : decode M_X1_greatestLevel.2.1 6 = .ok (.aload_n 0, 1) := by decide +kernel
theorem dX1_greatestLevel_7 : decode M_X1_greatestLevel.2.1 7 = .ok (.getfield 36, 3) := by decide +kernel
theorem dX1_greatestLevel_10 : decode M_X1_greatestLevel.2.1 10 = .ok (.if_icmp .ge 20, 3) := by decide +kernel
theorem dX1_greatestLevel_13 : decode M_X1_greatestLevel.2.1 13 = .ok (.iload_n 1, 1) := by decide +kernel
theorem dX1_greatestLevel_14 : decode M_X1_greatestLevel.2.1 14 = .ok (.aload_n 0, 1) := by decide +kernel
theorem dX1_greatestLevel_15 : decode M_X1_greatestLevel.2.1 15 = .ok (.getfield 18, 3) := by decide +kernel
theorem dX1_greatestLevel_18 : decode M_X1_greatestLevel.2.1 18 = .ok (.iload_n 2, 1) := by decide +kernel
theorem dX1_greatestLevel_19 : decode M_X1_greatestLevel.2.1 19 = .ok (.iaload, 1) := by decide +kernel
theorem dX1_greatestLevel_20 : decode M_X1_greatestLevel.2.1 20 = .ok (.invokestatic 72, 3) := by decide +kernel
theorem dX1_greatestLevel_23 : decode M_X1_greatestLevel.2.1 23 = .ok (.istore_n 1, 1) := by decide +kernel
theorem dX1_greatestLevel_24 : decode M_X1_greatestLevel.2.1 24 = .ok (.iinc 2 1, 3) := by decide +kernel
theorem dX1_greatestLevel_27 : decode M_X1_greatestLevel.2.1 27 = .ok (.goto (-22), 3) := by decide +kernel
theorem dX1_greatestLevel_30 : decode M_X1_greatestLevel.2.1 30 = .ok (.iload_n 1, 1) := by decide +kernel
theorem dX1_greatestLevel_31 : decode M_X1_greatestLevel.2.1 31 = .ok (.ireturn, 1) := by decide +kernel
theorem dX1_upper_0 : decode M_X1_upper.2.1 0 = .ok (.iload_n 1, 1) := by decide +kernel
theorem dX1_upper_1 : decode M_X1_upper.2.1 1 = .ok (.iconst 0, 1) := by decide +kernel
theorem dX1_upper_2 : decode M_X1_upper.2.1 2 = .ok (.aload_n 0, 1) := by decide +kernel
theorem dX1_upper_3 : decode M_X1_upper.2.1 3 = .ok (.getfield 40, 3) := by decide +kernel
theorem dX1_upper_6 : decode M_X1_upper.2.1 6 = .ok (.iconst 1, 1) := by decide +kernel
theorem dX1_upper_7 : decode M_X1_upper.2.1 7 = .ok (.isub, 1) := by decide +kernel
theorem dX1_upper_8 : decode M_X1_upper.2.1 8 = .ok (.invokestatic 79, 3) := by decide +kernel
theorem dX1_upper_11 : decode M_X1_upper.2.1 11 = .ok (.ifCond .eq 12, 3) := by decide +kernel
theorem dX1_upper_14 : decode M_X1_upper.2.1 14 = .ok (.aload_n 0, 1) := by decide +kernel
theorem dX1_upper_15 : decode M_X1_upper.2.1 15 = .ok (.getfield 27, 3) := by decide +kernel
theorem dX1_upper_18 : decode M_X1_upper.2.1 18 = .ok (.iload_n 1, 1) := by decide +kernel
theorem dX1_upper_19 : decode M_X1_upper.2.1 19 = .ok (.iaload, 1) := by decide +kernel
theorem dX1_upper_20 : decode M_X1_upper.2.1 20 = .ok (.goto 5, 3) := by decide +kernel
theorem dX1_upper_23 : decode M_X1_upper.2.1 23 = .ok (.bipush (-9), 2) := by decide +kernel
theorem dX1_upper_25 : decode M_X1_upper.2.1 25 = .ok (.ireturn, 1) := by decide +kernel
theorem dX1_lower_0 : decode M_X1_lower.2.1 0 = .ok (.iload_n 1, 1) := by decide +kernel
theorem dX1_lower_1 : decode M_X1_lower.2.1 1 = .ok (.iconst 0, 1) := by decide +kernel
theorem dX1_lower_2 : decode M_X1_lower.2.1 2 = .ok (.aload_n 0, 1) := by decide +kernel
theorem dX1_lower_3 : decode M_X1_lower.2.1 3 = .ok (.getfield 40, 3) := by decide +kernel
theorem dX1_lower_6 : decode M_X1_lower.2.1 6 = .ok (.iconst 1, 1) := by decide +kernel
theorem dX1_lower_7 : decode M_X1_lower.2.1 7 = .ok (.isub, 1) := by decide +kernel
theorem dX1_lower_8 : decode M_X1_lower.2.1 8 = .ok (.invokestatic 79, 3) := by decide +kernel
theorem dX1_lower_11 : decode M_X1_lower.2.1 11 = .ok (.ifCond .eq 12, 3) := by decide +kernel
theorem dX1_lower_14 : decode M_X1_lower.2.1 14 = .ok (.aload_n 0, 1) := by decide +kernel
theorem dX1_lower_15 : decode M_X1_lower.2.1 15 = .ok (.getfield 30, 3) := by decide +kernel
theorem dX1_lower_18 : decode M_X1_lower.2.1 18 = .ok (.iload_n 1, 1) := by decide +kernel
theorem dX1_lower_19 : decode M_X1_lower.2.1 19 = .ok (.iaload, 1) := by decide +kernel
theorem dX1_lower_20 : decode M_X1_lower.2.1 20 = .ok (.goto 5, 3) := by decide +kernel
theorem dX1_lower_23 : decode M_X1_lower.2.1 23 = .ok (.bipush (-9), 2) := by decide +kernel
theorem dX1_lower_25 : decode M_X1_lower.2.1 25 = .ok (.ireturn, 1) := by decide +kernel
theorem dX1_x_0 : decode M_X1_x.2.1 0 = .ok (.iload_n 1, 1) := by decide +kernel
theorem dX1_x_1 : decode M_X1_x.2.1 1 = .ok (.iconst 0, 1) := by decide +kernel
theorem dX1_x_2 : decode M_X1_x.2.1 2 = .ok (.aload_n 0, 1) := by decide +kernel
theorem dX1_x_3 : decode M_X1_x.2.1 3 = .ok (.getfield 40, 3) := by decide +kernel
theorem dX1_x_6 : decode M_X1_x.2.1 6 = .ok (.iconst 1, 1) := by decide +kernel
theorem dX1_x_7 : decode M_X1_x.2.1 7 = .ok (.isub, 1) := by decide +kernel
theorem dX1_x_8 : decode M_X1_x.2.1 8 = .ok (.invokestatic 79, 3) := by decide +kernel
theorem dX1_x_11 : decode M_X1_x.2.1 11 = .ok (.ifCond .eq 12, 3) := by decide +kernel
theorem dX1_x_14 : decode M_X1_x.2.1 14 = .ok (.aload_n 0, 1) := by decide +kernel
theorem dX1_x_15 : decode M_X1_x.2.1 15 = .ok (.getfield 33, 3) := by decide +kernel
theorem dX1_x_18 : decode M_X1_x.2.1 18 = .ok (.iload_n 1, 1) := by decide +kernel
theorem dX1_x_19 : decode M_X1_x.2.1 19 = .ok (.iaload, 1) := by decide +kernel
theorem dX1_x_20 : decode M_X1_x.2.1 20 = .ok (.goto 4, 3) := by decide +kernel
theorem dX1_x_23 : decode M_X1_x.2.1 23 = .ok (.iconst 0, 1) := by decide +kernel
theorem dX1_x_24 : decode M_X1_x.2.1 24 = .ok (.ireturn, 1) := by decide +kernel
theorem dX2_init_0 : decode M_X2_init.2.1 0 = .ok (.aload_n 0, 1) := by decide +kernel
theorem dX2_init_1 : decode M_X2_init.2.1 1 = .ok (.invokespecial 5, 3) := by decide +kernel
theorem dX2_init_4 : decode M_X2_init.2.1 4 = .ok (.aload_n 0, 1) := by decide +kernel
theorem dX2_init_5 : decode M_X2_init.2.1 5 = .ok (.bipush 21, 2) := by decide +kernel
theorem dX2_init_7 : decode M_X2_init.2.1 7 = .ok (.newarray .int, 2) := by decide +kernel
theorem dX2_init_9 : decode M_X2_init.2.1 9 = .ok (.putfield 11, 3) := by decide +kernel
theorem dX2_init_12 : decode M_X2_init.2.1 12 = .ok (.return_, 1) := by decide +kernel
theorem dX2_size_0 : decode M_X2_size.2.1 0 = .ok (.aload_n 0, 1) := by decide +kernel
theorem dX2_size_1 : decode M_X2_size.2.1 1 = .ok (.getfield 11, 3) := by decide +kernel
theorem dX2_size_4 : decode M_X2_size.2.1 4 = .ok (.bipush 20, 2) := by decide +kernel
theorem dX2_size_6 : decode M_X2_size.2.1 6 = .ok (.iaload, 1) := by decide +kernel
theorem dX2_size_7 : decode M_X2_size.2.1 7 = .ok (.ireturn, 1) := by decide +kernel
theorem dX2_has_0 : decode M_X2_has.2.1 0 = .ok (.iload_n 1, 1) := by decide +kernel
theorem dX2_has_1 : decode M_X2_has.2.1 1 = .ok (.ifCond .lt 23, 3) := by decide +kernel
theorem dX2_has_4 : decode M_X2_has.2.1 4 = .ok (.iload_n 1, 1) := by decide +kernel
theorem dX2_has_5 : decode M_X2_has.2.1 5 = .ok (.aload_n 0, 1) := by decide +kernel
theorem dX2_has_6 : decode M_X2_has.2.1 6 = .ok (.getfield 11, 3) := by decide +kernel
theorem dX2_has_9 : decode M_X2_has.2.1 9 = .ok (.bipush 20, 2) := by decide +kernel
theorem dX2_has_11 : decode M_X2_has.2.1 11 = .ok (.iaload, 1) := by decide +kernel
theorem dX2_has_12 : decode M_X2_has.2.1 12 = .ok (.if_icmp .ge 12, 3) := by decide +kernel
theorem dX2_has_15 : decode M_X2_has.2.1 15 = .ok (.iload_n 1, 1) := by decide +kernel
theorem dX2_has_16 : decode M_X2_has.2.1 16 = .ok (.iconst 4, 1) := by decide +kernel
theorem dX2_has_17 : decode M_X2_has.2.1 17 = .ok (.if_icmp .ge 7, 3) := by decide +kernel
theorem dX2_has_20 : decode M_X2_has.2.1 20 = .ok (.iconst 1, 1) := by decide +kernel
theorem dX2_has_21 : decode M_X2_has.2.1 21 = .ok (.goto 4, 3) := by decide +kernel
theorem dX2_has_24 : decode M_X2_has.2.1 24 = .ok (.iconst 0, 1) := by decide +kernel
theorem dX2_has_25 : decode M_X2_has.2.1 25 = .ok (.ireturn, 1) := by decide +kernel
theorem dX2_get_0 : decode M_X2_get.2.1 0 = .ok (.aload_n 0, 1) := by decide +kernel
theorem dX2_get_1 : decode M_X2_get.2.1 1 = .ok (.iload_n 1, 1) := by decide +kernel
theorem dX2_get_2 : decode M_X2_get.2.1 2 = .ok (.invokevirtual 15, 3) := by decide +kernel
theorem dX2_get_5 : decode M_X2_get.2.1 5 = .ok (.ifCond .eq 12, 3) := by decide +kernel
theorem dX2_get_8 : decode M_X2_get.2.1 8 = .ok (.iload_n 2, 1) := by decide +kernel
theorem dX2_get_9 : decode M_X2_get.2.1 9 = .ok (.iconst 0, 1) := by decide +kernel
theorem dX2_get_10 : decode M_X2_get.2.1 10 = .ok (.iconst 4, 1) := by decide +kernel
theorem dX2_get_11 : decode M_X2_get.2.1 11 = .ok (.invokestatic 19, 3) := by decide +kernel
theorem dX2_get_14 : decode M_X2_get.2.1 14 = .ok (.ifCond .ne 5, 3) := by decide +kernel
theorem dX2_get_17 : decode M_X2_get.2.1 17 = .ok (.iconst 0, 1) := by decide +kernel
theorem dX2_get_18 : decode M_X2_get.2.1 18 = .ok (.ireturn, 1) := by decide +kernel
theorem dX2_get_19 : decode M_X2_get.2.1 19 = .ok (.aload_n 0, 1) := by decide +kernel
theorem dX2_get_20 : decode M_X2_get.2.1 20 = .ok (.getfield 11, 3) := by decide +kernel
theorem dX2_get_23 : decode M_X2_get.2.1 23 = .ok (.iload_n 1, 1) := by decide +kernel
theorem dX2_get_24 : decode M_X2_get.2.1 24 = .ok (.iconst 5, 1) := by decide +kernel
theorem dX2_get_25 : decode M_X2_get.2.1 25 = .ok (.imul, 1) := by decide +kernel
theorem dX2_get_26 : decode M_X2_get.2.1 26 = .ok (.iload_n 2, 1) := by decide +kernel
theorem dX2_get_27 : decode M_X2_get.2.1 27 = .ok (.iadd, 1) := by decide +kernel
theorem dX2_get_28 : decode M_X2_get.2.1 28 = .ok (.iaload, 1) := by decide +kernel
theorem dX2_get_29 : decode M_X2_get.2.1 29 = .ok (.ireturn, 1) := by decide +kernel
theorem dX2_set_0 : decode M_X2_set.2.1 0 = .ok (.aload_n 0, 1) := by decide +kernel
theorem dX2_set_1 : decode M_X2_set.2.1 1 = .ok (.iload_n 1, 1) := by decide +kernel
theorem dX2_set_2 : decode M_X2_set.2.1 2 = .ok (.invokevirtual 15, 3) := by decide +kernel
theorem dX2_set_5 : decode M_X2_set.2.1 5 = .ok (.ifCond .eq 23, 3) := by decide +kernel
theorem dX2_set_8 : decode M_X2_set.2.1 8 = .ok (.iload_n 2, 1) := by decide +kernel
theorem dX2_set_9 : decode M_X2_set.2.1 9 = .ok (.iconst 0, 1) := by decide +kernel
theorem dX2_set_10 : decode M_X2_set.2.1 10 = .ok (.iconst 4, 1) := by decide +kernel
theorem dX2_set_11 : decode M_X2_set.2.1 11 = .ok (.invokestatic 19, 3) := by decide +kernel
theorem dX2_set_14 : decode M_X2_set.2.1 14 = .ok (.ifCond .eq 14, 3) := by decide +kernel
theorem dX2_set_17 : decode M_X2_set.2.1 17 = .ok (.aload_n 0, 1) := by decide +kernel
theorem dX2_set_18 : decode M_X2_set.2.1 18 = .ok (.getfield 11, 3) := by decide +kernel
theorem dX2_set_21 : decode M_X2_set.2.1 21 = .ok (.iload_n 1, 1) := by decide +kernel
theorem dX2_set_22 : decode M_X2_set.2.1 22 = .ok (.iconst 5, 1) := by decide +kernel
theorem dX2_set_23 : decode M_X2_set.2.1 23 = .ok (.imul, 1) := by decide +kernel
theorem dX2_set_24 : decode M_X2_set.2.1 24 = .ok (.iload_n 2, 1) := by decide +kernel
theorem dX2_set_25 : decode M_X2_set.2.1 25 = .ok (.iadd, 1) := by decide +kernel
theorem dX2_set_26 : decode M_X2_set.2.1 26 = .ok (.iload_n 3, 1) := by decide +kernel
theorem dX2_set_27 : decode M_X2_set.2.1 27 = .ok (.iastore, 1) := by decide +kernel
theorem dX2_set_28 : decode M_X2_set.2.1 28 = .ok (.return_, 1) := by decide +kernel
theorem dX2_empty_0 : decode M_X2_empty.2.1 0 = .ok (.aload_n 0, 1) := by decide +kernel
theorem dX2_empty_1 : decode M_X2_empty.2.1 1 = .ok (.getfield 11, 3) := by decide +kernel
theorem dX2_empty_4 : decode M_X2_empty.2.1 4 = .ok (.bipush 20, 2) := by decide +kernel
theorem dX2_empty_6 : decode M_X2_empty.2.1 6 = .ok (.iconst 0, 1) := by decide +kernel
theorem dX2_empty_7 : decode M_X2_empty.2.1 7 = .ok (.iastore, 1) := by decide +kernel
theorem dX2_empty_8 : decode M_X2_empty.2.1 8 = .ok (.return_, 1) := by decide +kernel
theorem dX2_add_0 : decode M_X2_add.2.1 0 = .ok (.aload_n 0, 1) := by decide +kernel
theorem dX2_add_1 : decode M_X2_add.2.1 1 = .ok (.invokevirtual 23, 3) := by decide +kernel
theorem dX2_add_4 : decode M_X2_add.2.1 4 = .ok (.istore 4, 2) := by decide +kernel
theorem dX2_add_6 : decode M_X2_add.2.1 6 = .ok (.iload 4, 2) := by decide +kernel
theorem dX2_add_8 : decode M_X2_add.2.1 8 = .ok (.iconst 4, 1) := by decide +kernel
theorem dX2_add_9 : decode M_X2_add.2.1 9 = .ok (.if_icmp .lt 4, 3) := by decide +kernel
theorem dX2_add_12 : decode M_X2_add.2.1 12 = .ok (.return_, 1) := by decide +kernel
theorem dX2_add_13 : decode M_X2_add.2.1 13 = .ok (.aload_n 0, 1) := by decide +kernel
theorem dX2_add_14 : decode M_X2_add.2.1 14 = .ok (.getfield 11, 3) := by decide +kernel
theorem dX2_add_17 : decode M_X2_add.2.1 17 = .ok (.bipush 20, 2) := by decide +kernel
theorem dX2_add_19 : decode M_X2_add.2.1 19 = .ok (.iload 4, 2) := by decide +kernel
theorem dX2_add_21 : decode M_X2_add.2.1 21 = .ok (.iconst 1, 1) := by decide +kernel
theorem dX2_add_22 : decode M_X2_add.2.1 22 = .ok (.iadd, 1) := by decide +kernel
theorem dX2_add_23 : decode M_X2_add.2.1 23 = .ok (.iastore, 1) := by decide +kernel
theorem dX2_add_24 : decode M_X2_add.2.1 24 = .ok (.aload_n 0, 1) := by decide +kernel
theorem dX2_add_25 : decode M_X2_add.2.1 25 = .ok (.iload 4, 2) := by decide +kernel
theorem dX2_add_27 : decode M_X2_add.2.1 27 = .ok (.iconst 0, 1) := by decide +kernel
theorem dX2_add_28 : decode M_X2_add.2.1 28 = .ok (.iload_n 1, 1) := by decide +kernel
theorem dX2_add_29 : decode M_X2_add.2.1 29 = .ok (.invokevirtual 27, 3) := by decide +kernel
theorem dX2_add_32 : decode M_X2_add.2.1 32 = .ok (.aload_n 0, 1) := by decide +kernel
theorem dX2_add_33 : decode M_X2_add.2.1 33 = .ok (.iload 4, 2) := by decide +kernel
theorem dX2_add_35 : decode M_X2_add.2.1 35 = .ok (.iconst 1, 1) := by decide +kernel
theorem dX2_add_36 : decode M_X2_add.2.1 36 = .ok (.iload_n 2, 1) := by decide +kernel
theorem dX2_add_37 : decode M_X2_add.2.1 37 = .ok (.invokevirtual 27, 3) := by decide +kernel
theorem dX2_add_40 : decode M_X2_add.2.1 40 = .ok (.aload_n 0, 1) := by decide +kernel
theorem dX2_add_41 : decode M_X2_add.2.1 41 = .ok (.iload 4, 2) := by decide +kernel
theorem dX2_add_43 : decode M_X2_add.2.1 43 = .ok (.iconst 2, 1) := by decide +kernel
theorem dX2_add_44 : decode M_X2_add.2.1 44 = .ok (.iload_n 3, 1) := by decide +kernel
theorem dX2_add_45 : decode M_X2_add.2.1 45 = .ok (.invokevirtual 27, 3) := by decide +kernel
theorem dX2_add_48 : decode M_X2_add.2.1 48 = .ok (.aload_n 0, 1) := by decide +kernel
theorem dX2_add_49 : decode M_X2_add.2.1 49 = .ok (.iload 4, 2) := by decide +kernel
theorem dX2_add_51 : decode M_X2_add.2.1 51 = .ok (.iconst 3, 1) := by decide +kernel
theorem dX2_add_52 : decode M_X2_add.2.1 52 = .ok (.iconst 0, 1) := by decide +kernel
theorem dX2_add_53 : decode M_X2_add.2.1 53 = .ok (.invokevirtual 27, 3) := by decide +kernel
theorem dX2_add_56 : decode M_X2_add.2.1 56 = .ok (.aload_n 0, 1) := by decide +kernel
theorem dX2_add_57 : decode M_X2_add.2.1 57 = .ok (.iload 4, 2) := by decide +kernel
theorem dX2_add_59 : decode M_X2_add.2.1 59 = .ok (.iconst 4, 1) := by decide +kernel
theorem dX2_add_60 : decode M_X2_add.2.1 60 = .ok (.iconst 0, 1) := by decide +kernel
theorem dX2_add_61 : decode M_X2_add.2.1 61 = .ok (.invokevirtual 27, 3) := by decide +kernel
theorem dX2_add_64 : decode M_X2_add.2.1 64 = .ok (.return_, 1) := by decide +kernel
theorem dX2_takeOut_0 : decode M_X2_takeOut.2.1 0 = .ok (.aload_n 0, 1) := by decide +kernel
theorem dX2_takeOut_1 : decode M_X2_takeOut.2.1 1 = .ok (.iload_n 1, 1) := by decide +kernel
theorem dX2_takeOut_2 : decode M_X2_takeOut.2.1 2 = .ok (.invokevirtual 15, 3) := by decide +kernel
theorem dX2_takeOut_5 : decode M_X2_takeOut.2.1 5 = .ok (.ifCond .ne 4, 3) := by decide +kernel
theorem dX2_takeOut_8 : decode M_X2_takeOut.2.1 8 = .ok (.return_, 1) := by decide +kernel
theorem dX2_takeOut_9 : decode M_X2_takeOut.2.1 9 = .ok (.aload_n 0, 1) := by decide +kernel
theorem dX2_takeOut_10 : decode M_X2_takeOut.2.1 10 = .ok (.invokevirtual 23, 3) := by decide +kernel
theorem dX2_takeOut_13 : decode M_X2_takeOut.2.1 13 = .ok (.iconst 1, 1) := by decide +kernel
theorem dX2_takeOut_14 : decode M_X2_takeOut.2.1 14 = .ok (.isub, 1) := by decide +kernel
theorem dX2_takeOut_15 : decode M_X2_takeOut.2.1 15 = .ok (.iload_n 1, 1) := by decide +kernel
theorem dX2_takeOut_16 : decode M_X2_takeOut.2.1 16 = .ok (.isub, 1) := by decide +kernel
theorem dX2_takeOut_17 : decode M_X2_takeOut.2.1 17 = .ok (.istore_n 2, 1) := by decide +kernel
theorem dX2_takeOut_18 : decode M_X2_takeOut.2.1 18 = .ok (.aload_n 0, 1) := by decide +kernel
theorem dX2_takeOut_19 : decode M_X2_takeOut.2.1 19 = .ok (.getfield 11, 3) := by decide +kernel
theorem dX2_takeOut_22 : decode M_X2_takeOut.2.1 22 = .ok (.iload_n 1, 1) := by decide +kernel
theorem dX2_takeOut_23 : decode M_X2_takeOut.2.1 23 = .ok (.iconst 1, 1) := by decide +kernel
theorem dX2_takeOut_24 : decode M_X2_takeOut.2.1 24 = .ok (.iadd, 1) := by decide +kernel
theorem dX2_takeOut_25 : decode M_X2_takeOut.2.1 25 = .ok (.iconst 5, 1) := by decide +kernel
theorem dX2_takeOut_26 : decode M_X2_takeOut.2.1 26 = .ok (.imul, 1) := by decide +kernel
theorem dX2_takeOut_27 : decode M_X2_takeOut.2.1 27 = .ok (.aload_n 0, 1) := by decide +kernel
theorem dX2_takeOut_28 : decode M_X2_takeOut.2.1 28 = .ok (.getfield 11, 3) := by decide +kernel
theorem dX2_takeOut_31 : decode M_X2_takeOut.2.1 31 = .ok (.iload_n 1, 1) := by decide +kernel
theorem dX2_takeOut_32 : decode M_X2_takeOut.2.1 32 = .ok (.iconst 5, 1) := by decide +kernel
theorem dX2_takeOut_33 : decode M_X2_takeOut.2.1 33 = .ok (.imul, 1) := by decide +kernel
theorem dX2_takeOut_34 : decode M_X2_takeOut.2.1 34 = .ok (.iload_n 2, 1) := by decide +kernel
theorem dX2_takeOut_35 : decode M_X2_takeOut.2.1 35 = .ok (.iconst 5, 1) := by decide +kernel
theorem dX2_takeOut_36 : decode M_X2_takeOut.2.1 36 = .ok (.imul, 1) := by decide +kernel
theorem dX2_takeOut_37 : decode M_X2_takeOut.2.1 37 = .ok (.invokestatic 31, 3) := by decide +kernel
theorem dX2_takeOut_40 : decode M_X2_takeOut.2.1 40 = .ok (.aload_n 0, 1) := by decide +kernel
theorem dX2_takeOut_41 : decode M_X2_takeOut.2.1 41 = .ok (.getfield 11, 3) := by decide +kernel
theorem dX2_takeOut_44 : decode M_X2_takeOut.2.1 44 = .ok (.bipush 20, 2) := by decide +kernel
theorem dX2_takeOut_46 : decode M_X2_takeOut.2.1 46 = .ok (.dup2, 1) := by decide +kernel
theorem dX2_takeOut_47 : decode M_X2_takeOut.2.1 47 = .ok (.iaload, 1) := by decide +kernel
theorem dX2_takeOut_48 : decode M_X2_takeOut.2.1 48 = .ok (.iconst 1, 1) := by decide +kernel
theorem dX2_takeOut_49 : decode M_X2_takeOut.2.1 49 = .ok (.isub, 1) := by decide +kernel
theorem dX2_takeOut_50 : decode M_X2_takeOut.2.1 50 = .ok (.iastore, 1) := by decide +kernel
theorem dX2_takeOut_51 : decode M_X2_takeOut.2.1 51 = .ok (.return_, 1) := by decide +kernel
theorem dX2_heaviness_0 : decode M_X2_heaviness.2.1 0 = .ok (.iconst 0, 1) := by decide +kernel
theorem dX2_heaviness_1 : decode M_X2_heaviness.2.1 1 = .ok (.istore_n 1, 1) := by decide +kernel
theorem dX2_heaviness_2 : decode M_X2_heaviness.2.1 2 = .ok (.iconst 0, 1) := by decide +kernel
theorem dX2_heaviness_3 : decode M_X2_heaviness.2.1 3 = .ok (.istore_n 2, 1) := by decide +kernel
theorem dX2_heaviness_4 : decode M_X2_heaviness.2.1 4 = .ok (.iload_n 2, 1) := by decide +kernel
theorem dX2_heaviness_5 : decode M_X2_heaviness.2.1 5 = .ok (.aload_n 0, 1) := by decide +kernel
theorem dX2_heaviness_6 : decode M_X2_heaviness.2.1 6 = .ok (.invokevirtual 23, 3) := by decide +kernel
theorem dX2_heaviness_9 : decode M_X2_heaviness.2.1 9 = .ok (.if_icmp .ge 25, 3) := by decide +kernel
theorem dX2_heaviness_12 : decode M_X2_heaviness.2.1 12 = .ok (.iload_n 1, 1) := by decide +kernel
theorem dX2_heaviness_13 : decode M_X2_heaviness.2.1 13 = .ok (.aload_n 0, 1) := by decide +kernel
theorem dX2_heaviness_14 : decode M_X2_heaviness.2.1 14 = .ok (.iload_n 2, 1) := by decide +kernel
theorem dX2_heaviness_15 : decode M_X2_heaviness.2.1 15 = .ok (.iconst 2, 1) := by decide +kernel
theorem dX2_heaviness_16 : decode M_X2_heaviness.2.1 16 = .ok (.invokevirtual 37, 3) := by decide +kernel
theorem dX2_heaviness_19 : decode M_X2_heaviness.2.1 19 = .ok (.aload_n 0, 1) := by decide +kernel
theorem dX2_heaviness_20 : decode M_X2_heaviness.2.1 20 = .ok (.iload_n 2, 1) := by decide +kernel
theorem dX2_heaviness_21 : decode M_X2_heaviness.2.1 21 = .ok (.iconst 3, 1) := by decide +kernel
theorem dX2_heaviness_22 : decode M_X2_heaviness.2.1 22 = .ok (.invokevirtual 37, 3) := by decide +kernel
theorem dX2_heaviness_25 : decode M_X2_heaviness.2.1 25 = .ok (.iadd, 1) := by decide +kernel
theorem dX2_heaviness_26 : decode M_X2_heaviness.2.1 26 = .ok (.iadd, 1) := by decide +kernel
theorem dX2_heaviness_27 : decode M_X2_heaviness.2.1 27 = .ok (.istore_n 1, 1) := by decide +kernel
theorem dX2_heaviness_28 : decode M_X2_heaviness.2.1 28 = .ok (.iinc 2 1, 3) := by decide +kernel
theorem dX2_heaviness_31 : decode M_X2_heaviness.2.1 31 = .ok (.goto (-27), 3) := by decide +kernel
theorem dX2_heaviness_34 : decode M_X2_heaviness.2.1 34 = .ok (.iload_n 1, 1) := by decide +kernel
theorem dX2_heaviness_35 : decode M_X2_heaviness.2.1 35 = .ok (.ireturn, 1) := by decide +kernel
theorem dX2_copy_0 : decode M_X2_copy.2.1 0 = .ok (.aload_n 1, 1) := by decide +kernel
theorem dX2_copy_1 : decode M_X2_copy.2.1 1 = .ok (.getfield 11, 3) := by decide +kernel
theorem dX2_copy_4 : decode M_X2_copy.2.1 4 = .ok (.iconst 0, 1) := by decide +kernel
theorem dX2_copy_5 : decode M_X2_copy.2.1 5 = .ok (.aload_n 0, 1) := by decide +kernel
theorem dX2_copy_6 : decode M_X2_copy.2.1 6 = .ok (.getfield 11, 3) := by decide +kernel
theorem dX2_copy_9 : decode M_X2_copy.2.1 9 = .ok (.iconst 0, 1) := by decide +kernel
theorem dX2_copy_10 : decode M_X2_copy.2.1 10 = .ok (.bipush 21, 2) := by decide +kernel
theorem dX2_copy_12 : decode M_X2_copy.2.1 12 = .ok (.invokestatic 31, 3) := by decide +kernel
theorem dX2_copy_15 : decode M_X2_copy.2.1 15 = .ok (.return_, 1) := by decide +kernel
theorem dX3_init_0 : decode M_X3_init.2.1 0 = .ok (.aload_n 0, 1) := by decide +kernel
theorem dX3_init_1 : decode M_X3_init.2.1 1 = .ok (.invokespecial 1, 3) := by decide +kernel
theorem dX3_init_4 : decode M_X3_init.2.1 4 = .ok (.aload_n 0, 1) := by decide +kernel
theorem dX3_init_5 : decode M_X3_init.2.1 5 = .ok (.iload_n 1, 1) := by decide +kernel
theorem dX3_init_6 : decode M_X3_init.2.1 6 = .ok (.iconst 1, 1) := by decide +kernel
theorem dX3_init_7 : decode M_X3_init.2.1 7 = .ok (.invokestatic 7, 3) := by decide +kernel
theorem dX3_init_10 : decode M_X3_init.2.1 10 = .ok (.putfield 13, 3) := by decide +kernel
theorem dX3_init_13 : decode M_X3_init.2.1 13 = .ok (.aload_n 0, 1) := by decide +kernel
theorem dX3_init_14 : decode M_X3_init.2.1 14 = .ok (.aload_n 0, 1) := by decide +kernel
theorem dX3_init_15 : decode M_X3_init.2.1 15 = .ok (.getfield 13, 3) := by decide +kernel
theorem dX3_init_18 : decode M_X3_init.2.1 18 = .ok (.bipush 21, 2) := by decide +kernel
theorem dX3_init_20 : decode M_X3_init.2.1 20 = .ok (.imul, 1) := by decide +kernel
theorem dX3_init_21 : decode M_X3_init.2.1 21 = .ok (.newarray .int, 2) := by decide +kernel
theorem dX3_init_23 : decode M_X3_init.2.1 23 = .ok (.putfield 21, 3) := by decide +kernel
theorem dX3_init_26 : decode M_X3_init.2.1 26 = .ok (.return_, 1) := by decide +kernel
theorem dX3_write_0 : decode M_X3_write.2.1 0 = .ok (.iload_n 1, 1) := by decide +kernel
theorem dX3_write_1 : decode M_X3_write.2.1 1 = .ok (.iconst 0, 1) := by decide +kernel
theorem dX3_write_2 : decode M_X3_write.2.1 2 = .ok (.aload_n 0, 1) := by decide +kernel
theorem dX3_write_3 : decode M_X3_write.2.1 3 = .ok (.getfield 13, 3) := by decide +kernel
theorem dX3_write_6 : decode M_X3_write.2.1 6 = .ok (.iconst 1, 1) := by decide +kernel
theorem dX3_write_7 : decode M_X3_write.2.1 7 = .ok (.isub, 1) := by decide +kernel
theorem dX3_write_8 : decode M_X3_write.2.1 8 = .ok (.invokestatic 25, 3) := by decide +kernel
theorem dX3_write_11 : decode M_X3_write.2.1 11 = .ok (.ifCond .eq 21, 3) := by decide +kernel
theorem dX3_write_14 : decode M_X3_write.2.1 14 = .ok (.aload_n 2, 1) := by decide +kernel
theorem dX3_write_15 : decode M_X3_write.2.1 15 = .ok (.getfield 31, 3) := by decide +kernel
theorem dX3_write_18 : decode M_X3_write.2.1 18 = .ok (.iconst 0, 1) := by decide +kernel
theorem dX3_write_19 : decode M_X3_write.2.1 19 = .ok (.aload_n 0, 1) := by decide +kernel
theorem dX3_write_20 : decode M_X3_write.2.1 20 = .ok (.getfield 21, 3) := by decide +kernel
theorem dX3_write_23 : decode M_X3_write.2.1 23 = .ok (.iload_n 1, 1) := by decide +kernel
theorem dX3_write_24 : decode M_X3_write.2.1 24 = .ok (.bipush 21, 2) := by decide +kernel
theorem dX3_write_26 : decode M_X3_write.2.1 26 = .ok (.imul, 1) := by decide +kernel
theorem dX3_write_27 : decode M_X3_write.2.1 27 = .ok (.bipush 21, 2) := by decide +kernel
theorem dX3_write_29 : decode M_X3_write.2.1 29 = .ok (.invokestatic 34, 3) := by decide +kernel
theorem dX3_write_32 : decode M_X3_write.2.1 32 = .ok (.return_, 1) := by decide +kernel
theorem dX3_read_0 : decode M_X3_read.2.1 0 = .ok (.iload_n 1, 1) := by decide +kernel
theorem dX3_read_1 : decode M_X3_read.2.1 1 = .ok (.iconst 0, 1) := by decide +kernel
theorem dX3_read_2 : decode M_X3_read.2.1 2 = .ok (.aload_n 0, 1) := by decide +kernel
theorem dX3_read_3 : decode M_X3_read.2.1 3 = .ok (.getfield 13, 3) := by decide +kernel
theorem dX3_read_6 : decode M_X3_read.2.1 6 = .ok (.iconst 1, 1) := by decide +kernel
theorem dX3_read_7 : decode M_X3_read.2.1 7 = .ok (.isub, 1) := by decide +kernel
theorem dX3_read_8 : decode M_X3_read.2.1 8 = .ok (.invokestatic 25, 3) := by decide +kernel
theorem dX3_read_11 : decode M_X3_read.2.1 11 = .ok (.ifCond .eq 21, 3) := by decide +kernel
theorem dX3_read_14 : decode M_X3_read.2.1 14 = .ok (.aload_n 0, 1) := by decide +kernel
theorem dX3_read_15 : decode M_X3_read.2.1 15 = .ok (.getfield 21, 3) := by decide +kernel
theorem dX3_read_18 : decode M_X3_read.2.1 18 = .ok (.iload_n 1, 1) := by decide +kernel
theorem dX3_read_19 : decode M_X3_read.2.1 19 = .ok (.bipush 21, 2) := by decide +kernel
theorem dX3_read_21 : decode M_X3_read.2.1 21 = .ok (.imul, 1) := by decide +kernel
theorem dX3_read_22 : decode M_X3_read.2.1 22 = .ok (.aload_n 2, 1) := by decide +kernel
theorem dX3_read_23 : decode M_X3_read.2.1 23 = .ok (.getfield 31, 3) := by decide +kernel
theorem dX3_read_26 : decode M_X3_read.2.1 26 = .ok (.iconst 0, 1) := by decide +kernel
theorem dX3_read_27 : decode M_X3_read.2.1 27 = .ok (.bipush 21, 2) := by decide +kernel
theorem dX3_read_29 : decode M_X3_read.2.1 29 = .ok (.invokestatic 34, 3) := by decide +kernel
theorem dX3_read_32 : decode M_X3_read.2.1 32 = .ok (.return_, 1) := by decide +kernel
theorem dX3_forgetFirst_0 : decode M_X3_forgetFirst.2.1 0 = .ok (.aload_n 0, 1) := by decide +kernel
theorem dX3_forgetFirst_1 : decode M_X3_forgetFirst.2.1 1 = .ok (.getfield 21, 3) := by decide +kernel
theorem dX3_forgetFirst_4 : decode M_X3_forgetFirst.2.1 4 = .ok (.bipush 21, 2) := by decide +kernel
theorem dX3_forgetFirst_6 : decode M_X3_forgetFirst.2.1 6 = .ok (.aload_n 0, 1) := by decide +kernel
theorem dX3_forgetFirst_7 : decode M_X3_forgetFirst.2.1 7 = .ok (.getfield 21, 3) := by decide +kernel
theorem dX3_forgetFirst_10 : decode M_X3_forgetFirst.2.1 10 = .ok (.iconst 0, 1) := by decide +kernel
theorem dX3_forgetFirst_11 : decode M_X3_forgetFirst.2.1 11 = .ok (.aload_n 0, 1) := by decide +kernel
theorem dX3_forgetFirst_12 : decode M_X3_forgetFirst.2.1 12 = .ok (.getfield 13, 3) := by decide +kernel
theorem dX3_forgetFirst_15 : decode M_X3_forgetFirst.2.1 15 = .ok (.iconst 1, 1) := by decide +kernel
theorem dX3_forgetFirst_16 : decode M_X3_forgetFirst.2.1 16 = .ok (.isub, 1) := by decide +kernel
theorem dX3_forgetFirst_17 : decode M_X3_forgetFirst.2.1 17 = .ok (.bipush 21, 2) := by decide +kernel
theorem dX3_forgetFirst_19 : decode M_X3_forgetFirst.2.1 19 = .ok (.imul, 1) := by decide +kernel
theorem dX3_forgetFirst_20 : decode M_X3_forgetFirst.2.1 20 = .ok (.invokestatic 34, 3) := by decide +kernel
theorem dX3_forgetFirst_23 : decode M_X3_forgetFirst.2.1 23 = .ok (.return_, 1) := by decide +kernel
theorem dX4_init_0 : decode M_X4_init.2.1 0 = .ok (.aload_n 0, 1) := by decide +kernel
theorem dX4_init_1 : decode M_X4_init.2.1 1 = .ok (.invokespecial 3, 3) := by decide +kernel
theorem dX4_init_4 : decode M_X4_init.2.1 4 = .ok (.aload_n 0, 1) := by decide +kernel
theorem dX4_init_5 : decode M_X4_init.2.1 5 = .ok (.bipush 120, 2) := by decide +kernel
theorem dX4_init_7 : decode M_X4_init.2.1 7 = .ok (.newarray .short, 2) := by decide +kernel
theorem dX4_init_9 : decode M_X4_init.2.1 9 = .ok (.putfield 9, 3) := by decide +kernel
theorem dX4_init_12 : decode M_X4_init.2.1 12 = .ok (.aload_n 0, 1) := by decide +kernel
theorem dX4_init_13 : decode M_X4_init.2.1 13 = .ok (.iconst 0, 1) := by decide +kernel
theorem dX4_init_14 : decode M_X4_init.2.1 14 = .ok (.putfield 15, 3) := by decide +kernel
theorem dX4_init_17 : decode M_X4_init.2.1 17 = .ok (.aload_n 0, 1) := by decide +kernel
theorem dX4_init_18 : decode M_X4_init.2.1 18 = .ok (.iconst 0, 1) := by decide +kernel
theorem dX4_init_19 : decode M_X4_init.2.1 19 = .ok (.putfield 19, 3) := by decide +kernel
theorem dX4_init_22 : decode M_X4_init.2.1 22 = .ok (.return_, 1) := by decide +kernel
theorem dX4_length_0 : decode M_X4_length.2.1 0 = .ok (.aload_n 0, 1) := by decide +kernel
theorem dX4_length_1 : decode M_X4_length.2.1 1 = .ok (.getfield 15, 3) := by decide +kernel
theorem dX4_length_4 : decode M_X4_length.2.1 4 = .ok (.ireturn, 1) := by decide +kernel
theorem dX4_place_0 : decode M_X4_place.2.1 0 = .ok (.aload_n 0, 1) := by decide +kernel
theorem dX4_place_1 : decode M_X4_place.2.1 1 = .ok (.getfield 19, 3) := by decide +kernel
theorem dX4_place_4 : decode M_X4_place.2.1 4 = .ok (.ireturn, 1) := by decide +kernel
theorem dX4_append_0 : decode M_X4_append.2.1 0 = .ok (.aload_n 0, 1) := by decide +kernel
theorem dX4_append_1 : decode M_X4_append.2.1 1 = .ok (.getfield 15, 3) := by decide +kernel
theorem dX4_append_4 : decode M_X4_append.2.1 4 = .ok (.bipush 120, 2) := by decide +kernel
theorem dX4_append_6 : decode M_X4_append.2.1 6 = .ok (.if_icmp .lt 5, 3) := by decide +kernel
theorem dX4_append_9 : decode M_X4_append.2.1 9 = .ok (.iconst 0, 1) := by decide +kernel
theorem dX4_append_10 : decode M_X4_append.2.1 10 = .ok (.ireturn, 1) := by decide +kernel
theorem dX4_append_11 : decode M_X4_append.2.1 11 = .ok (.aload_n 0, 1) := by decide +kernel
theorem dX4_append_12 : decode M_X4_append.2.1 12 = .ok (.getfield 9, 3) := by decide +kernel
theorem dX4_append_15 : decode M_X4_append.2.1 15 = .ok (.aload_n 0, 1) := by decide +kernel
theorem dX4_append_16 : decode M_X4_append.2.1 16 = .ok (.getfield 15, 3) := by decide +kernel
theorem dX4_append_19 : decode M_X4_append.2.1 19 = .ok (.iload_n 1, 1) := by decide +kernel
theorem dX4_append_20 : decode M_X4_append.2.1 20 = .ok (.i2s, 1) := by decide +kernel
theorem dX4_append_21 : decode M_X4_append.2.1 21 = .ok (.sastore, 1) := by decide +kernel
theorem dX4_append_22 : decode M_X4_append.2.1 22 = .ok (.aload_n 0, 1) := by decide +kernel
theorem dX4_append_23 : decode M_X4_append.2.1 23 = .ok (.dup, 1) := by decide +kernel
theorem dX4_append_24 : decode M_X4_append.2.1 24 = .ok (.getfield 15, 3) := by decide +kernel
theorem dX4_append_27 : decode M_X4_append.2.1 27 = .ok (.iconst 1, 1) := by decide +kernel
theorem dX4_append_28 : decode M_X4_append.2.1 28 = .ok (.iadd, 1) := by decide +kernel
theorem dX4_append_29 : decode M_X4_append.2.1 29 = .ok (.putfield 15, 3) := by decide +kernel
theorem dX4_append_32 : decode M_X4_append.2.1 32 = .ok (.iconst 1, 1) := by decide +kernel
theorem dX4_append_33 : decode M_X4_append.2.1 33 = .ok (.ireturn, 1) := by decide +kernel
theorem dX4_wipe_0 : decode M_X4_wipe.2.1 0 = .ok (.aload_n 0, 1) := by decide +kernel
theorem dX4_wipe_1 : decode M_X4_wipe.2.1 1 = .ok (.iconst 0, 1) := by decide +kernel
theorem dX4_wipe_2 : decode M_X4_wipe.2.1 2 = .ok (.putfield 15, 3) := by decide +kernel
theorem dX4_wipe_5 : decode M_X4_wipe.2.1 5 = .ok (.return_, 1) := by decide +kernel
theorem dX4_readInto_0 : decode M_X4_readInto.2.1 0 = .ok (.aload_n 1, 1) := by decide +kernel
theorem dX4_readInto_1 : decode M_X4_readInto.2.1 1 = .ok (.invokevirtual 22, 3) := by decide +kernel
theorem dX4_readInto_4 : decode M_X4_readInto.2.1 4 = .ok (.aload_n 0, 1) := by decide +kernel
theorem dX4_readInto_5 : decode M_X4_readInto.2.1 5 = .ok (.iconst 0, 1) := by decide +kernel
theorem dX4_readInto_6 : decode M_X4_readInto.2.1 6 = .ok (.putfield 19, 3) := by decide +kernel
theorem dX4_readInto_9 : decode M_X4_readInto.2.1 9 = .ok (.iconst 0, 1) := by decide +kernel
theorem dX4_readInto_10 : decode M_X4_readInto.2.1 10 = .ok (.istore_n 2, 1) := by decide +kernel
theorem dX4_readInto_11 : decode M_X4_readInto.2.1 11 = .ok (.iload_n 2, 1) := by decide +kernel
theorem dX4_readInto_12 : decode M_X4_readInto.2.1 12 = .ok (.bipush 120, 2) := by decide +kernel
theorem dX4_readInto_14 : decode M_X4_readInto.2.1 14 = .ok (.if_icmp .gt 36, 3) := by decide +kernel
theorem dX4_readInto_17 : decode M_X4_readInto.2.1 17 = .ok (.aload_n 0, 1) := by decide +kernel
theorem dX4_readInto_18 : decode M_X4_readInto.2.1 18 = .ok (.invokevirtual 27, 3) := by decide +kernel
theorem dX4_readInto_21 : decode M_X4_readInto.2.1 21 = .ok (.aload_n 0, 1) := by decide +kernel
theorem dX4_readInto_22 : decode M_X4_readInto.2.1 22 = .ok (.getfield 19, 3) := by decide +kernel
theorem dX4_readInto_25 : decode M_X4_readInto.2.1 25 = .ok (.aload_n 0, 1) := by decide +kernel
theorem dX4_readInto_26 : decode M_X4_readInto.2.1 26 = .ok (.getfield 15, 3) := by decide +kernel
theorem dX4_readInto_29 : decode M_X4_readInto.2.1 29 = .ok (.if_icmp .lt 5, 3) := by decide +kernel
theorem dX4_readInto_32 : decode M_X4_readInto.2.1 32 = .ok (.iload_n 2, 1) := by decide +kernel
theorem dX4_readInto_33 : decode M_X4_readInto.2.1 33 = .ok (.ireturn, 1) := by decide +kernel
theorem dX4_readInto_34 : decode M_X4_readInto.2.1 34 = .ok (.aload_n 0, 1) := by decide +kernel
theorem dX4_readInto_35 : decode M_X4_readInto.2.1 35 = .ok (.aload_n 1, 1) := by decide +kernel
theorem dX4_readInto_36 : decode M_X4_readInto.2.1 36 = .ok (.invokevirtual 30, 3) := by decide +kernel
theorem dX4_readInto_39 : decode M_X4_readInto.2.1 39 = .ok (.ifCond .ne 5, 3) := by decide +kernel
theorem dX4_readInto_42 : decode M_X4_readInto.2.1 42 = .ok (.iconst (-1), 1) := by decide +kernel
theorem dX4_readInto_43 : decode M_X4_readInto.2.1 43 = .ok (.ireturn, 1) := by decide +kernel
theorem dX4_readInto_44 : decode M_X4_readInto.2.1 44 = .ok (.iinc 2 1, 3) := by decide +kernel
theorem dX4_readInto_47 : decode M_X4_readInto.2.1 47 = .ok (.goto (-36), 3) := by decide +kernel
theorem dX4_readInto_50 : decode M_X4_readInto.2.1 50 = .ok (.iconst (-1), 1) := by decide +kernel
theorem dX4_readInto_51 : decode M_X4_readInto.2.1 51 = .ok (.ireturn, 1) := by decide +kernel
theorem dX4_readItem_0 : decode M_X4_readItem.2.1 0 = .ok (.aload_n 0, 1) := by decide +kernel
theorem dX4_readItem_1 : decode M_X4_readItem.2.1 1 = .ok (.invokevirtual 34, 3) := by decide +kernel
theorem dX4_readItem_4 : decode M_X4_readItem.2.1 4 = .ok (.lookupswitch 40 #[(98, 28), (108, 34)], 28) := by decide +kernel
theorem dX4_readItem_32 : decode M_X4_readItem.2.1 32 = .ok (.aload_n 0, 1) := by decide +kernel
theorem dX4_readItem_33 : decode M_X4_readItem.2.1 33 = .ok (.aload_n 1, 1) := by decide +kernel
theorem dX4_readItem_34 : decode M_X4_readItem.2.1 34 = .ok (.invokevirtual 38, 3) := by decide +kernel
theorem dX4_readItem_37 : decode M_X4_readItem.2.1 37 = .ok (.ireturn, 1) := by decide +kernel
theorem dX4_readItem_38 : decode M_X4_readItem.2.1 38 = .ok (.aload_n 0, 1) := by decide +kernel
theorem dX4_readItem_39 : decode M_X4_readItem.2.1 39 = .ok (.aload_n 1, 1) := by decide +kernel
theorem dX4_readItem_40 : decode M_X4_readItem.2.1 40 = .ok (.invokevirtual 41, 3) := by decide +kernel
theorem dX4_readItem_43 : decode M_X4_readItem.2.1 43 = .ok (.ireturn, 1) := by decide +kernel
theorem dX4_readItem_44 : decode M_X4_readItem.2.1 44 = .ok (.iconst 0, 1) := by decide +kernel
theorem dX4_readItem_45 : decode M_X4_readItem.2.1 45 = .ok (.ireturn, 1) := by decide +kernel
theorem dX4_readBlock_0 : decode M_X4_readBlock.2.1 0 = .ok (.aload_n 1, 1) := by decide +kernel
theorem dX4_readBlock_1 : decode M_X4_readBlock.2.1 1 = .ok (.invokevirtual 44, 3) := by decide +kernel
theorem dX4_readBlock_4 : decode M_X4_readBlock.2.1 4 = .ok (.iconst 4, 1) := by decide +kernel
theorem dX4_readBlock_5 : decode M_X4_readBlock.2.1 5 = .ok (.if_icmp .lt 5, 3) := by decide +kernel
theorem dX4_readBlock_8 : decode M_X4_readBlock.2.1 8 = .ok (.iconst 0, 1) := by decide +kernel
theorem dX4_readBlock_9 : decode M_X4_readBlock.2.1 9 = .ok (.ireturn, 1) := by decide +kernel
theorem dX4_readBlock_10 : decode M_X4_readBlock.2.1 10 = .ok (.aload_n 0, 1) := by decide +kernel
theorem dX4_readBlock_11 : decode M_X4_readBlock.2.1 11 = .ok (.dup, 1) := by decide +kernel
theorem dX4_readBlock_12 : decode M_X4_readBlock.2.1 12 = .ok (.getfield 19, 3) := by decide +kernel
theorem dX4_readBlock_15 : decode M_X4_readBlock.2.1 15 = .ok (.iconst 1, 1) := by decide +kernel
theorem dX4_readBlock_16 : decode M_X4_readBlock.2.1 16 = .ok (.iadd, 1) := by decide +kernel
theorem dX4_readBlock_17 : decode M_X4_readBlock.2.1 17 = .ok (.putfield 19, 3) := by decide +kernel
theorem dX4_readBlock_20 : decode M_X4_readBlock.2.1 20 = .ok (.aload_n 0, 1) := by decide +kernel
theorem dX4_readBlock_21 : decode M_X4_readBlock.2.1 21 = .ok (.iconst 0, 1) := by decide +kernel
theorem dX4_readBlock_22 : decode M_X4_readBlock.2.1 22 = .ok (.bipush 9, 2) := by decide +kernel
theorem dX4_readBlock_24 : decode M_X4_readBlock.2.1 24 = .ok (.invokevirtual 47, 3) := by decide +kernel
theorem dX4_readBlock_27 : decode M_X4_readBlock.2.1 27 = .ok (.istore_n 2, 1) := by decide +kernel
theorem dX4_readBlock_28 : decode M_X4_readBlock.2.1 28 = .ok (.iload_n 2, 1) := by decide +kernel
theorem dX4_readBlock_29 : decode M_X4_readBlock.2.1 29 = .ok (.ifCond .ge 5, 3) := by decide +kernel
theorem dX4_readBlock_32 : decode M_X4_readBlock.2.1 32 = .ok (.iconst 0, 1) := by decide +kernel
theorem dX4_readBlock_33 : decode M_X4_readBlock.2.1 33 = .ok (.ireturn, 1) := by decide +kernel
theorem dX4_readBlock_34 : decode M_X4_readBlock.2.1 34 = .ok (.aload_n 0, 1) := by decide +kernel
theorem dX4_readBlock_35 : decode M_X4_readBlock.2.1 35 = .ok (.iconst 1, 1) := by decide +kernel
theorem dX4_readBlock_36 : decode M_X4_readBlock.2.1 36 = .ok (.iconst 3, 1) := by decide +kernel
theorem dX4_readBlock_37 : decode M_X4_readBlock.2.1 37 = .ok (.invokevirtual 47, 3) := by decide +kernel
theorem dX4_readBlock_40 : decode M_X4_readBlock.2.1 40 = .ok (.istore_n 3, 1) := by decide +kernel
theorem dX4_readBlock_41 : decode M_X4_readBlock.2.1 41 = .ok (.iload_n 3, 1) := by decide +kernel
theorem dX4_readBlock_42 : decode M_X4_readBlock.2.1 42 = .ok (.ifCond .ge 5, 3) := by decide +kernel
theorem dX4_readBlock_45 : decode M_X4_readBlock.2.1 45 = .ok (.iconst 0, 1) := by decide +kernel
theorem dX4_readBlock_46 : decode M_X4_readBlock.2.1 46 = .ok (.ireturn, 1) := by decide +kernel
theorem dX4_readBlock_47 : decode M_X4_readBlock.2.1 47 = .ok (.aload_n 0, 1) := by decide +kernel
theorem dX4_readBlock_48 : decode M_X4_readBlock.2.1 48 = .ok (.iconst 1, 1) := by decide +kernel
theorem dX4_readBlock_49 : decode M_X4_readBlock.2.1 49 = .ok (.bipush 9, 2) := by decide +kernel
theorem dX4_readBlock_51 : decode M_X4_readBlock.2.1 51 = .ok (.invokevirtual 47, 3) := by decide +kernel
theorem dX4_readBlock_54 : decode M_X4_readBlock.2.1 54 = .ok (.istore 4, 2) := by decide +kernel
theorem dX4_readBlock_56 : decode M_X4_readBlock.2.1 56 = .ok (.iload 4, 2) := by decide +kernel
theorem dX4_readBlock_58 : decode M_X4_readBlock.2.1 58 = .ok (.ifCond .lt 10, 3) := by decide +kernel
theorem dX4_readBlock_61 : decode M_X4_readBlock.2.1 61 = .ok (.aload_n 0, 1) := by decide +kernel
theorem dX4_readBlock_62 : decode M_X4_readBlock.2.1 62 = .ok (.invokevirtual 51, 3) := by decide +kernel
theorem dX4_readBlock_65 : decode M_X4_readBlock.2.1 65 = .ok (.ifCond .ne 5, 3) := by decide +kernel
theorem dX4_readBlock_68 : decode M_X4_readBlock.2.1 68 = .ok (.iconst 0, 1) := by decide +kernel
theorem dX4_readBlock_69 : decode M_X4_readBlock.2.1 69 = .ok (.ireturn, 1) := by decide +kernel
theorem dX4_readBlock_70 : decode M_X4_readBlock.2.1 70 = .ok (.aload_n 1, 1) := by decide +kernel
theorem dX4_readBlock_71 : decode M_X4_readBlock.2.1 71 = .ok (.iload_n 2, 1) := by decide +kernel
theorem dX4_readBlock_72 : decode M_X4_readBlock.2.1 72 = .ok (.iload_n 3, 1) := by decide +kernel
theorem dX4_readBlock_73 : decode M_X4_readBlock.2.1 73 = .ok (.iload 4, 2) := by decide +kernel
theorem dX4_readBlock_75 : decode M_X4_readBlock.2.1 75 = .ok (.invokevirtual 55, 3) := by decide +kernel
theorem dX4_readBlock_78 : decode M_X4_readBlock.2.1 78 = .ok (.iconst 1, 1) := by decide +kernel
theorem dX4_readBlock_79 : decode M_X4_readBlock.2.1 79 = .ok (.ireturn, 1) := by decide +kernel
theorem dX4_readLoad_0 : decode M_X4_readLoad.2.1 0 = .ok (.aload_n 0, 1) := by decide +kernel
theorem dX4_readLoad_1 : decode M_X4_readLoad.2.1 1 = .ok (.dup, 1) := by decide +kernel
theorem dX4_readLoad_2 : decode M_X4_readLoad.2.1 2 = .ok (.getfield 19, 3) := by decide +kernel
theorem dX4_readLoad_5 : decode M_X4_readLoad.2.1 5 = .ok (.iconst 1, 1) := by decide +kernel
theorem dX4_readLoad_6 : decode M_X4_readLoad.2.1 6 = .ok (.iadd, 1) := by decide +kernel
theorem dX4_readLoad_7 : decode M_X4_readLoad.2.1 7 = .ok (.putfield 19, 3) := by decide +kernel
theorem dX4_readLoad_10 : decode M_X4_readLoad.2.1 10 = .ok (.aload_n 0, 1) := by decide +kernel
theorem dX4_readLoad_11 : decode M_X4_readLoad.2.1 11 = .ok (.iconst 0, 1) := by decide +kernel
theorem dX4_readLoad_12 : decode M_X4_readLoad.2.1 12 = .ok (.aload_n 1, 1) := by decide +kernel
theorem dX4_readLoad_13 : decode M_X4_readLoad.2.1 13 = .ok (.invokevirtual 44, 3) := by decide +kernel
theorem dX4_readLoad_16 : decode M_X4_readLoad.2.1 16 = .ok (.iconst 1, 1) := by decide +kernel
theorem dX4_readLoad_17 : decode M_X4_readLoad.2.1 17 = .ok (.isub, 1) := by decide +kernel
theorem dX4_readLoad_18 : decode M_X4_readLoad.2.1 18 = .ok (.invokevirtual 47, 3) := by decide +kernel
theorem dX4_readLoad_21 : decode M_X4_readLoad.2.1 21 = .ok (.istore_n 2, 1) := by decide +kernel
theorem dX4_readLoad_22 : decode M_X4_readLoad.2.1 22 = .ok (.iload_n 2, 1) := by decide +kernel
theorem dX4_readLoad_23 : decode M_X4_readLoad.2.1 23 = .ok (.ifCond .ge 5, 3) := by decide +kernel
theorem dX4_readLoad_26 : decode M_X4_readLoad.2.1 26 = .ok (.iconst 0, 1) := by decide +kernel
theorem dX4_readLoad_27 : decode M_X4_readLoad.2.1 27 = .ok (.ireturn, 1) := by decide +kernel
theorem dX4_readLoad_28 : decode M_X4_readLoad.2.1 28 = .ok (.aload_n 0, 1) := by decide +kernel
theorem dX4_readLoad_29 : decode M_X4_readLoad.2.1 29 = .ok (.iconst 0, 1) := by decide +kernel
theorem dX4_readLoad_30 : decode M_X4_readLoad.2.1 30 = .ok (.iconst 2, 1) := by decide +kernel
theorem dX4_readLoad_31 : decode M_X4_readLoad.2.1 31 = .ok (.aload_n 1, 1) := by decide +kernel
theorem dX4_readLoad_32 : decode M_X4_readLoad.2.1 32 = .ok (.iload_n 2, 1) := by decide +kernel
theorem dX4_readLoad_33 : decode M_X4_readLoad.2.1 33 = .ok (.iconst 1, 1) := by decide +kernel
theorem dX4_readLoad_34 : decode M_X4_readLoad.2.1 34 = .ok (.invokevirtual 59, 3) := by decide +kernel
theorem dX4_readLoad_37 : decode M_X4_readLoad.2.1 37 = .ok (.imul, 1) := by decide +kernel
theorem dX4_readLoad_38 : decode M_X4_readLoad.2.1 38 = .ok (.invokevirtual 47, 3) := by decide +kernel
theorem dX4_readLoad_41 : decode M_X4_readLoad.2.1 41 = .ok (.istore_n 3, 1) := by decide +kernel
theorem dX4_readLoad_42 : decode M_X4_readLoad.2.1 42 = .ok (.iload_n 3, 1) := by decide +kernel
theorem dX4_readLoad_43 : decode M_X4_readLoad.2.1 43 = .ok (.ifCond .ge 5, 3) := by decide +kernel
theorem dX4_readLoad_46 : decode M_X4_readLoad.2.1 46 = .ok (.iconst 0, 1) := by decide +kernel
theorem dX4_readLoad_47 : decode M_X4_readLoad.2.1 47 = .ok (.ireturn, 1) := by decide +kernel
theorem dX4_readLoad_48 : decode M_X4_readLoad.2.1 48 = .ok (.aload_n 0, 1) := by decide +kernel
theorem dX4_readLoad_49 : decode M_X4_readLoad.2.1 49 = .ok (.iconst 0, 1) := by decide +kernel
theorem dX4_readLoad_50 : decode M_X4_readLoad.2.1 50 = .ok (.bipush 20, 2) := by decide +kernel
theorem dX4_readLoad_52 : decode M_X4_readLoad.2.1 52 = .ok (.invokevirtual 47, 3) := by decide +kernel
theorem dX4_readLoad_55 : decode M_X4_readLoad.2.1 55 = .ok (.istore 4, 2) := by decide +kernel
theorem dX4_readLoad_57 : decode M_X4_readLoad.2.1 57 = .ok (.iload 4, 2) := by decide +kernel
theorem dX4_readLoad_59 : decode M_X4_readLoad.2.1 59 = .ok (.ifCond .lt 10, 3) := by decide +kernel
theorem dX4_readLoad_62 : decode M_X4_readLoad.2.1 62 = .ok (.aload_n 0, 1) := by decide +kernel
theorem dX4_readLoad_63 : decode M_X4_readLoad.2.1 63 = .ok (.invokevirtual 51, 3) := by decide +kernel
theorem dX4_readLoad_66 : decode M_X4_readLoad.2.1 66 = .ok (.ifCond .ne 5, 3) := by decide +kernel
theorem dX4_readLoad_69 : decode M_X4_readLoad.2.1 69 = .ok (.iconst 0, 1) := by decide +kernel
theorem dX4_readLoad_70 : decode M_X4_readLoad.2.1 70 = .ok (.ireturn, 1) := by decide +kernel
theorem dX4_readLoad_71 : decode M_X4_readLoad.2.1 71 = .ok (.aload_n 1, 1) := by decide +kernel
theorem dX4_readLoad_72 : decode M_X4_readLoad.2.1 72 = .ok (.iload_n 2, 1) := by decide +kernel
theorem dX4_readLoad_73 : decode M_X4_readLoad.2.1 73 = .ok (.iconst 4, 1) := by decide +kernel
theorem dX4_readLoad_74 : decode M_X4_readLoad.2.1 74 = .ok (.iload_n 3, 1) := by decide +kernel
theorem dX4_readLoad_75 : decode M_X4_readLoad.2.1 75 = .ok (.invokevirtual 62, 3) := by decide +kernel
theorem dX4_readLoad_78 : decode M_X4_readLoad.2.1 78 = .ok (.aload_n 1, 1) := by decide +kernel
theorem dX4_readLoad_79 : decode M_X4_readLoad.2.1 79 = .ok (.iload_n 2, 1) := by decide +kernel
theorem dX4_readLoad_80 : decode M_X4_readLoad.2.1 80 = .ok (.iconst 3, 1) := by decide +kernel
theorem dX4_readLoad_81 : decode M_X4_readLoad.2.1 81 = .ok (.iload 4, 2) := by decide +kernel
theorem dX4_readLoad_83 : decode M_X4_readLoad.2.1 83 = .ok (.invokevirtual 62, 3) := by decide +kernel
theorem dX4_readLoad_86 : decode M_X4_readLoad.2.1 86 = .ok (.iconst 1, 1) := by decide +kernel
theorem dX4_readLoad_87 : decode M_X4_readLoad.2.1 87 = .ok (.ireturn, 1) := by decide +kernel
theorem dX4_readNumber_0 : decode M_X4_readNumber.2.1 0 = .ok (.aload_n 0, 1) := by decide +kernel
theorem dX4_readNumber_1 : decode M_X4_readNumber.2.1 1 = .ok (.invokevirtual 27, 3) := by decide +kernel
theorem dX4_readNumber_4 : decode M_X4_readNumber.2.1 4 = .ok (.aload_n 0, 1) := by decide +kernel
theorem dX4_readNumber_5 : decode M_X4_readNumber.2.1 5 = .ok (.getfield 19, 3) := by decide +kernel
theorem dX4_readNumber_8 : decode M_X4_readNumber.2.1 8 = .ok (.istore_n 3, 1) := by decide +kernel
theorem dX4_readNumber_9 : decode M_X4_readNumber.2.1 9 = .ok (.aload_n 0, 1) := by decide +kernel
theorem dX4_readNumber_10 : decode M_X4_readNumber.2.1 10 = .ok (.invokevirtual 34, 3) := by decide +kernel
theorem dX4_readNumber_13 : decode M_X4_readNumber.2.1 13 = .ok (.bipush 48, 2) := by decide +kernel
theorem dX4_readNumber_15 : decode M_X4_readNumber.2.1 15 = .ok (.if_icmp .ne 7, 3) := by decide +kernel
theorem dX4_readNumber_18 : decode M_X4_readNumber.2.1 18 = .ok (.iconst 1, 1) := by decide +kernel
theorem dX4_readNumber_19 : decode M_X4_readNumber.2.1 19 = .ok (.goto 4, 3) := by decide +kernel
theorem dX4_readNumber_22 : decode M_X4_readNumber.2.1 22 = .ok (.iconst 0, 1) := by decide +kernel
theorem dX4_readNumber_23 : decode M_X4_readNumber.2.1 23 = .ok (.istore 4, 2) := by decide +kernel
theorem dX4_readNumber_25 : decode M_X4_readNumber.2.1 25 = .ok (.iconst 0, 1) := by decide +kernel
theorem dX4_readNumber_26 : decode M_X4_readNumber.2.1 26 = .ok (.istore 5, 2) := by decide +kernel
theorem dX4_readNumber_28 : decode M_X4_readNumber.2.1 28 = .ok (.aload_n 0, 1) := by decide +kernel
theorem dX4_readNumber_29 : decode M_X4_readNumber.2.1 29 = .ok (.getfield 19, 3) := by decide +kernel
theorem dX4_readNumber_32 : decode M_X4_readNumber.2.1 32 = .ok (.aload_n 0, 1) := by decide +kernel
theorem dX4_readNumber_33 : decode M_X4_readNumber.2.1 33 = .ok (.getfield 15, 3) := by decide +kernel
theorem dX4_readNumber_36 : decode M_X4_readNumber.2.1 36 = .ok (.if_icmp .ge 46, 3) := by decide +kernel
theorem dX4_readNumber_39 : decode M_X4_readNumber.2.1 39 = .ok (.aload_n 0, 1) := by decide +kernel
theorem dX4_readNumber_40 : decode M_X4_readNumber.2.1 40 = .ok (.invokevirtual 34, 3) := by decide +kernel
theorem dX4_readNumber_43 : decode M_X4_readNumber.2.1 43 = .ok (.invokestatic 65, 3) := by decide +kernel
theorem dX4_readNumber_46 : decode M_X4_readNumber.2.1 46 = .ok (.ifCond .eq 36, 3) := by decide +kernel
theorem dX4_readNumber_49 : decode M_X4_readNumber.2.1 49 = .ok (.bipush 10, 2) := by decide +kernel
theorem dX4_readNumber_51 : decode M_X4_readNumber.2.1 51 = .ok (.iload 5, 2) := by decide +kernel
theorem dX4_readNumber_53 : decode M_X4_readNumber.2.1 53 = .ok (.imul, 1) := by decide +kernel
theorem dX4_readNumber_54 : decode M_X4_readNumber.2.1 54 = .ok (.aload_n 0, 1) := by decide +kernel
theorem dX4_readNumber_55 : decode M_X4_readNumber.2.1 55 = .ok (.invokevirtual 34, 3) := by decide +kernel
theorem dX4_readNumber_58 : decode M_X4_readNumber.2.1 58 = .ok (.iadd, 1) := by decide +kernel
theorem dX4_readNumber_59 : decode M_X4_readNumber.2.1 59 = .ok (.bipush 48, 2) := by decide +kernel
theorem dX4_readNumber_61 : decode M_X4_readNumber.2.1 61 = .ok (.isub, 1) := by decide +kernel
theorem dX4_readNumber_62 : decode M_X4_readNumber.2.1 62 = .ok (.bipush 100, 2) := by decide +kernel
theorem dX4_readNumber_64 : decode M_X4_readNumber.2.1 64 = .ok (.invokestatic 69, 3) := by decide +kernel
theorem dX4_readNumber_67 : decode M_X4_readNumber.2.1 67 = .ok (.istore 5, 2) := by decide +kernel
theorem dX4_readNumber_69 : decode M_X4_readNumber.2.1 69 = .ok (.aload_n 0, 1) := by decide +kernel
theorem dX4_readNumber_70 : decode M_X4_readNumber.2.1 70 = .ok (.dup, 1) := by decide +kernel
theorem dX4_readNumber_71 : decode M_X4_readNumber.2.1 71 = .ok (.getfield 19, 3) := by decide +kernel
theorem dX4_readNumber_74 : decode M_X4_readNumber.2.1 74 = .ok (.iconst 1, 1) := by decide +kernel
theorem dX4_readNumber_75 : decode M_X4_readNumber.2.1 75 = .ok (.iadd, 1) := by decide +kernel
theorem dX4_readNumber_76 : decode M_X4_readNumber.2.1 76 = .ok (.putfield 19, 3) := by decide +kernel
theorem dX4_readNumber_79 : decode M_X4_readNumber.2.1 79 = .ok (.goto (-51), 3) := by decide +kernel
theorem dX4_readNumber_82 : decode M_X4_readNumber.2.1 82 = .ok (.iload 4, 2) := by decide +kernel
theorem dX4_readNumber_84 : decode M_X4_readNumber.2.1 84 = .ok (.ifCond .eq 17, 3) := by decide +kernel
theorem dX4_readNumber_87 : decode M_X4_readNumber.2.1 87 = .ok (.aload_n 0, 1) := by decide +kernel
theorem dX4_readNumber_88 : decode M_X4_readNumber.2.1 88 = .ok (.getfield 19, 3) := by decide +kernel
theorem dX4_readNumber_91 : decode M_X4_readNumber.2.1 91 = .ok (.iload_n 3, 1) := by decide +kernel
theorem dX4_readNumber_92 : decode M_X4_readNumber.2.1 92 = .ok (.isub, 1) := by decide +kernel
theorem dX4_readNumber_93 : decode M_X4_readNumber.2.1 93 = .ok (.iconst 1, 1) := by decide +kernel
theorem dX4_readNumber_94 : decode M_X4_readNumber.2.1 94 = .ok (.if_icmp .le 7, 3) := by decide +kernel
theorem dX4_readNumber_97 : decode M_X4_readNumber.2.1 97 = .ok (.iconst 1, 1) := by decide +kernel
theorem dX4_readNumber_98 : decode M_X4_readNumber.2.1 98 = .ok (.goto 4, 3) := by decide +kernel
theorem dX4_readNumber_101 : decode M_X4_readNumber.2.1 101 = .ok (.iconst 0, 1) := by decide +kernel
theorem dX4_readNumber_102 : decode M_X4_readNumber.2.1 102 = .ok (.istore 6, 2) := by decide +kernel
theorem dX4_readNumber_104 : decode M_X4_readNumber.2.1 104 = .ok (.aload_n 0, 1) := by decide +kernel
theorem dX4_readNumber_105 : decode M_X4_readNumber.2.1 105 = .ok (.getfield 19, 3) := by decide +kernel
theorem dX4_readNumber_108 : decode M_X4_readNumber.2.1 108 = .ok (.iload_n 3, 1) := by decide +kernel
theorem dX4_readNumber_109 : decode M_X4_readNumber.2.1 109 = .ok (.if_icmp .eq 18, 3) := by decide +kernel
theorem dX4_readNumber_112 : decode M_X4_readNumber.2.1 112 = .ok (.iload 6, 2) := by decide +kernel
theorem dX4_readNumber_114 : decode M_X4_readNumber.2.1 114 = .ok (.ifCond .ne 13, 3) := by decide +kernel
theorem dX4_readNumber_117 : decode M_X4_readNumber.2.1 117 = .ok (.iload 5, 2) := by decide +kernel
theorem dX4_readNumber_119 : decode M_X4_readNumber.2.1 119 = .ok (.iload_n 1, 1) := by decide +kernel
theorem dX4_readNumber_120 : decode M_X4_readNumber.2.1 120 = .ok (.iload_n 2, 1) := by decide +kernel
theorem dX4_readNumber_121 : decode M_X4_readNumber.2.1 121 = .ok (.invokestatic 74, 3) := by decide +kernel
theorem dX4_readNumber_124 : decode M_X4_readNumber.2.1 124 = .ok (.ifCond .ne 10, 3) := by decide +kernel
theorem dX4_readNumber_127 : decode M_X4_readNumber.2.1 127 = .ok (.aload_n 0, 1) := by decide +kernel
theorem dX4_readNumber_128 : decode M_X4_readNumber.2.1 128 = .ok (.iload_n 3, 1) := by decide +kernel
theorem dX4_readNumber_129 : decode M_X4_readNumber.2.1 129 = .ok (.putfield 19, 3) := by decide +kernel
theorem dX4_readNumber_132 : decode M_X4_readNumber.2.1 132 = .ok (.iconst (-1), 1) := by decide +kernel
theorem dX4_readNumber_133 : decode M_X4_readNumber.2.1 133 = .ok (.ireturn, 1) := by decide +kernel
theorem dX4_readNumber_134 : decode M_X4_readNumber.2.1 134 = .ok (.iload 5, 2) := by decide +kernel
theorem dX4_readNumber_136 : decode M_X4_readNumber.2.1 136 = .ok (.ireturn, 1) := by decide +kernel
theorem dX4_readEnd_0 : decode M_X4_readEnd.2.1 0 = .ok (.aload_n 0, 1) := by decide +kernel
theorem dX4_readEnd_1 : decode M_X4_readEnd.2.1 1 = .ok (.invokevirtual 27, 3) := by decide +kernel
theorem dX4_readEnd_4 : decode M_X4_readEnd.2.1 4 = .ok (.aload_n 0, 1) := by decide +kernel
theorem dX4_readEnd_5 : decode M_X4_readEnd.2.1 5 = .ok (.invokevirtual 34, 3) := by decide +kernel
theorem dX4_readEnd_8 : decode M_X4_readEnd.2.1 8 = .ok (.bipush 59, 2) := by decide +kernel
theorem dX4_readEnd_10 : decode M_X4_readEnd.2.1 10 = .ok (.if_icmp .eq 5, 3) := by decide +kernel
theorem dX4_readEnd_13 : decode M_X4_readEnd.2.1 13 = .ok (.iconst 0, 1) := by decide +kernel
theorem dX4_readEnd_14 : decode M_X4_readEnd.2.1 14 = .ok (.ireturn, 1) := by decide +kernel
theorem dX4_readEnd_15 : decode M_X4_readEnd.2.1 15 = .ok (.aload_n 0, 1) := by decide +kernel
theorem dX4_readEnd_16 : decode M_X4_readEnd.2.1 16 = .ok (.dup, 1) := by decide +kernel
theorem dX4_readEnd_17 : decode M_X4_readEnd.2.1 17 = .ok (.getfield 19, 3) := by decide +kernel
theorem dX4_readEnd_20 : decode M_X4_readEnd.2.1 20 = .ok (.iconst 1, 1) := by decide +kernel
theorem dX4_readEnd_21 : decode M_X4_readEnd.2.1 21 = .ok (.iadd, 1) := by decide +kernel
theorem dX4_readEnd_22 : decode M_X4_readEnd.2.1 22 = .ok (.putfield 19, 3) := by decide +kernel
theorem dX4_readEnd_25 : decode M_X4_readEnd.2.1 25 = .ok (.iconst 1, 1) := by decide +kernel
theorem dX4_readEnd_26 : decode M_X4_readEnd.2.1 26 = .ok (.ireturn, 1) := by decide +kernel
theorem dX4_skipBlanks_0 : decode M_X4_skipBlanks.2.1 0 = .ok (.aload_n 0, 1) := by decide +kernel
theorem dX4_skipBlanks_1 : decode M_X4_skipBlanks.2.1 1 = .ok (.getfield 19, 3) := by decide +kernel
theorem dX4_skipBlanks_4 : decode M_X4_skipBlanks.2.1 4 = .ok (.aload_n 0, 1) := by decide +kernel
theorem dX4_skipBlanks_5 : decode M_X4_skipBlanks.2.1 5 = .ok (.getfield 15, 3) := by decide +kernel
theorem dX4_skipBlanks_8 : decode M_X4_skipBlanks.2.1 8 = .ok (.if_icmp .ge 25, 3) := by decide +kernel
theorem dX4_skipBlanks_11 : decode M_X4_skipBlanks.2.1 11 = .ok (.aload_n 0, 1) := by decide +kernel
theorem dX4_skipBlanks_12 : decode M_X4_skipBlanks.2.1 12 = .ok (.invokevirtual 34, 3) := by decide +kernel
theorem dX4_skipBlanks_15 : decode M_X4_skipBlanks.2.1 15 = .ok (.bipush 32, 2) := by decide +kernel
theorem dX4_skipBlanks_17 : decode M_X4_skipBlanks.2.1 17 = .ok (.if_icmp .ne 16, 3) := by decide +kernel
theorem dX4_skipBlanks_20 : decode M_X4_skipBlanks.2.1 20 = .ok (.aload_n 0, 1) := by decide +kernel
theorem dX4_skipBlanks_21 : decode M_X4_skipBlanks.2.1 21 = .ok (.dup, 1) := by decide +kernel
theorem dX4_skipBlanks_22 : decode M_X4_skipBlanks.2.1 22 = .ok (.getfield 19, 3) := by decide +kernel
theorem dX4_skipBlanks_25 : decode M_X4_skipBlanks.2.1 25 = .ok (.iconst 1, 1) := by decide +kernel
theorem dX4_skipBlanks_26 : decode M_X4_skipBlanks.2.1 26 = .ok (.iadd, 1) := by decide +kernel
theorem dX4_skipBlanks_27 : decode M_X4_skipBlanks.2.1 27 = .ok (.putfield 19, 3) := by decide +kernel
theorem dX4_skipBlanks_30 : decode M_X4_skipBlanks.2.1 30 = .ok (.goto (-30), 3) := by decide +kernel
theorem dX4_skipBlanks_33 : decode M_X4_skipBlanks.2.1 33 = .ok (.return_, 1) := by decide +kernel
theorem dX4_next_0 : decode M_X4_next.2.1 0 = .ok (.aload_n 0, 1) := by decide +kernel
theorem dX4_next_1 : decode M_X4_next.2.1 1 = .ok (.getfield 19, 3) := by decide +kernel
theorem dX4_next_4 : decode M_X4_next.2.1 4 = .ok (.ifCond .lt 35, 3) := by decide +kernel
theorem dX4_next_7 : decode M_X4_next.2.1 7 = .ok (.aload_n 0, 1) := by decide +kernel
theorem dX4_next_8 : decode M_X4_next.2.1 8 = .ok (.getfield 19, 3) := by decide +kernel
theorem dX4_next_11 : decode M_X4_next.2.1 11 = .ok (.aload_n 0, 1) := by decide +kernel
theorem dX4_next_12 : decode M_X4_next.2.1 12 = .ok (.getfield 15, 3) := by decide +kernel
theorem dX4_next_15 : decode M_X4_next.2.1 15 = .ok (.if_icmp .ge 24, 3) := by decide +kernel
theorem dX4_next_18 : decode M_X4_next.2.1 18 = .ok (.aload_n 0, 1) := by decide +kernel
theorem dX4_next_19 : decode M_X4_next.2.1 19 = .ok (.getfield 19, 3) := by decide +kernel
theorem dX4_next_22 : decode M_X4_next.2.1 22 = .ok (.bipush 120, 2) := by decide +kernel
theorem dX4_next_24 : decode M_X4_next.2.1 24 = .ok (.if_icmp .ge 15, 3) := by decide +kernel
theorem dX4_next_27 : decode M_X4_next.2.1 27 = .ok (.aload_n 0, 1) := by decide +kernel
theorem dX4_next_28 : decode M_X4_next.2.1 28 = .ok (.getfield 9, 3) := by decide +kernel
theorem dX4_next_31 : decode M_X4_next.2.1 31 = .ok (.aload_n 0, 1) := by decide +kernel
