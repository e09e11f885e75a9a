theorem dX0_init_0 : decode M_X0_init.2.1 0 = .ok (.aload_n 0, 1) := by decide +kernel
theorem dX0_init_1 : decode M_X0_init.2.1 1 = .ok (.invokespecial 7, 3) := by decide +kernel
theorem dX0_init_4 : decode M_X0_init.2.1 4 = .ok (.aload_n 0, 1) := by decide +kernel
theorem dX0_init_5 : decode M_X0_init.2.1 5 = .ok (.bipush 8, 2) := by decide +kernel
theorem dX0_init_7 : decode M_X0_init.2.1 7 = .ok (.bipush 14, 2) := by decide +kernel
theorem dX0_init_9 : decode M_X0_init.2.1 9 = .ok (.multianewarray 13 2, 4) := by decide +kernel
theorem dX0_init_13 : decode M_X0_init.2.1 13 = .ok (.putfield 15, 3) := by decide +kernel
theorem dX0_init_16 : decode M_X0_init.2.1 16 = .ok (.aload_n 0, 1) := by decide +kernel
theorem dX0_init_17 : decode M_X0_init.2.1 17 = .ok (.bipush 8, 2) := by decide +kernel
theorem dX0_init_19 : decode M_X0_init.2.1 19 = .ok (.newarray .int, 2) := by decide +kernel
theorem dX0_init_21 : decode M_X0_init.2.1 21 = .ok (.putfield 18, 3) := by decide +kernel
theorem dX0_init_24 : decode M_X0_init.2.1 24 = .ok (.aload_n 0, 1) := by decide +kernel
theorem dX0_init_25 : decode M_X0_init.2.1 25 = .ok (.iconst 4, 1) := by decide +kernel
theorem dX0_init_26 : decode M_X0_init.2.1 26 = .ok (.newarray .int, 2) := by decide +kernel
theorem dX0_init_28 : decode M_X0_init.2.1 28 = .ok (.putfield 22, 3) := by decide +kernel
theorem dX0_init_31 : decode M_X0_init.2.1 31 = .ok (.aload_n 0, 1) := by decide +kernel
theorem dX0_init_32 : decode M_X0_init.2.1 32 = .ok (.iconst 0, 1) := by decide +kernel
theorem dX0_init_33 : decode M_X0_init.2.1 33 = .ok (.putfield 25, 3) := by decide +kernel
theorem dX0_init_36 : decode M_X0_init.2.1 36 = .ok (.aload_n 0, 1) := by decide +kernel
theorem dX0_init_37 : decode M_X0_init.2.1 37 = .ok (.iconst 0, 1) := by decide +kernel
theorem dX0_init_38 : decode M_X0_init.2.1 38 = .ok (.putfield 29, 3) := by decide +kernel
theorem dX0_init_41 : decode M_X0_init.2.1 41 = .ok (.aload_n 0, 1) := by decide +kernel
theorem dX0_init_42 : decode M_X0_init.2.1 42 = .ok (.lconst 1, 1) := by decide +kernel
theorem dX0_init_43 : decode M_X0_init.2.1 43 = .ok (.putfield 32, 3) := by decide +kernel
theorem dX0_init_46 : decode M_X0_init.2.1 46 = .ok (.return_, 1) := by decide +kernel
theorem dX0_pose_0 : decode M_X0_pose.2.1 0 = .ok (.aload_n 0, 1) := by decide +kernel
theorem dX0_pose_1 : decode M_X0_pose.2.1 1 = .ok (.iconst 0, 1) := by decide +kernel
theorem dX0_pose_2 : decode M_X0_pose.2.1 2 = .ok (.putfield 25, 3) := by decide +kernel
theorem dX0_pose_5 : decode M_X0_pose.2.1 5 = .ok (.aload_n 0, 1) := by decide +kernel
theorem dX0_pose_6 : decode M_X0_pose.2.1 6 = .ok (.aload_n 2, 1) := by decide +kernel
theorem dX0_pose_7 : decode M_X0_pose.2.1 7 = .ok (.invokevirtual 36, 3) := by decide +kernel
theorem dX0_pose_10 : decode M_X0_pose.2.1 10 = .ok (.bipush 12, 2) := by decide +kernel
theorem dX0_pose_12 : decode M_X0_pose.2.1 12 = .ok (.invokestatic 40, 3) := by decide +kernel
theorem dX0_pose_15 : decode M_X0_pose.2.1 15 = .ok (.putfield 29, 3) := by decide +kernel
theorem dX0_pose_18 : decode M_X0_pose.2.1 18 = .ok (.aload_n 0, 1) := by decide +kernel
theorem dX0_pose_19 : decode M_X0_pose.2.1 19 = .ok (.lconst 1, 1) := by decide +kernel
theorem dX0_pose_20 : decode M_X0_pose.2.1 20 = .ok (.putfield 32, 3) := by decide +kernel
theorem dX0_pose_23 : decode M_X0_pose.2.1 23 = .ok (.iconst 0, 1) := by decide +kernel
theorem dX0_pose_24 : decode M_X0_pose.2.1 24 = .ok (.istore 4, 2) := by decide +kernel
theorem dX0_pose_26 : decode M_X0_pose.2.1 26 = .ok (.iload 4, 2) := by decide +kernel
theorem dX0_pose_28 : decode M_X0_pose.2.1 28 = .ok (.aload_n 1, 1) := by decide +kernel
theorem dX0_pose_29 : decode M_X0_pose.2.1 29 = .ok (.invokevirtual 46, 3) := by decide +kernel
theorem dX0_pose_32 : decode M_X0_pose.2.1 32 = .ok (.if_icmp .ge 51, 3) := by decide +kernel
theorem dX0_pose_35 : decode M_X0_pose.2.1 35 = .ok (.iload 4, 2) := by decide +kernel
theorem dX0_pose_37 : decode M_X0_pose.2.1 37 = .ok (.iconst 4, 1) := by decide +kernel
theorem dX0_pose_38 : decode M_X0_pose.2.1 38 = .ok (.if_icmp .ge 45, 3) := by decide +kernel
theorem dX0_pose_41 : decode M_X0_pose.2.1 41 = .ok (.aload_n 0, 1) := by decide +kernel
theorem dX0_pose_42 : decode M_X0_pose.2.1 42 = .ok (.getfield 22, 3) := by decide +kernel
theorem dX0_pose_45 : decode M_X0_pose.2.1 45 = .ok (.iload 4, 2) := by decide +kernel
theorem dX0_pose_47 : decode M_X0_pose.2.1 47 = .ok (.iconst (-1), 1) := by decide +kernel
theorem dX0_pose_48 : decode M_X0_pose.2.1 48 = .ok (.iastore, 1) := by decide +kernel
theorem dX0_pose_49 : decode M_X0_pose.2.1 49 = .ok (.iload_n 3, 1) := by decide +kernel
theorem dX0_pose_50 : decode M_X0_pose.2.1 50 = .ok (.iload 4, 2) := by decide +kernel
theorem dX0_pose_52 : decode M_X0_pose.2.1 52 = .ok (.ishr, 1) := by decide +kernel
theorem dX0_pose_53 : decode M_X0_pose.2.1 53 = .ok (.iconst 1, 1) := by decide +kernel
theorem dX0_pose_54 : decode M_X0_pose.2.1 54 = .ok (.iand, 1) := by decide +kernel
theorem dX0_pose_55 : decode M_X0_pose.2.1 55 = .ok (.ifCond .ne 22, 3) := by decide +kernel
theorem dX0_pose_58 : decode M_X0_pose.2.1 58 = .ok (.aload_n 0, 1) := by decide +kernel
theorem dX0_pose_59 : decode M_X0_pose.2.1 59 = .ok (.getfield 25, 3) := by decide +kernel
theorem dX0_pose_62 : decode M_X0_pose.2.1 62 = .ok (.iconst 2, 1) := by decide +kernel
theorem dX0_pose_63 : decode M_X0_pose.2.1 63 = .ok (.iadd, 1) := by decide +kernel
theorem dX0_pose_64 : decode M_X0_pose.2.1 64 = .ok (.bipush 8, 2) := by decide +kernel
theorem dX0_pose_66 : decode M_X0_pose.2.1 66 = .ok (.if_icmp .gt 11, 3) := by decide +kernel
theorem dX0_pose_69 : decode M_X0_pose.2.1 69 = .ok (.aload_n 0, 1) := by decide +kernel
theorem dX0_pose_70 : decode M_X0_pose.2.1 70 = .ok (.aload_n 1, 1) := by decide +kernel
theorem dX0_pose_71 : decode M_X0_pose.2.1 71 = .ok (.aload_n 2, 1) := by decide +kernel
theorem dX0_pose_72 : decode M_X0_pose.2.1 72 = .ok (.iload 4, 2) := by decide +kernel
theorem dX0_pose_74 : decode M_X0_pose.2.1 74 = .ok (.invokevirtual 51, 3) := by decide +kernel
theorem dX0_pose_77 : decode M_X0_pose.2.1 77 = .ok (.iinc 4 1, 3) := by decide +kernel
theorem dX0_pose_80 : decode M_X0_pose.2.1 80 = .ok (.goto (-54), 3) := by decide +kernel
theorem dX0_pose_83 : decode M_X0_pose.2.1 83 = .ok (.return_, 1) := by decide +kernel
theorem dX0_poseBlock_0 : decode M_X0_poseBlock.2.1 0 = .ok (.aload_n 0, 1) := by decide +kernel
theorem dX0_poseBlock_1 : decode M_X0_poseBlock.2.1 1 = .ok (.getfield 25, 3) := by decide +kernel
theorem dX0_poseBlock_4 : decode M_X0_poseBlock.2.1 4 = .ok (.istore 4, 2) := by decide +kernel
theorem dX0_poseBlock_6 : decode M_X0_poseBlock.2.1 6 = .ok (.aload_n 0, 1) := by decide +kernel
theorem dX0_poseBlock_7 : decode M_X0_poseBlock.2.1 7 = .ok (.dup, 1) := by decide +kernel
theorem dX0_poseBlock_8 : decode M_X0_poseBlock.2.1 8 = .ok (.getfield 25, 3) := by decide +kernel
theorem dX0_poseBlock_11 : decode M_X0_poseBlock.2.1 11 = .ok (.iconst 2, 1) := by decide +kernel
theorem dX0_poseBlock_12 : decode M_X0_poseBlock.2.1 12 = .ok (.iadd, 1) := by decide +kernel
theorem dX0_poseBlock_13 : decode M_X0_poseBlock.2.1 13 = .ok (.putfield 25, 3) := by decide +kernel
theorem dX0_poseBlock_16 : decode M_X0_poseBlock.2.1 16 = .ok (.aload_n 0, 1) := by decide +kernel
theorem dX0_poseBlock_17 : decode M_X0_poseBlock.2.1 17 = .ok (.getfield 22, 3) := by decide +kernel
theorem dX0_poseBlock_20 : decode M_X0_poseBlock.2.1 20 = .ok (.iload_n 3, 1) := by decide +kernel
theorem dX0_poseBlock_21 : decode M_X0_poseBlock.2.1 21 = .ok (.iload 4, 2) := by decide +kernel
theorem dX0_poseBlock_23 : decode M_X0_poseBlock.2.1 23 = .ok (.iastore, 1) := by decide +kernel
theorem dX0_poseBlock_24 : decode M_X0_poseBlock.2.1 24 = .ok (.aload_n 0, 1) := by decide +kernel
theorem dX0_poseBlock_25 : decode M_X0_poseBlock.2.1 25 = .ok (.getfield 18, 3) := by decide +kernel
theorem dX0_poseBlock_28 : decode M_X0_poseBlock.2.1 28 = .ok (.iload 4, 2) := by decide +kernel
theorem dX0_poseBlock_30 : decode M_X0_poseBlock.2.1 30 = .ok (.bipush 13, 2) := by decide +kernel
theorem dX0_poseBlock_32 : decode M_X0_poseBlock.2.1 32 = .ok (.iload 4, 2) := by decide +kernel
theorem dX0_poseBlock_34 : decode M_X0_poseBlock.2.1 34 = .ok (.iadd, 1) := by decide +kernel
theorem dX0_poseBlock_35 : decode M_X0_poseBlock.2.1 35 = .ok (.iastore, 1) := by decide +kernel
theorem dX0_poseBlock_36 : decode M_X0_poseBlock.2.1 36 = .ok (.aload_n 0, 1) := by decide +kernel
theorem dX0_poseBlock_37 : decode M_X0_poseBlock.2.1 37 = .ok (.getfield 18, 3) := by decide +kernel
theorem dX0_poseBlock_40 : decode M_X0_poseBlock.2.1 40 = .ok (.iload 4, 2) := by decide +kernel
theorem dX0_poseBlock_42 : decode M_X0_poseBlock.2.1 42 = .ok (.iconst 1, 1) := by decide +kernel
theorem dX0_poseBlock_43 : decode M_X0_poseBlock.2.1 43 = .ok (.iadd, 1) := by decide +kernel
theorem dX0_poseBlock_44 : decode M_X0_poseBlock.2.1 44 = .ok (.bipush 13, 2) := by decide +kernel
theorem dX0_poseBlock_46 : decode M_X0_poseBlock.2.1 46 = .ok (.iload 4, 2) := by decide +kernel
theorem dX0_poseBlock_48 : decode M_X0_poseBlock.2.1 48 = .ok (.iadd, 1) := by decide +kernel
theorem dX0_poseBlock_49 : decode M_X0_poseBlock.2.1 49 = .ok (.iconst 1, 1) := by decide +kernel
theorem dX0_poseBlock_50 : decode M_X0_poseBlock.2.1 50 = .ok (.iadd, 1) := by decide +kernel
theorem dX0_poseBlock_51 : decode M_X0_poseBlock.2.1 51 = .ok (.iastore, 1) := by decide +kernel
theorem dX0_poseBlock_52 : decode M_X0_poseBlock.2.1 52 = .ok (.iconst 0, 1) := by decide +kernel
theorem dX0_poseBlock_53 : decode M_X0_poseBlock.2.1 53 = .ok (.istore 5, 2) := by decide +kernel
theorem dX0_poseBlock_55 : decode M_X0_poseBlock.2.1 55 = .ok (.iload 5, 2) := by decide +kernel
theorem dX0_poseBlock_57 : decode M_X0_poseBlock.2.1 57 = .ok (.aload_n 0, 1) := by decide +kernel
theorem dX0_poseBlock_58 : decode M_X0_poseBlock.2.1 58 = .ok (.getfield 29, 3) := by decide +kernel
theorem dX0_poseBlock_61 : decode M_X0_poseBlock.2.1 61 = .ok (.if_icmp .ge 82, 3) := by decide +kernel
theorem dX0_poseBlock_64 : decode M_X0_poseBlock.2.1 64 = .ok (.aload_n 2, 1) := by decide +kernel
theorem dX0_poseBlock_65 : decode M_X0_poseBlock.2.1 65 = .ok (.iload 5, 2) := by decide +kernel
theorem dX0_poseBlock_67 : decode M_X0_poseBlock.2.1 67 = .ok (.invokevirtual 55, 3) := by decide +kernel
theorem dX0_poseBlock_70 : decode M_X0_poseBlock.2.1 70 = .ok (.iload_n 3, 1) := by decide +kernel
theorem dX0_poseBlock_71 : decode M_X0_poseBlock.2.1 71 = .ok (.if_icmp .ne 7, 3) := by decide +kernel
theorem dX0_poseBlock_74 : decode M_X0_poseBlock.2.1 74 = .ok (.iconst 1, 1) := by decide +kernel
theorem dX0_poseBlock_75 : decode M_X0_poseBlock.2.1 75 = .ok (.goto 18, 3) := by decide +kernel
theorem dX0_poseBlock_78 : decode M_X0_poseBlock.2.1 78 = .ok (.aload_n 2, 1) := by decide +kernel
theorem dX0_poseBlock_79 : decode M_X0_poseBlock.2.1 79 = .ok (.iload 5, 2) := by decide +kernel
theorem dX0_poseBlock_81 : decode M_X0_poseBlock.2.1 81 = .ok (.invokevirtual 59, 3) := by decide +kernel
theorem dX0_poseBlock_84 : decode M_X0_poseBlock.2.1 84 = .ok (.iload_n 3, 1) := by decide +kernel
theorem dX0_poseBlock_85 : decode M_X0_poseBlock.2.1 85 = .ok (.if_icmp .ne 7, 3) := by decide +kernel
theorem dX0_poseBlock_88 : decode M_X0_poseBlock.2.1 88 = .ok (.iconst (-1), 1) := by decide +kernel
theorem dX0_poseBlock_89 : decode M_X0_poseBlock.2.1 89 = .ok (.goto 4, 3) := by decide +kernel
theorem dX0_poseBlock_92 : decode M_X0_poseBlock.2.1 92 = .ok (.iconst 0, 1) := by decide +kernel
theorem dX0_poseBlock_93 : decode M_X0_poseBlock.2.1 93 = .ok (.istore 6, 2) := by decide +kernel
theorem dX0_poseBlock_95 : decode M_X0_poseBlock.2.1 95 = .ok (.aload_n 0, 1) := by decide +kernel
theorem dX0_poseBlock_96 : decode M_X0_poseBlock.2.1 96 = .ok (.getfield 15, 3) := by decide +kernel
theorem dX0_poseBlock_99 : decode M_X0_poseBlock.2.1 99 = .ok (.iload 4, 2) := by decide +kernel
theorem dX0_poseBlock_101 : decode M_X0_poseBlock.2.1 101 = .ok (.aaload, 1) := by decide +kernel
theorem dX0_poseBlock_102 : decode M_X0_poseBlock.2.1 102 = .ok (.iload 5, 2) := by decide +kernel
theorem dX0_poseBlock_104 : decode M_X0_poseBlock.2.1 104 = .ok (.iload 6, 2) := by decide +kernel
theorem dX0_poseBlock_106 : decode M_X0_poseBlock.2.1 106 = .ok (.i2l, 1) := by decide +kernel
theorem dX0_poseBlock_107 : decode M_X0_poseBlock.2.1 107 = .ok (.lastore, 1) := by decide +kernel
theorem dX0_poseBlock_108 : decode M_X0_poseBlock.2.1 108 = .ok (.aload_n 0, 1) := by decide +kernel
theorem dX0_poseBlock_109 : decode M_X0_poseBlock.2.1 109 = .ok (.getfield 15, 3) := by decide +kernel
theorem dX0_poseBlock_112 : decode M_X0_poseBlock.2.1 112 = .ok (.iload 4, 2) := by decide +kernel
theorem dX0_poseBlock_114 : decode M_X0_poseBlock.2.1 114 = .ok (.iconst 1, 1) := by decide +kernel
theorem dX0_poseBlock_115 : decode M_X0_poseBlock.2.1 115 = .ok (.iadd, 1) := by decide +kernel
theorem dX0_poseBlock_116 : decode M_X0_poseBlock.2.1 116 = .ok (.aaload, 1) := by decide +kernel
theorem dX0_poseBlock_117 : decode M_X0_poseBlock.2.1 117 = .ok (.iload 5, 2) := by decide +kernel
theorem dX0_poseBlock_119 : decode M_X0_poseBlock.2.1 119 = .ok (.iload 6, 2) := by decide +kernel
theorem dX0_poseBlock_121 : decode M_X0_poseBlock.2.1 121 = .ok (.aload_n 2, 1) := by decide +kernel
theorem dX0_poseBlock_122 : decode M_X0_poseBlock.2.1 122 = .ok (.iload 5, 2) := by decide +kernel
theorem dX0_poseBlock_124 : decode M_X0_poseBlock.2.1 124 = .ok (.invokevirtual 62, 3) := by decide +kernel
theorem dX0_poseBlock_127 : decode M_X0_poseBlock.2.1 127 = .ok (.aload_n 1, 1) := by decide +kernel
theorem dX0_poseBlock_128 : decode M_X0_poseBlock.2.1 128 = .ok (.iload_n 3, 1) := by decide +kernel
theorem dX0_poseBlock_129 : decode M_X0_poseBlock.2.1 129 = .ok (.iconst 0, 1) := by decide +kernel
theorem dX0_poseBlock_130 : decode M_X0_poseBlock.2.1 130 = .ok (.invokevirtual 65, 3) := by decide +kernel
theorem dX0_poseBlock_133 : decode M_X0_poseBlock.2.1 133 = .ok (.isub, 1) := by decide +kernel
theorem dX0_poseBlock_134 : decode M_X0_poseBlock.2.1 134 = .ok (.imul, 1) := by decide +kernel
theorem dX0_poseBlock_135 : decode M_X0_poseBlock.2.1 135 = .ok (.i2l, 1) := by decide +kernel
theorem dX0_poseBlock_136 : decode M_X0_poseBlock.2.1 136 = .ok (.lastore, 1) := by decide +kernel
theorem dX0_poseBlock_137 : decode M_X0_poseBlock.2.1 137 = .ok (.iinc 5 1, 3) := by decide +kernel
theorem dX0_poseBlock_140 : decode M_X0_poseBlock.2.1 140 = .ok (.goto (-85), 3) := by decide +kernel
theorem dX0_poseBlock_143 : decode M_X0_poseBlock.2.1 143 = .ok (.aload_n 1, 1) := by decide +kernel
theorem dX0_poseBlock_144 : decode M_X0_poseBlock.2.1 144 = .ok (.iload_n 3, 1) := by decide +kernel
theorem dX0_poseBlock_145 : decode M_X0_poseBlock.2.1 145 = .ok (.iconst 2, 1) := by decide +kernel
theorem dX0_poseBlock_146 : decode M_X0_poseBlock.2.1 146 = .ok (.invokevirtual 65, 3) := by decide +kernel
theorem dX0_poseBlock_149 : decode M_X0_poseBlock.2.1 149 = .ok (.istore 5, 2) := by decide +kernel
theorem dX0_poseBlock_151 : decode M_X0_poseBlock.2.1 151 = .ok (.aload_n 1, 1) := by decide +kernel
theorem dX0_poseBlock_152 : decode M_X0_poseBlock.2.1 152 = .ok (.iload_n 3, 1) := by decide +kernel
theorem dX0_poseBlock_153 : decode M_X0_poseBlock.2.1 153 = .ok (.iconst 3, 1) := by decide +kernel
theorem dX0_poseBlock_154 : decode M_X0_poseBlock.2.1 154 = .ok (.invokevirtual 65, 3) := by decide +kernel
theorem dX0_poseBlock_157 : decode M_X0_poseBlock.2.1 157 = .ok (.istore 6, 2) := by decide +kernel
theorem dX0_poseBlock_159 : decode M_X0_poseBlock.2.1 159 = .ok (.aload_n 0, 1) := by decide +kernel
theorem dX0_poseBlock_160 : decode M_X0_poseBlock.2.1 160 = .ok (.getfield 15, 3) := by decide +kernel
theorem dX0_poseBlock_163 : decode M_X0_poseBlock.2.1 163 = .ok (.iload 4, 2) := by decide +kernel
theorem dX0_poseBlock_165 : decode M_X0_poseBlock.2.1 165 = .ok (.aaload, 1) := by decide +kernel
theorem dX0_poseBlock_166 : decode M_X0_poseBlock.2.1 166 = .ok (.bipush 13, 2) := by decide +kernel
theorem dX0_poseBlock_168 : decode M_X0_poseBlock.2.1 168 = .ok (.iload 5, 2) := by decide +kernel
theorem dX0_poseBlock_170 : decode M_X0_poseBlock.2.1 170 = .ok (.iload 6, 2) := by decide +kernel
theorem dX0_poseBlock_172 : decode M_X0_poseBlock.2.1 172 = .ok (.iadd, 1) := by decide +kernel
theorem dX0_poseBlock_173 : decode M_X0_poseBlock.2.1 173 = .ok (.i2l, 1) := by decide +kernel
theorem dX0_poseBlock_174 : decode M_X0_poseBlock.2.1 174 = .ok (.lastore, 1) := by decide +kernel
theorem dX0_poseBlock_175 : decode M_X0_poseBlock.2.1 175 = .ok (.aload_n 0, 1) := by decide +kernel
theorem dX0_poseBlock_176 : decode M_X0_poseBlock.2.1 176 = .ok (.getfield 15, 3) := by decide +kernel
theorem dX0_poseBlock_179 : decode M_X0_poseBlock.2.1 179 = .ok (.iload 4, 2) := by decide +kernel
theorem dX0_poseBlock_181 : decode M_X0_poseBlock.2.1 181 = .ok (.iconst 1, 1) := by decide +kernel
theorem dX0_poseBlock_182 : decode M_X0_poseBlock.2.1 182 = .ok (.iadd, 1) := by decide +kernel
theorem dX0_poseBlock_183 : decode M_X0_poseBlock.2.1 183 = .ok (.aaload, 1) := by decide +kernel
theorem dX0_poseBlock_184 : decode M_X0_poseBlock.2.1 184 = .ok (.bipush 13, 2) := by decide +kernel
theorem dX0_poseBlock_186 : decode M_X0_poseBlock.2.1 186 = .ok (.iload 5, 2) := by decide +kernel
theorem dX0_poseBlock_188 : decode M_X0_poseBlock.2.1 188 = .ok (.aload_n 1, 1) := by decide +kernel
theorem dX0_poseBlock_189 : decode M_X0_poseBlock.2.1 189 = .ok (.iload_n 3, 1) := by decide +kernel
theorem dX0_poseBlock_190 : decode M_X0_poseBlock.2.1 190 = .ok (.iconst 1, 1) := by decide +kernel
theorem dX0_poseBlock_191 : decode M_X0_poseBlock.2.1 191 = .ok (.invokevirtual 65, 3) := by decide +kernel
theorem dX0_poseBlock_194 : decode M_X0_poseBlock.2.1 194 = .ok (.imul, 1) := by decide +kernel
theorem dX0_poseBlock_195 : decode M_X0_poseBlock.2.1 195 = .ok (.iload 6, 2) := by decide +kernel
theorem dX0_poseBlock_197 : decode M_X0_poseBlock.2.1 197 = .ok (.aload_n 1, 1) := by decide +kernel
theorem dX0_poseBlock_198 : decode M_X0_poseBlock.2.1 198 = .ok (.iload_n 3, 1) := by decide +kernel
theorem dX0_poseBlock_199 : decode M_X0_poseBlock.2.1 199 = .ok (.iconst 4, 1) := by decide +kernel
theorem dX0_poseBlock_200 : decode M_X0_poseBlock.2.1 200 = .ok (.invokevirtual 65, 3) := by decide +kernel
theorem dX0_poseBlock_203 : decode M_X0_poseBlock.2.1 203 = .ok (.imul, 1) := by decide +kernel
theorem dX0_poseBlock_204 : decode M_X0_poseBlock.2.1 204 = .ok (.iadd, 1) := by decide +kernel
theorem dX0_poseBlock_205 : decode M_X0_poseBlock.2.1 205 = .ok (.i2l, 1) := by decide +kernel
theorem dX0_poseBlock_206 : decode M_X0_poseBlock.2.1 206 = .ok (.lastore, 1) := by decide +kernel
theorem dX0_poseBlock_207 : decode M_X0_poseBlock.2.1 207 = .ok (.return_, 1) := by decide +kernel
theorem dX0_poseLoad_0 : decode M_X0_poseLoad.2.1 0 = .ok (.aload_n 0, 1) := by decide +kernel
theorem dX0_poseLoad_1 : decode M_X0_poseLoad.2.1 1 = .ok (.getfield 29, 3) := by decide +kernel
theorem dX0_poseLoad_4 : decode M_X0_poseLoad.2.1 4 = .ok (.istore_n 3, 1) := by decide +kernel
theorem dX0_poseLoad_5 : decode M_X0_poseLoad.2.1 5 = .ok (.iload_n 3, 1) := by decide +kernel
theorem dX0_poseLoad_6 : decode M_X0_poseLoad.2.1 6 = .ok (.bipush 13, 2) := by decide +kernel
theorem dX0_poseLoad_8 : decode M_X0_poseLoad.2.1 8 = .ok (.if_icmp .ge 12, 3) := by decide +kernel
theorem dX0_poseLoad_11 : decode M_X0_poseLoad.2.1 11 = .ok (.iload_n 1, 1) := by decide +kernel
theorem dX0_poseLoad_12 : decode M_X0_poseLoad.2.1 12 = .ok (.iconst 0, 1) := by decide +kernel
theorem dX0_poseLoad_13 : decode M_X0_poseLoad.2.1 13 = .ok (.iconst 3, 1) := by decide +kernel
theorem dX0_poseLoad_14 : decode M_X0_poseLoad.2.1 14 = .ok (.invokestatic 68, 3) := by decide +kernel
theorem dX0_poseLoad_17 : decode M_X0_poseLoad.2.1 17 = .ok (.ifCond .ne 5, 3) := by decide +kernel
theorem dX0_poseLoad_20 : decode M_X0_poseLoad.2.1 20 = .ok (.iconst (-1), 1) := by decide +kernel
theorem dX0_poseLoad_21 : decode M_X0_poseLoad.2.1 21 = .ok (.ireturn, 1) := by decide +kernel
theorem dX0_poseLoad_22 : decode M_X0_poseLoad.2.1 22 = .ok (.iconst 0, 1) := by decide +kernel
theorem dX0_poseLoad_23 : decode M_X0_poseLoad.2.1 23 = .ok (.istore 4, 2) := by decide +kernel
theorem dX0_poseLoad_25 : decode M_X0_poseLoad.2.1 25 = .ok (.iload 4, 2) := by decide +kernel
theorem dX0_poseLoad_27 : decode M_X0_poseLoad.2.1 27 = .ok (.aload_n 0, 1) := by decide +kernel
theorem dX0_poseLoad_28 : decode M_X0_poseLoad.2.1 28 = .ok (.getfield 25, 3) := by decide +kernel
theorem dX0_poseLoad_31 : decode M_X0_poseLoad.2.1 31 = .ok (.if_icmp .ge 19, 3) := by decide +kernel
theorem dX0_poseLoad_34 : decode M_X0_poseLoad.2.1 34 = .ok (.aload_n 0, 1) := by decide +kernel
theorem dX0_poseLoad_35 : decode M_X0_poseLoad.2.1 35 = .ok (.getfield 15, 3) := by decide +kernel
theorem dX0_poseLoad_38 : decode M_X0_poseLoad.2.1 38 = .ok (.iload 4, 2) := by decide +kernel
theorem dX0_poseLoad_40 : decode M_X0_poseLoad.2.1 40 = .ok (.aaload, 1) := by decide +kernel
theorem dX0_poseLoad_41 : decode M_X0_poseLoad.2.1 41 = .ok (.iload_n 3, 1) := by decide +kernel
theorem dX0_poseLoad_42 : decode M_X0_poseLoad.2.1 42 = .ok (.lconst 0, 1) := by decide +kernel
theorem dX0_poseLoad_43 : decode M_X0_poseLoad.2.1 43 = .ok (.lastore, 1) := by decide +kernel
theorem dX0_poseLoad_44 : decode M_X0_poseLoad.2.1 44 = .ok (.iinc 4 1, 3) := by decide +kernel
theorem dX0_poseLoad_47 : decode M_X0_poseLoad.2.1 47 = .ok (.goto (-22), 3) := by decide +kernel
theorem dX0_poseLoad_50 : decode M_X0_poseLoad.2.1 50 = .ok (.aload_n 0, 1) := by decide +kernel
theorem dX0_poseLoad_51 : decode M_X0_poseLoad.2.1 51 = .ok (.getfield 22, 3) := by decide +kernel
theorem dX0_poseLoad_54 : decode M_X0_poseLoad.2.1 54 = .ok (.iload_n 1, 1) := by decide +kernel
theorem dX0_poseLoad_55 : decode M_X0_poseLoad.2.1 55 = .ok (.iaload, 1) := by decide +kernel
theorem dX0_poseLoad_56 : decode M_X0_poseLoad.2.1 56 = .ok (.istore 4, 2) := by decide +kernel
theorem dX0_poseLoad_58 : decode M_X0_poseLoad.2.1 58 = .ok (.iload 4, 2) := by decide +kernel
theorem dX0_poseLoad_60 : decode M_X0_poseLoad.2.1 60 = .ok (.ifCond .lt 40, 3) := by decide +kernel
theorem dX0_poseLoad_63 : decode M_X0_poseLoad.2.1 63 = .ok (.iload 4, 2) := by decide +kernel
theorem dX0_poseLoad_65 : decode M_X0_poseLoad.2.1 65 = .ok (.iconst 1, 1) := by decide +kernel
theorem dX0_poseLoad_66 : decode M_X0_poseLoad.2.1 66 = .ok (.iadd, 1) := by decide +kernel
theorem dX0_poseLoad_67 : decode M_X0_poseLoad.2.1 67 = .ok (.aload_n 0, 1) := by decide +kernel
theorem dX0_poseLoad_68 : decode M_X0_poseLoad.2.1 68 = .ok (.getfield 25, 3) := by decide +kernel
theorem dX0_poseLoad_71 : decode M_X0_poseLoad.2.1 71 = .ok (.if_icmp .ge 29, 3) := by decide +kernel
theorem dX0_poseLoad_74 : decode M_X0_poseLoad.2.1 74 = .ok (.aload_n 0, 1) := by decide +kernel
theorem dX0_poseLoad_75 : decode M_X0_poseLoad.2.1 75 = .ok (.getfield 15, 3) := by decide +kernel
theorem dX0_poseLoad_78 : decode M_X0_poseLoad.2.1 78 = .ok (.iload 4, 2) := by decide +kernel
theorem dX0_poseLoad_80 : decode M_X0_poseLoad.2.1 80 = .ok (.aaload, 1) := by decide +kernel
theorem dX0_poseLoad_81 : decode M_X0_poseLoad.2.1 81 = .ok (.iload_n 3, 1) := by decide +kernel
theorem dX0_poseLoad_82 : decode M_X0_poseLoad.2.1 82 = .ok (.ldc2_w 72, 3) := by decide +kernel
theorem dX0_poseLoad_85 : decode M_X0_poseLoad.2.1 85 = .ok (.lastore, 1) := by decide +kernel
theorem dX0_poseLoad_86 : decode M_X0_poseLoad.2.1 86 = .ok (.aload_n 0, 1) := by decide +kernel
theorem dX0_poseLoad_87 : decode M_X0_poseLoad.2.1 87 = .ok (.getfield 15, 3) := by decide +kernel
theorem dX0_poseLoad_90 : decode M_X0_poseLoad.2.1 90 = .ok (.iload 4, 2) := by decide +kernel
theorem dX0_poseLoad_92 : decode M_X0_poseLoad.2.1 92 = .ok (.iconst 1, 1) := by decide +kernel
theorem dX0_poseLoad_93 : decode M_X0_poseLoad.2.1 93 = .ok (.iadd, 1) := by decide +kernel
theorem dX0_poseLoad_94 : decode M_X0_poseLoad.2.1 94 = .ok (.aaload, 1) := by decide +kernel
theorem dX0_poseLoad_95 : decode M_X0_poseLoad.2.1 95 = .ok (.iload_n 3, 1) := by decide +kernel
theorem dX0_poseLoad_96 : decode M_X0_poseLoad.2.1 96 = .ok (.iload_n 2, 1) := by decide +kernel
theorem dX0_poseLoad_97 : decode M_X0_poseLoad.2.1 97 = .ok (.ineg, 1) := by decide +kernel
theorem dX0_poseLoad_98 : decode M_X0_poseLoad.2.1 98 = .ok (.i2l, 1) := by decide +kernel
theorem dX0_poseLoad_99 : decode M_X0_poseLoad.2.1 99 = .ok (.lastore, 1) := by decide +kernel
theorem dX0_poseLoad_100 : decode M_X0_poseLoad.2.1 100 = .ok (.aload_n 0, 1) := by decide +kernel
theorem dX0_poseLoad_101 : decode M_X0_poseLoad.2.1 101 = .ok (.dup, 1) := by decide +kernel
theorem dX0_poseLoad_102 : decode M_X0_poseLoad.2.1 102 = .ok (.getfield 29, 3) := by decide +kernel
theorem dX0_poseLoad_105 : decode M_X0_poseLoad.2.1 105 = .ok (.iconst 1, 1) := by decide +kernel
theorem dX0_poseLoad_106 : decode M_X0_poseLoad.2.1 106 = .ok (.iadd, 1) := by decide +kernel
theorem dX0_poseLoad_107 : decode M_X0_poseLoad.2.1 107 = .ok (.putfield 29, 3) := by decide +kernel
theorem dX0_poseLoad_110 : decode M_X0_poseLoad.2.1 110 = .ok (.iload_n 3, 1) := by decide +kernel
theorem dX0_poseLoad_111 : decode M_X0_poseLoad.2.1 111 = .ok (.ireturn, 1) := by decide +kernel
theorem dX0_solve_0 : decode M_X0_solve.2.1 0 = .ok (.iconst 0, 1) := by decide +kernel
theorem dX0_solve_1 : decode M_X0_solve.2.1 1 = .ok (.istore_n 1, 1) := by decide +kernel
theorem dX0_solve_2 : decode M_X0_solve.2.1 2 = .ok (.iload_n 1, 1) := by decide +kernel
theorem dX0_solve_3 : decode M_X0_solve.2.1 3 = .ok (.ldc 74, 2) := by decide +kernel
theorem dX0_solve_5 : decode M_X0_solve.2.1 5 = .ok (.if_icmp .ge 33, 3) := by decide +kernel
theorem dX0_solve_8 : decode M_X0_solve.2.1 8 = .ok (.aload_n 0, 1) := by decide +kernel
theorem dX0_solve_9 : decode M_X0_solve.2.1 9 = .ok (.invokevirtual 75, 3) := by decide +kernel
theorem dX0_solve_12 : decode M_X0_solve.2.1 12 = .ok (.istore_n 2, 1) := by decide +kernel
theorem dX0_solve_13 : decode M_X0_solve.2.1 13 = .ok (.aload_n 0, 1) := by decide +kernel
theorem dX0_solve_14 : decode M_X0_solve.2.1 14 = .ok (.iload_n 2, 1) := by decide +kernel
theorem dX0_solve_15 : decode M_X0_solve.2.1 15 = .ok (.invokevirtual 78, 3) := by decide +kernel
theorem dX0_solve_18 : decode M_X0_solve.2.1 18 = .ok (.istore_n 3, 1) := by decide +kernel
theorem dX0_solve_19 : decode M_X0_solve.2.1 19 = .ok (.iload_n 3, 1) := by decide +kernel
theorem dX0_solve_20 : decode M_X0_solve.2.1 20 = .ok (.ifCond .ge 6, 3) := by decide +kernel
theorem dX0_solve_23 : decode M_X0_solve.2.1 23 = .ok (.goto 15, 3) := by decide +kernel
theorem dX0_solve_26 : decode M_X0_solve.2.1 26 = .ok (.aload_n 0, 1) := by decide +kernel
theorem dX0_solve_27 : decode M_X0_solve.2.1 27 = .ok (.iload_n 3, 1) := by decide +kernel
theorem dX0_solve_28 : decode M_X0_solve.2.1 28 = .ok (.iload_n 2, 1) := by decide +kernel
theorem dX0_solve_29 : decode M_X0_solve.2.1 29 = .ok (.invokevirtual 81, 3) := by decide +kernel
theorem dX0_solve_32 : decode M_X0_solve.2.1 32 = .ok (.iinc 1 1, 3) := by decide +kernel
theorem dX0_solve_35 : decode M_X0_solve.2.1 35 = .ok (.goto (-33), 3) := by decide +kernel
theorem dX0_solve_38 : decode M_X0_solve.2.1 38 = .ok (.aload_n 0, 1) := by decide +kernel
theorem dX0_solve_39 : decode M_X0_solve.2.1 39 = .ok (.bipush 13, 2) := by decide +kernel
theorem dX0_solve_41 : decode M_X0_solve.2.1 41 = .ok (.invokevirtual 85, 3) := by decide +kernel
theorem dX0_solve_44 : decode M_X0_solve.2.1 44 = .ok (.lconst 0, 1) := by decide +kernel
theorem dX0_solve_45 : decode M_X0_solve.2.1 45 = .ok (.lcmp, 1) := by decide +kernel
theorem dX0_solve_46 : decode M_X0_solve.2.1 46 = .ok (.ifCond .eq 5, 3) := by decide +kernel
theorem dX0_solve_49 : decode M_X0_solve.2.1 49 = .ok (.iconst 0, 1) := by decide +kernel
theorem dX0_solve_50 : decode M_X0_solve.2.1 50 = .ok (.ireturn, 1) := by decide +kernel
theorem dX0_solve_51 : decode M_X0_solve.2.1 51 = .ok (.aload_n 0, 1) := by decide +kernel
theorem dX0_solve_52 : decode M_X0_solve.2.1 52 = .ok (.invokevirtual 89, 3) := by decide +kernel
theorem dX0_solve_55 : decode M_X0_solve.2.1 55 = .ok (.iconst 1, 1) := by decide +kernel
theorem dX0_solve_56 : decode M_X0_solve.2.1 56 = .ok (.ireturn, 1) := by decide +kernel
theorem dX0_makeshift_0 : decode M_X0_makeshift.2.1 0 = .ok (.lconst 0, 1) := by decide +kernel
theorem dX0_makeshift_1 : decode M_X0_makeshift.2.1 1 = .ok (.lstore_n 2, 1) := by decide +kernel
theorem dX0_makeshift_2 : decode M_X0_makeshift.2.1 2 = .ok (.iconst 0, 1) := by decide +kernel
theorem dX0_makeshift_3 : decode M_X0_makeshift.2.1 3 = .ok (.istore 4, 2) := by decide +kernel
theorem dX0_makeshift_5 : decode M_X0_makeshift.2.1 5 = .ok (.iload 4, 2) := by decide +kernel
theorem dX0_makeshift_7 : decode M_X0_makeshift.2.1 7 = .ok (.aload_n 0, 1) := by decide +kernel
theorem dX0_makeshift_8 : decode M_X0_makeshift.2.1 8 = .ok (.getfield 25, 3) := by decide +kernel
theorem dX0_makeshift_11 : decode M_X0_makeshift.2.1 11 = .ok (.if_icmp .ge 33, 3) := by decide +kernel
theorem dX0_makeshift_14 : decode M_X0_makeshift.2.1 14 = .ok (.aload_n 0, 1) := by decide +kernel
theorem dX0_makeshift_15 : decode M_X0_makeshift.2.1 15 = .ok (.getfield 18, 3) := by decide +kernel
theorem dX0_makeshift_18 : decode M_X0_makeshift.2.1 18 = .ok (.iload 4, 2) := by decide +kernel
theorem dX0_makeshift_20 : decode M_X0_makeshift.2.1 20 = .ok (.iaload, 1) := by decide +kernel
theorem dX0_makeshift_21 : decode M_X0_makeshift.2.1 21 = .ok (.bipush 13, 2) := by decide +kernel
theorem dX0_makeshift_23 : decode M_X0_makeshift.2.1 23 = .ok (.if_icmp .lt 15, 3) := by decide +kernel
theorem dX0_makeshift_26 : decode M_X0_makeshift.2.1 26 = .ok (.lload_n 2, 1) := by decide +kernel
theorem dX0_makeshift_27 : decode M_X0_makeshift.2.1 27 = .ok (.aload_n 0, 1) := by decide +kernel
theorem dX0_makeshift_28 : decode M_X0_makeshift.2.1 28 = .ok (.getfield 15, 3) := by decide +kernel
theorem dX0_makeshift_31 : decode M_X0_makeshift.2.1 31 = .ok (.iload 4, 2) := by decide +kernel
theorem dX0_makeshift_33 : decode M_X0_makeshift.2.1 33 = .ok (.aaload, 1) := by decide +kernel
theorem dX0_makeshift_34 : decode M_X0_makeshift.2.1 34 = .ok (.iload_n 1, 1) := by decide +kernel
theorem dX0_makeshift_35 : decode M_X0_makeshift.2.1 35 = .ok (.laload, 1) := by decide +kernel
theorem dX0_makeshift_36 : decode M_X0_makeshift.2.1 36 = .ok (.ladd, 1) := by decide +kernel
theorem dX0_makeshift_37 : decode M_X0_makeshift.2.1 37 = .ok (.lstore_n 2, 1) := by decide +kernel
theorem dX0_makeshift_38 : decode M_X0_makeshift.2.1 38 = .ok (.iinc 4 1, 3) := by decide +kernel
theorem dX0_makeshift_41 : decode M_X0_makeshift.2.1 41 = .ok (.goto (-36), 3) := by decide +kernel
theorem dX0_makeshift_44 : decode M_X0_makeshift.2.1 44 = .ok (.lload_n 2, 1) := by decide +kernel
theorem dX0_makeshift_45 : decode M_X0_makeshift.2.1 45 = .ok (.lreturn, 1) := by decide +kernel
theorem dX0_firstThatLessensMakeshift_0 : decode M_X0_firstThatLessensMakeshift.2.1 0 = .ok (.iconst 0, 1) := by decide +kernel
theorem dX0_firstThatLessensMakeshift_1 : decode M_X0_firstThatLessensMakeshift.2.1 1 = .ok (.istore_n 1, 1) := by decide +kernel
theorem dX0_firstThatLessensMakeshift_2 : decode M_X0_firstThatLessensMakeshift.2.1 2 = .ok (.iload_n 1, 1) := by decide +kernel
theorem dX0_firstThatLessensMakeshift_3 : decode M_X0_firstThatLessensMakeshift.2.1 3 = .ok (.aload_n 0, 1) := by decide +kernel
theorem dX0_firstThatLessensMakeshift_4 : decode M_X0_firstThatLessensMakeshift.2.1 4 = .ok (.getfield 29, 3) := by decide +kernel
theorem dX0_firstThatLessensMakeshift_7 : decode M_X0_firstThatLessensMakeshift.2.1 7 = .ok (.if_icmp .ge 21, 3) := by decide +kernel
theorem dX0_firstThatLessensMakeshift_10 : decode M_X0_firstThatLessensMakeshift.2.1 10 = .ok (.aload_n 0, 1) := by decide +kernel
theorem dX0_firstThatLessensMakeshift_11 : decode M_X0_firstThatLessensMakeshift.2.1 11 = .ok (.iload_n 1, 1) := by decide +kernel
theorem dX0_firstThatLessensMakeshift_12 : decode M_X0_firstThatLessensMakeshift.2.1 12 = .ok (.invokevirtual 85, 3) := by decide +kernel
theorem dX0_firstThatLessensMakeshift_15 : decode M_X0_firstThatLessensMakeshift.2.1 15 = .ok (.lconst 0, 1) := by decide +kernel
theorem dX0_firstThatLessensMakeshift_16 : decode M_X0_firstThatLessensMakeshift.2.1 16 = .ok (.lcmp, 1) := by decide +kernel
theorem dX0_firstThatLessensMakeshift_17 : decode M_X0_firstThatLessensMakeshift.2.1 17 = .ok (.ifCond .le 5, 3) := by decide +kernel
theorem dX0_firstThatLessensMakeshift_20 : decode M_X0_firstThatLessensMakeshift.2.1 20 = .ok (.iload_n 1, 1) := by decide +kernel
theorem dX0_firstThatLessensMakeshift_21 : decode M_X0_firstThatLessensMakeshift.2.1 21 = .ok (.ireturn, 1) := by decide +kernel
theorem dX0_firstThatLessensMakeshift_22 : decode M_X0_firstThatLessensMakeshift.2.1 22 = .ok (.iinc 1 1, 3) := by decide +kernel
theorem dX0_firstThatLessensMakeshift_25 : decode M_X0_firstThatLessensMakeshift.2.1 25 = .ok (.goto (-23), 3) := by decide +kernel
theorem dX0_firstThatLessensMakeshift_28 : decode M_X0_firstThatLessensMakeshift.2.1 28 = .ok (.iconst (-1), 1) := by decide +kernel
theorem dX0_firstThatLessensMakeshift_29 : decode M_X0_firstThatLessensMakeshift.2.1 29 = .ok (.ireturn, 1) := by decide +kernel
theorem dX0_driveOutMakeshift_0 : decode M_X0_driveOutMakeshift.2.1 0 = .ok (.iconst 0, 1) := by decide +kernel
theorem dX0_driveOutMakeshift_1 : decode M_X0_driveOutMakeshift.2.1 1 = .ok (.istore_n 1, 1) := by decide +kernel
theorem dX0_driveOutMakeshift_2 : decode M_X0_driveOutMakeshift.2.1 2 = .ok (.iload_n 1, 1) := by decide +kernel
theorem dX0_driveOutMakeshift_3 : decode M_X0_driveOutMakeshift.2.1 3 = .ok (.aload_n 0, 1) := by decide +kernel
theorem dX0_driveOutMakeshift_4 : decode M_X0_driveOutMakeshift.2.1 4 = .ok (.getfield 25, 3) := by decide +kernel
theorem dX0_driveOutMakeshift_7 : decode M_X0_driveOutMakeshift.2.1 7 = .ok (.if_icmp .ge 55, 3) := by decide +kernel
theorem dX0_driveOutMakeshift_10 : decode M_X0_driveOutMakeshift.2.1 10 = .ok (.iconst 0, 1) := by decide +kernel
theorem dX0_driveOutMakeshift_11 : decode M_X0_driveOutMakeshift.2.1 11 = .ok (.istore_n 2, 1) := by decide +kernel
theorem dX0_driveOutMakeshift_12 : decode M_X0_driveOutMakeshift.2.1 12 = .ok (.iload_n 2, 1) := by decide +kernel
theorem dX0_driveOutMakeshift_13 : decode M_X0_driveOutMakeshift.2.1 13 = .ok (.aload_n 0, 1) := by decide +kernel
theorem dX0_driveOutMakeshift_14 : decode M_X0_driveOutMakeshift.2.1 14 = .ok (.getfield 29, 3) := by decide +kernel
theorem dX0_driveOutMakeshift_17 : decode M_X0_driveOutMakeshift.2.1 17 = .ok (.if_icmp .ge 39, 3) := by decide +kernel
theorem dX0_driveOutMakeshift_20 : decode M_X0_driveOutMakeshift.2.1 20 = .ok (.aload_n 0, 1) := by decide +kernel
theorem dX0_driveOutMakeshift_21 : decode M_X0_driveOutMakeshift.2.1 21 = .ok (.getfield 18, 3) := by decide +kernel
theorem dX0_driveOutMakeshift_24 : decode M_X0_driveOutMakeshift.2.1 24 = .ok (.iload_n 1, 1) := by decide +kernel
theorem dX0_driveOutMakeshift_25 : decode M_X0_driveOutMakeshift.2.1 25 = .ok (.iaload, 1) := by decide +kernel
theorem dX0_driveOutMakeshift_26 : decode M_X0_driveOutMakeshift.2.1 26 = .ok (.bipush 13, 2) := by decide +kernel
theorem dX0_driveOutMakeshift_28 : decode M_X0_driveOutMakeshift.2.1 28 = .ok (.if_icmp .lt 28, 3) := by decide +kernel
theorem dX0_driveOutMakeshift_31 : decode M_X0_driveOutMakeshift.2.1 31 = .ok (.aload_n 0, 1) := by decide +kernel
theorem dX0_driveOutMakeshift_32 : decode M_X0_driveOutMakeshift.2.1 32 = .ok (.getfield 15, 3) := by decide +kernel
theorem dX0_driveOutMakeshift_35 : decode M_X0_driveOutMakeshift.2.1 35 = .ok (.iload_n 1, 1) := by decide +kernel
theorem dX0_driveOutMakeshift_36 : decode M_X0_driveOutMakeshift.2.1 36 = .ok (.aaload, 1) := by decide +kernel
theorem dX0_driveOutMakeshift_37 : decode M_X0_driveOutMakeshift.2.1 37 = .ok (.iload_n 2, 1) := by decide +kernel
theorem dX0_driveOutMakeshift_38 : decode M_X0_driveOutMakeshift.2.1 38 = .ok (.laload, 1) := by decide +kernel
theorem dX0_driveOutMakeshift_39 : decode M_X0_driveOutMakeshift.2.1 39 = .ok (.lconst 0, 1) := by decide +kernel
theorem dX0_driveOutMakeshift_40 : decode M_X0_driveOutMakeshift.2.1 40 = .ok (.lcmp, 1) := by decide +kernel
theorem dX0_driveOutMakeshift_41 : decode M_X0_driveOutMakeshift.2.1 41 = .ok (.ifCond .eq 9, 3) := by decide +kernel
theorem dX0_driveOutMakeshift_44 : decode M_X0_driveOutMakeshift.2.1 44 = .ok (.aload_n 0, 1) := by decide +kernel
theorem dX0_driveOutMakeshift_45 : decode M_X0_driveOutMakeshift.2.1 45 = .ok (.iload_n 1, 1) := by decide +kernel
theorem dX0_driveOutMakeshift_46 : decode M_X0_driveOutMakeshift.2.1 46 = .ok (.iload_n 2, 1) := by decide +kernel
theorem dX0_driveOutMakeshift_47 : decode M_X0_driveOutMakeshift.2.1 47 = .ok (.invokevirtual 81, 3) := by decide +kernel
theorem dX0_driveOutMakeshift_50 : decode M_X0_driveOutMakeshift.2.1 50 = .ok (.iinc 2 1, 3) := by decide +kernel
theorem dX0_driveOutMakeshift_53 : decode M_X0_driveOutMakeshift.2.1 53 = .ok (.goto (-41), 3) := by decide +kernel
theorem dX0_driveOutMakeshift_56 : decode M_X0_driveOutMakeshift.2.1 56 = .ok (.iinc 1 1, 3) := by decide +kernel
theorem dX0_driveOutMakeshift_59 : decode M_X0_driveOutMakeshift.2.1 59 = .ok (.goto (-57), 3) := by decide +kernel
theorem dX0_driveOutMakeshift_62 : decode M_X0_driveOutMakeshift.2.1 62 = .ok (.return_, 1) := by decide +kernel
theorem dX0_makeLeast_0 : decode M_X0_makeLeast.2.1 0 = .ok (.iconst 0, 1) := by decide +kernel
theorem dX0_makeLeast_1 : decode M_X0_makeLeast.2.1 1 = .ok (.istore_n 2, 1) := by decide +kernel
theorem dX0_makeLeast_2 : decode M_X0_makeLeast.2.1 2 = .ok (.iload_n 2, 1) := by decide +kernel
theorem dX0_makeLeast_3 : decode M_X0_makeLeast.2.1 3 = .ok (.ldc 74, 2) := by decide +kernel
theorem dX0_makeLeast_5 : decode M_X0_makeLeast.2.1 5 = .ok (.if_icmp .ge 41, 3) := by decide +kernel
theorem dX0_makeLeast_8 : decode M_X0_makeLeast.2.1 8 = .ok (.aload_n 0, 1) := by decide +kernel
theorem dX0_makeLeast_9 : decode M_X0_makeLeast.2.1 9 = .ok (.aload_n 0, 1) := by decide +kernel
theorem dX0_makeLeast_10 : decode M_X0_makeLeast.2.1 10 = .ok (.iload_n 1, 1) := by decide +kernel
theorem dX0_makeLeast_11 : decode M_X0_makeLeast.2.1 11 = .ok (.invokevirtual 92, 3) := by decide +kernel
theorem dX0_makeLeast_14 : decode M_X0_makeLeast.2.1 14 = .ok (.iload_n 1, 1) := by decide +kernel
theorem dX0_makeLeast_15 : decode M_X0_makeLeast.2.1 15 = .ok (.iconst 1, 1) := by decide +kernel
theorem dX0_makeLeast_16 : decode M_X0_makeLeast.2.1 16 = .ok (.invokevirtual 95, 3) := by decide +kernel
theorem dX0_makeLeast_19 : decode M_X0_makeLeast.2.1 19 = .ok (.istore_n 3, 1) := by decide +kernel
theorem dX0_makeLeast_20 : decode M_X0_makeLeast.2.1 20 = .ok (.aload_n 0, 1) := by decide +kernel
theorem dX0_makeLeast_21 : decode M_X0_makeLeast.2.1 21 = .ok (.iload_n 3, 1) := by decide +kernel
theorem dX0_makeLeast_22 : decode M_X0_makeLeast.2.1 22 = .ok (.invokevirtual 78, 3) := by decide +kernel
theorem dX0_makeLeast_25 : decode M_X0_makeLeast.2.1 25 = .ok (.istore 4, 2) := by decide +kernel
theorem dX0_makeLeast_27 : decode M_X0_makeLeast.2.1 27 = .ok (.iload 4, 2) := by decide +kernel
theorem dX0_makeLeast_29 : decode M_X0_makeLeast.2.1 29 = .ok (.ifCond .ge 4, 3) := by decide +kernel
theorem dX0_makeLeast_32 : decode M_X0_makeLeast.2.1 32 = .ok (.return_, 1) := by decide +kernel
theorem dX0_makeLeast_33 : decode M_X0_makeLeast.2.1 33 = .ok (.aload_n 0, 1) := by decide +kernel
theorem dX0_makeLeast_34 : decode M_X0_makeLeast.2.1 34 = .ok (.iload 4, 2) := by decide +kernel
theorem dX0_makeLeast_36 : decode M_X0_makeLeast.2.1 36 = .ok (.iload_n 3, 1) := by decide +kernel
theorem dX0_makeLeast_37 : decode M_X0_makeLeast.2.1 37 = .ok (.invokevirtual 81, 3) := by decide +kernel
theorem dX0_makeLeast_40 : decode M_X0_makeLeast.2.1 40 = .ok (.iinc 2 1, 3) := by decide +kernel
theorem dX0_makeLeast_43 : decode M_X0_makeLeast.2.1 43 = .ok (.goto (-41), 3) := by decide +kernel
theorem dX0_makeLeast_46 : decode M_X0_makeLeast.2.1 46 = .ok (.return_, 1) := by decide +kernel
theorem dX0_makeGreatest_0 : decode M_X0_makeGreatest.2.1 0 = .ok (.aload_n 0, 1) := by decide +kernel
theorem dX0_makeGreatest_1 : decode M_X0_makeGreatest.2.1 1 = .ok (.iload_n 1, 1) := by decide +kernel
theorem dX0_makeGreatest_2 : decode M_X0_makeGreatest.2.1 2 = .ok (.invokevirtual 92, 3) := by decide +kernel
theorem dX0_makeGreatest_5 : decode M_X0_makeGreatest.2.1 5 = .ok (.ifCond .ge 21, 3) := by decide +kernel
theorem dX0_makeGreatest_8 : decode M_X0_makeGreatest.2.1 8 = .ok (.aload_n 0, 1) := by decide +kernel
theorem dX0_makeGreatest_9 : decode M_X0_makeGreatest.2.1 9 = .ok (.iload_n 1, 1) := by decide +kernel
theorem dX0_makeGreatest_10 : decode M_X0_makeGreatest.2.1 10 = .ok (.invokevirtual 78, 3) := by decide +kernel
theorem dX0_makeGreatest_13 : decode M_X0_makeGreatest.2.1 13 = .ok (.istore_n 2, 1) := by decide +kernel
theorem dX0_makeGreatest_14 : decode M_X0_makeGreatest.2.1 14 = .ok (.iload_n 2, 1) := by decide +kernel
theorem dX0_makeGreatest_15 : decode M_X0_makeGreatest.2.1 15 = .ok (.ifCond .ge 5, 3) := by decide +kernel
theorem dX0_makeGreatest_18 : decode M_X0_makeGreatest.2.1 18 = .ok (.iconst 0, 1) := by decide +kernel
theorem dX0_makeGreatest_19 : decode M_X0_makeGreatest.2.1 19 = .ok (.ireturn, 1) := by decide +kernel
theorem dX0_makeGreatest_20 : decode M_X0_makeGreatest.2.1 20 = .ok (.aload_n 0, 1) := by decide +kernel
theorem dX0_makeGreatest_21 : decode M_X0_makeGreatest.2.1 21 = .ok (.iload_n 2, 1) := by decide +kernel
theorem dX0_makeGreatest_22 : decode M_X0_makeGreatest.2.1 22 = .ok (.iload_n 1, 1) := by decide +kernel
theorem dX0_makeGreatest_23 : decode M_X0_makeGreatest.2.1 23 = .ok (.invokevirtual 81, 3) := by decide +kernel
theorem dX0_makeGreatest_26 : decode M_X0_makeGreatest.2.1 26 = .ok (.iconst 0, 1) := by decide +kernel
theorem dX0_makeGreatest_27 : decode M_X0_makeGreatest.2.1 27 = .ok (.istore_n 2, 1) := by decide +kernel
theorem dX0_makeGreatest_28 : decode M_X0_makeGreatest.2.1 28 = .ok (.iload_n 2, 1) := by decide +kernel
theorem dX0_makeGreatest_29 : decode M_X0_makeGreatest.2.1 29 = .ok (.ldc 74, 2) := by decide +kernel
theorem dX0_makeGreatest_31 : decode M_X0_makeGreatest.2.1 31 = .ok (.if_icmp .ge 48, 3) := by decide +kernel
theorem dX0_makeGreatest_34 : decode M_X0_makeGreatest.2.1 34 = .ok (.aload_n 0, 1) := by decide +kernel
theorem dX0_makeGreatest_35 : decode M_X0_makeGreatest.2.1 35 = .ok (.aload_n 0, 1) := by decide +kernel
theorem dX0_makeGreatest_36 : decode M_X0_makeGreatest.2.1 36 = .ok (.iload_n 1, 1) := by decide +kernel
theorem dX0_makeGreatest_37 : decode M_X0_makeGreatest.2.1 37 = .ok (.invokevirtual 92, 3) := by decide +kernel
theorem dX0_makeGreatest_40 : decode M_X0_makeGreatest.2.1 40 = .ok (.iload_n 1, 1) := by decide +kernel
theorem dX0_makeGreatest_41 : decode M_X0_makeGreatest.2.1 41 = .ok (.iconst (-1), 1) := by decide +kernel
theorem dX0_makeGreatest_42 : decode M_X0_makeGreatest.2.1 42 = .ok (.invokevirtual 95, 3) := by decide +kernel
theorem dX0_makeGreatest_45 : decode M_X0_makeGreatest.2.1 45 = .ok (.istore_n 3, 1) := by decide +kernel
theorem dX0_makeGreatest_46 : decode M_X0_makeGreatest.2.1 46 = .ok (.iload_n 3, 1) := by decide +kernel
theorem dX0_makeGreatest_47 : decode M_X0_makeGreatest.2.1 47 = .ok (.ifCond .ge 5, 3) := by decide +kernel
theorem dX0_makeGreatest_50 : decode M_X0_makeGreatest.2.1 50 = .ok (.iconst 1, 1) := by decide +kernel
theorem dX0_makeGreatest_51 : decode M_X0_makeGreatest.2.1 51 = .ok (.ireturn, 1) := by decide +kernel
theorem dX0_makeGreatest_52 : decode M_X0_makeGreatest.2.1 52 = .ok (.aload_n 0, 1) := by decide +kernel
theorem dX0_makeGreatest_53 : decode M_X0_makeGreatest.2.1 53 = .ok (.iload_n 3, 1) := by decide +kernel
theorem dX0_makeGreatest_54 : decode M_X0_makeGreatest.2.1 54 = .ok (.invokevirtual 78, 3) := by decide +kernel
theorem dX0_makeGreatest_57 : decode M_X0_makeGreatest.2.1 57 = .ok (.istore 4, 2) := by decide +kernel
theorem dX0_makeGreatest_59 : decode M_X0_makeGreatest.2.1 59 = .ok (.iload 4, 2) := by decide +kernel
theorem dX0_makeGreatest_61 : decode M_X0_makeGreatest.2.1 61 = .ok (.ifCond .ge 5, 3) := by decide +kernel
theorem dX0_makeGreatest_64 : decode M_X0_makeGreatest.2.1 64 = .ok (.iconst 0, 1) := by decide +kernel
theorem dX0_makeGreatest_65 : decode M_X0_makeGreatest.2.1 65 = .ok (.ireturn, 1) := by decide +kernel
theorem dX0_makeGreatest_66 : decode M_X0_makeGreatest.2.1 66 = .ok (.aload_n 0, 1) := by decide +kernel
theorem dX0_makeGreatest_67 : decode M_X0_makeGreatest.2.1 67 = .ok (.iload 4, 2) := by decide +kernel
theorem dX0_makeGreatest_69 : decode M_X0_makeGreatest.2.1 69 = .ok (.iload_n 3, 1) := by decide +kernel
theorem dX0_makeGreatest_70 : decode M_X0_makeGreatest.2.1 70 = .ok (.invokevirtual 81, 3) := by decide +kernel
theorem dX0_makeGreatest_73 : decode M_X0_makeGreatest.2.1 73 = .ok (.iinc 2 1, 3) := by decide +kernel
theorem dX0_makeGreatest_76 : decode M_X0_makeGreatest.2.1 76 = .ok (.goto (-48), 3) := by decide +kernel
theorem dX0_makeGreatest_79 : decode M_X0_makeGreatest.2.1 79 = .ok (.iconst 1, 1) := by decide +kernel
theorem dX0_makeGreatest_80 : decode M_X0_makeGreatest.2.1 80 = .ok (.ireturn, 1) := by decide +kernel
theorem dX0_rowThatGives_0 : decode M_X0_rowThatGives.2.1 0 = .ok (.iconst 0, 1) := by decide +kernel
theorem dX0_rowThatGives_1 : decode M_X0_rowThatGives.2.1 1 = .ok (.istore_n 2, 1) := by decide +kernel
theorem dX0_rowThatGives_2 : decode M_X0_rowThatGives.2.1 2 = .ok (.iload_n 2, 1) := by decide +kernel
theorem dX0_rowThatGives_3 : decode M_X0_rowThatGives.2.1 3 = .ok (.aload_n 0, 1) := by decide +kernel
theorem dX0_rowThatGives_4 : decode M_X0_rowThatGives.2.1 4 = .ok (.getfield 25, 3) := by decide +kernel
theorem dX0_rowThatGives_7 : decode M_X0_rowThatGives.2.1 7 = .ok (.if_icmp .ge 21, 3) := by decide +kernel
theorem dX0_rowThatGives_10 : decode M_X0_rowThatGives.2.1 10 = .ok (.aload_n 0, 1) := by decide +kernel
theorem dX0_rowThatGives_11 : decode M_X0_rowThatGives.2.1 11 = .ok (.getfield 18, 3) := by decide +kernel
theorem dX0_rowThatGives_14 : decode M_X0_rowThatGives.2.1 14 = .ok (.iload_n 2, 1) := by decide +kernel
theorem dX0_rowThatGives_15 : decode M_X0_rowThatGives.2.1 15 = .ok (.iaload, 1) := by decide +kernel
theorem dX0_rowThatGives_16 : decode M_X0_rowThatGives.2.1 16 = .ok (.iload_n 1, 1) := by decide +kernel
theorem dX0_rowThatGives_17 : decode M_X0_rowThatGives.2.1 17 = .ok (.if_icmp .ne 5, 3) := by decide +kernel
theorem dX0_rowThatGives_20 : decode M_X0_rowThatGives.2.1 20 = .ok (.iload_n 2, 1) := by decide +kernel
theorem dX0_rowThatGives_21 : decode M_X0_rowThatGives.2.1 21 = .ok (.ireturn, 1) := by decide +kernel
theorem dX0_rowThatGives_22 : decode M_X0_rowThatGives.2.1 22 = .ok (.iinc 2 1, 3) := by decide +kernel
theorem dX0_rowThatGives_25 : decode M_X0_rowThatGives.2.1 25 = .ok (.goto (-23), 3) := by decide +kernel
theorem dX0_rowThatGives_28 : decode M_X0_rowThatGives.2.1 28 = .ok (.iconst (-1), 1) := by decide +kernel
theorem dX0_rowThatGives_29 : decode M_X0_rowThatGives.2.1 29 = .ok (.ireturn, 1) := by decide +kernel
theorem dX0_firstOfSign_0 : decode M_X0_firstOfSign.2.1 0 = .ok (.iload_n 1, 1) := by decide +kernel
theorem dX0_firstOfSign_1 : decode M_X0_firstOfSign.2.1 1 = .ok (.ifCond .lt 11, 3) := by decide +kernel
theorem dX0_firstOfSign_4 : decode M_X0_firstOfSign.2.1 4 = .ok (.iload_n 1, 1) := by decide +kernel
theorem dX0_firstOfSign_5 : decode M_X0_firstOfSign.2.1 5 = .ok (.aload_n 0, 1) := by decide +kernel
theorem dX0_firstOfSign_6 : decode M_X0_firstOfSign.2.1 6 = .ok (.getfield 25, 3) := by decide +kernel
theorem dX0_firstOfSign_9 : decode M_X0_firstOfSign.2.1 9 = .ok (.if_icmp .lt 5, 3) := by decide +kernel
theorem dX0_firstOfSign_12 : decode M_X0_firstOfSign.2.1 12 = .ok (.iconst (-1), 1) := by decide +kernel
theorem dX0_firstOfSign_13 : decode M_X0_firstOfSign.2.1 13 = .ok (.ireturn, 1) := by decide +kernel
theorem dX0_firstOfSign_14 : decode M_X0_firstOfSign.2.1 14 = .ok (.iconst 0, 1) := by decide +kernel
theorem dX0_firstOfSign_15 : decode M_X0_firstOfSign.2.1 15 = .ok (.istore 4, 2) := by decide +kernel
theorem dX0_firstOfSign_17 : decode M_X0_firstOfSign.2.1 17 = .ok (.iload 4, 2) := by decide +kernel
theorem dX0_firstOfSign_19 : decode M_X0_firstOfSign.2.1 19 = .ok (.aload_n 0, 1) := by decide +kernel
theorem dX0_firstOfSign_20 : decode M_X0_firstOfSign.2.1 20 = .ok (.getfield 29, 3) := by decide +kernel
theorem dX0_firstOfSign_23 : decode M_X0_firstOfSign.2.1 23 = .ok (.if_icmp .ge 35, 3) := by decide +kernel
theorem dX0_firstOfSign_26 : decode M_X0_firstOfSign.2.1 26 = .ok (.iload 4, 2) := by decide +kernel
theorem dX0_firstOfSign_28 : decode M_X0_firstOfSign.2.1 28 = .ok (.iload_n 2, 1) := by decide +kernel
theorem dX0_firstOfSign_29 : decode M_X0_firstOfSign.2.1 29 = .ok (.if_icmp .eq 23, 3) := by decide +kernel
theorem dX0_firstOfSign_32 : decode M_X0_firstOfSign.2.1 32 = .ok (.iload_n 3, 1) := by decide +kernel
theorem dX0_firstOfSign_33 : decode M_X0_firstOfSign.2.1 33 = .ok (.i2l, 1) := by decide +kernel
theorem dX0_firstOfSign_34 : decode M_X0_firstOfSign.2.1 34 = .ok (.aload_n 0, 1) := by decide +kernel
theorem dX0_firstOfSign_35 : decode M_X0_firstOfSign.2.1 35 = .ok (.getfield 15, 3) := by decide +kernel
theorem dX0_firstOfSign_38 : decode M_X0_firstOfSign.2.1 38 = .ok (.iload_n 1, 1) := by decide +kernel
theorem dX0_firstOfSign_39 : decode M_X0_firstOfSign.2.1 39 = .ok (.aaload, 1) := by decide +kernel
theorem dX0_firstOfSign_40 : decode M_X0_firstOfSign.2.1 40 = .ok (.iload 4, 2) := by decide +kernel
theorem dX0_firstOfSign_42 : decode M_X0_firstOfSign.2.1 42 = .ok (.laload, 1) := by decide +kernel
theorem dX0_firstOfSign_43 : decode M_X0_firstOfSign.2.1 43 = .ok (.lmul, 1) := by decide +kernel
theorem dX0_firstOfSign_44 : decode M_X0_firstOfSign.2.1 44 = .ok (.lconst 0, 1) := by decide +kernel
theorem dX0_firstOfSign_45 : decode M_X0_firstOfSign.2.1 45 = .ok (.lcmp, 1) := by decide +kernel
theorem dX0_firstOfSign_46 : decode M_X0_firstOfSign.2.1 46 = .ok (.ifCond .le 6, 3) := by decide +kernel
theorem dX0_firstOfSign_49 : decode M_X0_firstOfSign.2.1 49 = .ok (.iload 4, 2) := by decide +kernel
theorem dX0_firstOfSign_51 : decode M_X0_firstOfSign.2.1 51 = .ok (.ireturn, 1) := by decide +kernel
theorem dX0_firstOfSign_52 : decode M_X0_firstOfSign.2.1 52 = .ok (.iinc 4 1, 3) := by decide +kernel
theorem dX0_firstOfSign_55 : decode M_X0_firstOfSign.2.1 55 = .ok (.goto (-38), 3) := by decide +kernel
theorem dX0_firstOfSign_58 : decode M_X0_firstOfSign.2.1 58 = .ok (.iconst (-1), 1) := by decide +kernel
theorem dX0_firstOfSign_59 : decode M_X0_firstOfSign.2.1 59 = .ok (.ireturn, 1) := by decide +kernel
theorem dX0_leavingRow_0 : decode M_X0_leavingRow.2.1 0 = .ok (.iload_n 1, 1) := by decide +kernel
theorem dX0_leavingRow_1 : decode M_X0_leavingRow.2.1 1 = .ok (.ifCond .lt 11, 3) := by decide +kernel
theorem dX0_leavingRow_4 : decode M_X0_leavingRow.2.1 4 = .ok (.iload_n 1, 1) := by decide +kernel
theorem dX0_leavingRow_5 : decode M_X0_leavingRow.2.1 5 = .ok (.aload_n 0, 1) := by decide +kernel
theorem dX0_leavingRow_6 : decode M_X0_leavingRow.2.1 6 = .ok (.getfield 29, 3) := by decide +kernel
theorem dX0_leavingRow_9 : decode M_X0_leavingRow.2.1 9 = .ok (.if_icmp .lt 5, 3) := by decide +kernel
theorem dX0_leavingRow_12 : decode M_X0_leavingRow.2.1 12 = .ok (.iconst (-1), 1) := by decide +kernel
theorem dX0_leavingRow_13 : decode M_X0_leavingRow.2.1 13 = .ok (.ireturn, 1) := by decide +kernel
theorem dX0_leavingRow_14 : decode M_X0_leavingRow.2.1 14 = .ok (.iconst (-1), 1) := by decide +kernel
theorem dX0_leavingRow_15 : decode M_X0_leavingRow.2.1 15 = .ok (.istore_n 2, 1) := by decide +kernel
theorem dX0_leavingRow_16 : decode M_X0_leavingRow.2.1 16 = .ok (.iconst 0, 1) := by decide +kernel
theorem dX0_leavingRow_17 : decode M_X0_leavingRow.2.1 17 = .ok (.istore_n 3, 1) := by decide +kernel
theorem dX0_leavingRow_18 : decode M_X0_leavingRow.2.1 18 = .ok (.iload_n 3, 1) := by decide +kernel
theorem dX0_leavingRow_19 : decode M_X0_leavingRow.2.1 19 = .ok (.aload_n 0, 1) := by decide +kernel
theorem dX0_leavingRow_20 : decode M_X0_leavingRow.2.1 20 = .ok (.getfield 25, 3) := by decide +kernel
theorem dX0_leavingRow_23 : decode M_X0_leavingRow.2.1 23 = .ok (.if_icmp .ge 38, 3) := by decide +kernel
theorem dX0_leavingRow_26 : decode M_X0_leavingRow.2.1 26 = .ok (.aload_n 0, 1) := by decide +kernel
theorem dX0_leavingRow_27 : decode M_X0_leavingRow.2.1 27 = .ok (.getfield 15, 3) := by decide +kernel
theorem dX0_leavingRow_30 : decode M_X0_leavingRow.2.1 30 = .ok (.iload_n 3, 1) := by decide +kernel
theorem dX0_leavingRow_31 : decode M_X0_leavingRow.2.1 31 = .ok (.aaload, 1) := by decide +kernel
theorem dX0_leavingRow_32 : decode M_X0_leavingRow.2.1 32 = .ok (.iload_n 1, 1) := by decide +kernel
theorem dX0_leavingRow_33 : decode M_X0_leavingRow.2.1 33 = .ok (.laload, 1) := by decide +kernel
theorem dX0_leavingRow_34 : decode M_X0_leavingRow.2.1 34 = .ok (.lconst 0, 1) := by decide +kernel
theorem dX0_leavingRow_35 : decode M_X0_leavingRow.2.1 35 = .ok (.lcmp, 1) := by decide +kernel
theorem dX0_leavingRow_36 : decode M_X0_leavingRow.2.1 36 = .ok (.ifCond .le 19, 3) := by decide +kernel
theorem dX0_leavingRow_39 : decode M_X0_leavingRow.2.1 39 = .ok (.iload_n 2, 1) := by decide +kernel
theorem dX0_leavingRow_40 : decode M_X0_leavingRow.2.1 40 = .ok (.ifCond .lt 13, 3) := by decide +kernel
theorem dX0_leavingRow_43 : decode M_X0_leavingRow.2.1 43 = .ok (.aload_n 0, 1) := by decide +kernel
theorem dX0_leavingRow_44 : decode M_X0_leavingRow.2.1 44 = .ok (.iload_n 3, 1) := by decide +kernel
theorem dX0_leavingRow_45 : decode M_X0_leavingRow.2.1 45 = .ok (.iload_n 2, 1) := by decide +kernel
theorem dX0_leavingRow_46 : decode M_X0_leavingRow.2.1 46 = .ok (.iload_n 1, 1) := by decide +kernel
theorem dX0_leavingRow_47 : decode M_X0_leavingRow.2.1 47 = .ok (.invokevirtual 99, 3) := by decide +kernel
theorem dX0_leavingRow_50 : decode M_X0_leavingRow.2.1 50 = .ok (.ifCond .eq 5, 3) := by decide +kernel
theorem dX0_leavingRow_53 : decode M_X0_leavingRow.2.1 53 = .ok (.iload_n 3, 1) := by decide +kernel
theorem dX0_leavingRow_54 : decode M_X0_leavingRow.2.1 54 = .ok (.istore_n 2, 1) := by decide +kernel
theorem dX0_leavingRow_55 : decode M_X0_leavingRow.2.1 55 = .ok (.iinc 3 1, 3) := by decide +kernel
theorem dX0_leavingRow_58 : decode M_X0_leavingRow.2.1 58 = .ok (.goto (-40), 3) := by decide +kernel
theorem dX0_leavingRow_61 : decode M_X0_leavingRow.2.1 61 = .ok (.iload_n 2, 1) := by decide +kernel
theorem dX0_leavingRow_62 : decode M_X0_leavingRow.2.1 62 = .ok (.ireturn, 1) := by decide +kernel
theorem dX0_leavesAhead_0 : decode M_X0_leavesAhead.2.1 0 = .ok (.aload_n 0, 1) := by decide +kernel
theorem dX0_leavesAhead_1 : decode M_X0_leavesAhead.2.1 1 = .ok (.getfield 15, 3) := by decide +kernel
theorem dX0_leavesAhead_4 : decode M_X0_leavesAhead.2.1 4 = .ok (.iload_n 1, 1) := by decide +kernel
theorem dX0_leavesAhead_5 : decode M_X0_leavesAhead.2.1 5 = .ok (.aaload, 1) := by decide +kernel
theorem dX0_leavesAhead_6 : decode M_X0_leavesAhead.2.1 6 = .ok (.bipush 13, 2) := by decide +kernel
theorem dX0_leavesAhead_8 : decode M_X0_leavesAhead.2.1 8 = .ok (.laload, 1) := by decide +kernel
theorem dX0_leavesAhead_9 : decode M_X0_leavesAhead.2.1 9 = .ok (.aload_n 0, 1) := by decide +kernel
theorem dX0_leavesAhead_10 : decode M_X0_leavesAhead.2.1 10 = .ok (.getfield 15, 3) := by decide +kernel
theorem dX0_leavesAhead_13 : decode M_X0_leavesAhead.2.1 13 = .ok (.iload_n 2, 1) := by decide +kernel
theorem dX0_leavesAhead_14 : decode M_X0_leavesAhead.2.1 14 = .ok (.aaload, 1) := by decide +kernel
theorem dX0_leavesAhead_15 : decode M_X0_leavesAhead.2.1 15 = .ok (.iload_n 3, 1) := by decide +kernel
theorem dX0_leavesAhead_16 : decode M_X0_leavesAhead.2.1 16 = .ok (.laload, 1) := by decide +kernel
theorem dX0_leavesAhead_17 : decode M_X0_leavesAhead.2.1 17 = .ok (.lmul, 1) := by decide +kernel
theorem dX0_leavesAhead_18 : decode M_X0_leavesAhead.2.1 18 = .ok (.lstore 4, 2) := by decide +kernel
theorem dX0_leavesAhead_20 : decode M_X0_leavesAhead.2.1 20 = .ok (.aload_n 0, 1) := by decide +kernel
theorem dX0_leavesAhead_21 : decode M_X0_leavesAhead.2.1 21 = .ok (.getfield 15, 3) := by decide +kernel
theorem dX0_leavesAhead_24 : decode M_X0_leavesAhead.2.1 24 = .ok (.iload_n 2, 1) := by decide +kernel
theorem dX0_leavesAhead_25 : decode M_X0_leavesAhead.2.1 25 = .ok (.aaload, 1) := by decide +kernel
theorem dX0_leavesAhead_26 : decode M_X0_leavesAhead.2.1 26 = .ok (.bipush 13, 2) := by decide +kernel
theorem dX0_leavesAhead_28 : decode M_X0_leavesAhead.2.1 28 = .ok (.laload, 1) := by decide +kernel
theorem dX0_leavesAhead_29 : decode M_X0_leavesAhead.2.1 29 = .ok (.aload_n 0, 1) := by decide +kernel
theorem dX0_leavesAhead_30 : decode M_X0_leavesAhead.2.1 30 = .ok (.getfield 15, 3) := by decide +kernel
theorem dX0_leavesAhead_33 : decode M_X0_leavesAhead.2.1 33 = .ok (.iload_n 1, 1) := by decide +kernel
theorem dX0_leavesAhead_34 : decode M_X0_leavesAhead.2.1 34 = .ok (.aaload, 1) := by decide +kernel
theorem dX0_leavesAhead_35 : decode M_X0_leavesAhead.2.1 35 = .ok (.iload_n 3, 1) := by decide +kernel
theorem dX0_leavesAhead_36 : decode M_X0_leavesAhead.2.1 36 = .ok (.laload, 1) := by decide +kernel
theorem dX0_leavesAhead_37 : decode M_X0_leavesAhead.2.1 37 = .ok (.lmul, 1) := by decide +kernel
theorem dX0_leavesAhead_38 : decode M_X0_leavesAhead.2.1 38 = .ok (.lstore 6, 2) := by decide +kernel
theorem dX0_leavesAhead_40 : decode M_X0_leavesAhead.2.1 40 = .ok (.lload 4, 2) := by decide +kernel
theorem dX0_leavesAhead_42 : decode M_X0_leavesAhead.2.1 42 = .ok (.lload 6, 2) := by decide +kernel
theorem dX0_leavesAhead_44 : decode M_X0_leavesAhead.2.1 44 = .ok (.lcmp, 1) := by decide +kernel
theorem dX0_leavesAhead_45 : decode M_X0_leavesAhead.2.1 45 = .ok (.ifCond .lt 26, 3) := by decide +kernel
theorem dX0_leavesAhead_48 : decode M_X0_leavesAhead.2.1 48 = .ok (.lload 4, 2) := by decide +kernel
theorem dX0_leavesAhead_50 : decode M_X0_leavesAhead.2.1 50 = .ok (.lload 6, 2) := by decide +kernel
theorem dX0_leavesAhead_52 : decode M_X0_leavesAhead.2.1 52 = .ok (.lcmp, 1) := by decide +kernel
theorem dX0_leavesAhead_53 : decode M_X0_leavesAhead.2.1 53 = .ok (.ifCond .ne 22, 3) := by decide +kernel
theorem dX0_leavesAhead_56 : decode M_X0_leavesAhead.2.1 56 = .ok (.aload_n 0, 1) := by decide +kernel
theorem dX0_leavesAhead_57 : decode M_X0_leavesAhead.2.1 57 = .ok (.getfield 18, 3) := by decide +kernel
theorem dX0_leavesAhead_60 : decode M_X0_leavesAhead.2.1 60 = .ok (.iload_n 1, 1) := by decide +kernel
theorem dX0_leavesAhead_61 : decode M_X0_leavesAhead.2.1 61 = .ok (.iaload, 1) := by decide +kernel
theorem dX0_leavesAhead_62 : decode M_X0_leavesAhead.2.1 62 = .ok (.aload_n 0, 1) := by decide +kernel
theorem dX0_leavesAhead_63 : decode M_X0_leavesAhead.2.1 63 = .ok (.getfield 18, 3) := by decide +kernel
theorem dX0_leavesAhead_66 : decode M_X0_leavesAhead.2.1 66 = .ok (.iload_n 2, 1) := by decide +kernel
theorem dX0_leavesAhead_67 : decode M_X0_leavesAhead.2.1 67 = .ok (.iaload, 1) := by decide +kernel
theorem dX0_leavesAhead_68 : decode M_X0_leavesAhead.2.1 68 = .ok (.if_icmp .ge 7, 3) := by decide +kernel
theorem dX0_leavesAhead_71 : decode M_X0_leavesAhead.2.1 71 = .ok (.iconst 1, 1) := by decide +kernel
theorem dX0_leavesAhead_72 : decode M_X0_leavesAhead.2.1 72 = .ok (.goto 4, 3) := by decide +kernel
theorem dX0_leavesAhead_75 : decode M_X0_leavesAhead.2.1 75 = .ok (.iconst 0, 1) := by decide +kernel
theorem dX0_leavesAhead_76 : decode M_X0_leavesAhead.2.1 76 = .ok (.ireturn, 1) := by decide +kernel
theorem dX0_pivot_0 : decode M_X0_pivot.2.1 0 = .ok (.aload_n 0, 1) := by decide +kernel
theorem dX0_pivot_1 : decode M_X0_pivot.2.1 1 = .ok (.getfield 15, 3) := by decide +kernel
theorem dX0_pivot_4 : decode M_X0_pivot.2.1 4 = .ok (.iload_n 1, 1) := by decide +kernel
theorem dX0_pivot_5 : decode M_X0_pivot.2.1 5 = .ok (.aaload, 1) := by decide +kernel
theorem dX0_pivot_6 : decode M_X0_pivot.2.1 6 = .ok (.iload_n 2, 1) := by decide +kernel
theorem dX0_pivot_7 : decode M_X0_pivot.2.1 7 = .ok (.laload, 1) := by decide +kernel
theorem dX0_pivot_8 : decode M_X0_pivot.2.1 8 = .ok (.lconst 0, 1) := by decide +kernel
theorem dX0_pivot_9 : decode M_X0_pivot.2.1 9 = .ok (.lcmp, 1) := by decide +kernel
theorem dX0_pivot_10 : decode M_X0_pivot.2.1 10 = .ok (.ifCond .ge 8, 3) := by decide +kernel
theorem dX0_pivot_13 : decode M_X0_pivot.2.1 13 = .ok (.aload_n 0, 1) := by decide +kernel
theorem dX0_pivot_14 : decode M_X0_pivot.2.1 14 = .ok (.iload_n 1, 1) := by decide +kernel
theorem dX0_pivot_15 : decode M_X0_pivot.2.1 15 = .ok (.invokevirtual 102, 3) := by decide +kernel
theorem dX0_pivot_18 : decode M_X0_pivot.2.1 18 = .ok (.aload_n 0, 1) := by decide +kernel
theorem dX0_pivot_19 : decode M_X0_pivot.2.1 19 = .ok (.getfield 15, 3) := by decide +kernel
theorem dX0_pivot_22 : decode M_X0_pivot.2.1 22 = .ok (.iload_n 1, 1) := by decide +kernel
theorem dX0_pivot_23 : decode M_X0_pivot.2.1 23 = .ok (.aaload, 1) := by decide +kernel
theorem dX0_pivot_24 : decode M_X0_pivot.2.1 24 = .ok (.iload_n 2, 1) := by decide +kernel
theorem dX0_pivot_25 : decode M_X0_pivot.2.1 25 = .ok (.laload, 1) := by decide +kernel
theorem dX0_pivot_26 : decode M_X0_pivot.2.1 26 = .ok (.lstore_n 3, 1) := by decide +kernel
theorem dX0_pivot_27 : decode M_X0_pivot.2.1 27 = .ok (.lload_n 3, 1) := by decide +kernel
theorem dX0_pivot_28 : decode M_X0_pivot.2.1 28 = .ok (.lconst 0, 1) := by decide +kernel
theorem dX0_pivot_29 : decode M_X0_pivot.2.1 29 = .ok (.lcmp, 1) := by decide +kernel
theorem dX0_pivot_30 : decode M_X0_pivot.2.1 30 = .ok (.ifCond .eq 12, 3) := by decide +kernel
theorem dX0_pivot_33 : decode M_X0_pivot.2.1 33 = .ok (.aload_n 0, 1) := by decide +kernel
theorem dX0_pivot_34 : decode M_X0_pivot.2.1 34 = .ok (.getfield 32, 3) := by decide +kernel
theorem dX0_pivot_37 : decode M_X0_pivot.2.1 37 = .ok (.lconst 0, 1) := by decide +kernel
theorem dX0_pivot_38 : decode M_X0_pivot.2.1 38 = .ok (.lcmp, 1) := by decide +kernel
theorem dX0_pivot_39 : decode M_X0_pivot.2.1 39 = .ok (.ifCond .ne 4, 3) := by decide +kernel
theorem dX0_pivot_42 : decode M_X0_pivot.2.1 42 = .ok (.return_, 1) := by decide +kernel
theorem dX0_pivot_43 : decode M_X0_pivot.2.1 43 = .ok (.iconst 0, 1) := by decide +kernel
theorem dX0_pivot_44 : decode M_X0_pivot.2.1 44 = .ok (.istore 5, 2) := by decide +kernel
theorem dX0_pivot_46 : decode M_X0_pivot.2.1 46 = .ok (.iload 5, 2) := by decide +kernel
theorem dX0_pivot_48 : decode M_X0_pivot.2.1 48 = .ok (.aload_n 0, 1) := by decide +kernel
theorem dX0_pivot_49 : decode M_X0_pivot.2.1 49 = .ok (.getfield 25, 3) := by decide +kernel
theorem dX0_pivot_52 : decode M_X0_pivot.2.1 52 = .ok (.if_icmp .ge 23, 3) := by decide +kernel
theorem dX0_pivot_55 : decode M_X0_pivot.2.1 55 = .ok (.iload 5, 2) := by decide +kernel
theorem dX0_pivot_57 : decode M_X0_pivot.2.1 57 = .ok (.iload_n 1, 1) := by decide +kernel
theorem dX0_pivot_58 : decode M_X0_pivot.2.1 58 = .ok (.if_icmp .eq 11, 3) := by decide +kernel
theorem dX0_pivot_61 : decode M_X0_pivot.2.1 61 = .ok (.aload_n 0, 1) := by decide +kernel
theorem dX0_pivot_62 : decode M_X0_pivot.2.1 62 = .ok (.iload 5, 2) := by decide +kernel
theorem dX0_pivot_64 : decode M_X0_pivot.2.1 64 = .ok (.iload_n 1, 1) := by decide +kernel
theorem dX0_pivot_65 : decode M_X0_pivot.2.1 65 = .ok (.iload_n 2, 1) := by decide +kernel
theorem dX0_pivot_66 : decode M_X0_pivot.2.1 66 = .ok (.invokevirtual 106, 3) := by decide +kernel
theorem dX0_pivot_69 : decode M_X0_pivot.2.1 69 = .ok (.iinc 5 1, 3) := by decide +kernel
theorem dX0_pivot_72 : decode M_X0_pivot.2.1 72 = .ok (.goto (-26), 3) := by decide +kernel
theorem dX0_pivot_75 : decode M_X0_pivot.2.1 75 = .ok (.aload_n 0, 1) := by decide +kernel
theorem dX0_pivot_76 : decode M_X0_pivot.2.1 76 = .ok (.lload_n 3, 1) := by decide +kernel
theorem dX0_pivot_77 : decode M_X0_pivot.2.1 77 = .ok (.putfield 32, 3) := by decide +kernel
theorem dX0_pivot_80 : decode M_X0_pivot.2.1 80 = .ok (.aload_n 0, 1) := by decide +kernel
theorem dX0_pivot_81 : decode M_X0_pivot.2.1 81 = .ok (.getfield 18, 3) := by decide +kernel
theorem dX0_pivot_84 : decode M_X0_pivot.2.1 84 = .ok (.iload_n 1, 1) := by decide +kernel
theorem dX0_pivot_85 : decode M_X0_pivot.2.1 85 = .ok (.iload_n 2, 1) := by decide +kernel
theorem dX0_pivot_86 : decode M_X0_pivot.2.1 86 = .ok (.iastore, 1) := by decide +kernel
theorem dX0_pivot_87 : decode M_X0_pivot.2.1 87 = .ok (.return_, 1) := by decide +kernel
theorem dX0_turnSigns_0 : decode M_X0_turnSigns.2.1 0 = .ok (.iconst 0, 1) := by decide +kernel
theorem dX0_turnSigns_1 : decode M_X0_turnSigns.2.1 1 = .ok (.istore_n 2, 1) := by decide +kernel
theorem dX0_turnSigns_2 : decode M_X0_turnSigns.2.1 2 = .ok (.iload_n 2, 1) := by decide +kernel
theorem dX0_turnSigns_3 : decode M_X0_turnSigns.2.1 3 = .ok (.aload_n 0, 1) := by decide +kernel
theorem dX0_turnSigns_4 : decode M_X0_turnSigns.2.1 4 = .ok (.getfield 29, 3) := by decide +kernel
theorem dX0_turnSigns_7 : decode M_X0_turnSigns.2.1 7 = .ok (.if_icmp .ge 26, 3) := by decide +kernel
theorem dX0_turnSigns_10 : decode M_X0_turnSigns.2.1 10 = .ok (.aload_n 0, 1) := by decide +kernel
theorem dX0_turnSigns_11 : decode M_X0_turnSigns.2.1 11 = .ok (.getfield 15, 3) := by decide +kernel
theorem dX0_turnSigns_14 : decode M_X0_turnSigns.2.1 14 = .ok (.iload_n 1, 1) := by decide +kernel
theorem dX0_turnSigns_15 : decode M_X0_turnSigns.2.1 15 = .ok (.aaload, 1) := by decide +kernel
theorem dX0_turnSigns_16 : decode M_X0_turnSigns.2.1 16 = .ok (.iload_n 2, 1) := by decide +kernel
theorem dX0_turnSigns_17 : decode M_X0_turnSigns.2.1 17 = .ok (.aload_n 0, 1) := by decide +kernel
theorem dX0_turnSigns_18 : decode M_X0_turnSigns.2.1 18 = .ok (.getfield 15, 3) := by decide +kernel
theorem dX0_turnSigns_21 : decode M_X0_turnSigns.2.1 21 = .ok (.iload_n 1, 1) := by decide +kernel
theorem dX0_turnSigns_22 : decode M_X0_turnSigns.2.1 22 = .ok (.aaload, 1) := by decide +kernel
theorem dX0_turnSigns_23 : decode M_X0_turnSigns.2.1 23 = .ok (.iload_n 2, 1) := by decide +kernel
theorem dX0_turnSigns_24 : decode M_X0_turnSigns.2.1 24 = .ok (.laload, 1) := by decide +kernel
theorem dX0_turnSigns_25 : decode M_X0_turnSigns.2.1 25 = .ok (.lneg, 1) := by decide +kernel
theorem dX0_turnSigns_26 : decode M_X0_turnSigns.2.1 26 = .ok (.lastore, 1) := by decide +kernel
theorem dX0_turnSigns_27 : decode M_X0_turnSigns.2.1 27 = .ok (.iinc 2 1, 3) := by decide +kernel
theorem dX0_turnSigns_30 : decode M_X0_turnSigns.2.1 30 = .ok (.goto (-28), 3) := by decide +kernel
theorem dX0_turnSigns_33 : decode M_X0_turnSigns.2.1 33 = .ok (.aload_n 0, 1) := by decide +kernel
theorem dX0_turnSigns_34 : decode M_X0_turnSigns.2.1 34 = .ok (.getfield 15, 3) := by decide +kernel
theorem dX0_turnSigns_37 : decode M_X0_turnSigns.2.1 37 = .ok (.iload_n 1, 1) := by decide +kernel
theorem dX0_turnSigns_38 : decode M_X0_turnSigns.2.1 38 = .ok (.aaload, 1) := by decide +kernel
theorem dX0_turnSigns_39 : decode M_X0_turnSigns.2.1 39 = .ok (.bipush 13, 2) := by decide +kernel
theorem dX0_turnSigns_41 : decode M_X0_turnSigns.2.1 41 = .ok (.aload_n 0, 1) := by decide +kernel
theorem dX0_turnSigns_42 : decode M_X0_turnSigns.2.1 42 = .ok (.getfield 15, 3) := by decide +kernel
theorem dX0_turnSigns_45 : decode M_X0_turnSigns.2.1 45 = .ok (.iload_n 1, 1) := by decide +kernel
theorem dX0_turnSigns_46 : decode M_X0_turnSigns.2.1 46 = .ok (.aaload, 1) := by decide +kernel
theorem dX0_turnSigns_47 : decode M_X0_turnSigns.2.1 47 = .ok (.bipush 13, 2) := by decide +kernel
theorem dX0_turnSigns_49 : decode M_X0_turnSigns.2.1 49 = .ok (.laload, 1) := by decide +kernel
theorem dX0_turnSigns_50 : decode M_X0_turnSigns.2.1 50 = .ok (.lneg, 1) := by decide +kernel
theorem dX0_turnSigns_51 : decode M_X0_turnSigns.2.1 51 = .ok (.lastore, 1) := by decide +kernel
theorem dX0_turnSigns_52 : decode M_X0_turnSigns.2.1 52 = .ok (.return_, 1) := by decide +kernel
theorem dX0_clearBy_0 : decode M_X0_clearBy.2.1 0 = .ok (.aload_n 0, 1) := by decide +kernel
theorem dX0_clearBy_1 : decode M_X0_clearBy.2.1 1 = .ok (.getfield 15, 3) := by decide +kernel
theorem dX0_clearBy_4 : decode M_X0_clearBy.2.1 4 = .ok (.iload_n 2, 1) := by decide +kernel
theorem dX0_clearBy_5 : decode M_X0_clearBy.2.1 5 = .ok (.aaload, 1) := by decide +kernel
theorem dX0_clearBy_6 : decode M_X0_clearBy.2.1 6 = .ok (.iload_n 3, 1) := by decide +kernel
theorem dX0_clearBy_7 : decode M_X0_clearBy.2.1 7 = .ok (.laload, 1) := by decide +kernel
theorem dX0_clearBy_8 : decode M_X0_clearBy.2.1 8 = .ok (.lstore 4, 2) := by decide +kernel
theorem dX0_clearBy_10 : decode M_X0_clearBy.2.1 10 = .ok (.aload_n 0, 1) := by decide +kernel
theorem dX0_clearBy_11 : decode M_X0_clearBy.2.1 11 = .ok (.getfield 15, 3) := by decide +kernel
theorem dX0_clearBy_14 : decode M_X0_clearBy.2.1 14 = .ok (.iload_n 1, 1) := by decide +kernel
theorem dX0_clearBy_15 : decode M_X0_clearBy.2.1 15 = .ok (.aaload, 1) := by decide +kernel
theorem dX0_clearBy_16 : decode M_X0_clearBy.2.1 16 = .ok (.iload_n 3, 1) := by decide +kernel
theorem dX0_clearBy_17 : decode M_X0_clearBy.2.1 17 = .ok (.laload, 1) := by decide +kernel
theorem dX0_clearBy_18 : decode M_X0_clearBy.2.1 18 = .ok (.lstore 6, 2) := by decide +kernel
theorem dX0_clearBy_20 : decode M_X0_clearBy.2.1 20 = .ok (.iconst 0, 1) := by decide +kernel
theorem dX0_clearBy_21 : decode M_X0_clearBy.2.1 21 = .ok (.istore 8, 2) := by decide +kernel
theorem dX0_clearBy_23 : decode M_X0_clearBy.2.1 23 = .ok (.iload 8, 2) := by decide +kernel
theorem dX0_clearBy_25 : decode M_X0_clearBy.2.1 25 = .ok (.aload_n 0, 1) := by decide +kernel
theorem dX0_clearBy_26 : decode M_X0_clearBy.2.1 26 = .ok (.getfield 29, 3) := by decide +kernel
theorem dX0_clearBy_29 : decode M_X0_clearBy.2.1 29 = .ok (.if_icmp .ge 48, 3) := by decide +kernel
theorem dX0_clearBy_32 : decode M_X0_clearBy.2.1 32 = .ok (.aload_n 0, 1) := by decide +kernel
theorem dX0_clearBy_33 : decode M_X0_clearBy.2.1 33 = .ok (.getfield 15, 3) := by decide +kernel
theorem dX0_clearBy_36 : decode M_X0_clearBy.2.1 36 = .ok (.iload_n 1, 1) := by decide +kernel
theorem dX0_clearBy_37 : decode M_X0_clearBy.2.1 37 = .ok (.aaload, 1) := by decide +kernel
theorem dX0_clearBy_38 : decode M_X0_clearBy.2.1 38 = .ok (.iload 8, 2) := by decide +kernel
theorem dX0_clearBy_40 : decode M_X0_clearBy.2.1 40 = .ok (.aload_n 0, 1) := by decide +kernel
theorem dX0_clearBy_41 : decode M_X0_clearBy.2.1 41 = .ok (.getfield 15, 3) := by decide +kernel
theorem dX0_clearBy_44 : decode M_X0_clearBy.2.1 44 = .ok (.iload_n 1, 1) := by decide +kernel
theorem dX0_clearBy_45 : decode M_X0_clearBy.2.1 45 = .ok (.aaload, 1) := by decide +kernel
theorem dX0_clearBy_46 : decode M_X0_clearBy.2.1 46 = .ok (.iload 8, 2) := by decide +kernel
theorem dX0_clearBy_48 : decode M_X0_clearBy.2.1 48 = .ok (.laload, 1) := by decide +kernel
theorem dX0_clearBy_49 : decode M_X0_clearBy.2.1 49 = .ok (.lload 4, 2) := by decide +kernel
theorem dX0_clearBy_51 : decode M_X0_clearBy.2.1 51 = .ok (.lmul, 1) := by decide +kernel
theorem dX0_clearBy_52 : decode M_X0_clearBy.2.1 52 = .ok (.lload 6, 2) := by decide +kernel
theorem dX0_clearBy_54 : decode M_X0_clearBy.2.1 54 = .ok (.aload_n 0, 1) := by decide +kernel
theorem dX0_clearBy_55 : decode M_X0_clearBy.2.1 55 = .ok (.getfield 15, 3) := by decide +kernel
theorem dX0_clearBy_58 : decode M_X0_clearBy.2.1 58 = .ok (.iload_n 2, 1) := by decide +kernel
theorem dX0_clearBy_59 : decode M_X0_clearBy.2.1 59 = .ok (.aaload, 1) := by decide +kernel
theorem dX0_clearBy_60 : decode M_X0_clearBy.2.1 60 = .ok (.iload 8, 2) := by decide +kernel
theorem dX0_clearBy_62 : decode M_X0_clearBy.2.1 62 = .ok (.laload, 1) := by decide +kernel
theorem dX0_clearBy_63 : decode M_X0_clearBy.2.1 63 = .ok (.lmul, 1) := by decide +kernel
theorem dX0_clearBy_64 : decode M_X0_clearBy.2.1 64 = .ok (.lsub, 1) := by decide +kernel
theorem dX0_clearBy_65 : decode M_X0_clearBy.2.1 65 = .ok (.aload_n 0, 1) := by decide +kernel
theorem dX0_clearBy_66 : decode M_X0_clearBy.2.1 66 = .ok (.getfield 32, 3) := by decide +kernel
theorem dX0_clearBy_69 : decode M_X0_clearBy.2.1 69 = .ok (.ldiv, 1) := by decide +kernel
theorem dX0_clearBy_70 : decode M_X0_clearBy.2.1 70 = .ok (.lastore, 1) := by decide +kernel
theorem dX0_clearBy_71 : decode M_X0_clearBy.2.1 71 = .ok (.iinc 8 1, 3) := by decide +kernel
theorem dX0_clearBy_74 : decode M_X0_clearBy.2.1 74 = .ok (.goto (-51), 3) := by decide +kernel
theorem dX0_clearBy_77 : decode M_X0_clearBy.2.1 77 = .ok (.aload_n 0, 1) := by decide +kernel
theorem dX0_clearBy_78 : decode M_X0_clearBy.2.1 78 = .ok (.getfield 15, 3) := by decide +kernel
theorem dX0_clearBy_81 : decode M_X0_clearBy.2.1 81 = .ok (.iload_n 1, 1) := by decide +kernel
theorem dX0_clearBy_82 : decode M_X0_clearBy.2.1 82 = .ok (.aaload, 1) := by decide +kernel
theorem dX0_clearBy_83 : decode M_X0_clearBy.2.1 83 = .ok (.bipush 13, 2) := by decide +kernel
theorem dX0_clearBy_85 : decode M_X0_clearBy.2.1 85 = .ok (.aload_n 0, 1) := by decide +kernel
theorem dX0_clearBy_86 : decode M_X0_clearBy.2.1 86 = .ok (.getfield 15, 3) := by decide +kernel
theorem dX0_clearBy_89 : decode M_X0_clearBy.2.1 89 = .ok (.iload_n 1, 1) := by decide +kernel
theorem dX0_clearBy_90 : decode M_X0_clearBy.2.1 90 = .ok (.aaload, 1) := by decide +kernel
theorem dX0_clearBy_91 : decode M_X0_clearBy.2.1 91 = .ok (.bipush 13, 2) := by decide +kernel
theorem dX0_clearBy_93 : decode M_X0_clearBy.2.1 93 = .ok (.laload, 1) := by decide +kernel
theorem dX0_clearBy_94 : decode M_X0_clearBy.2.1 94 = .ok (.lload 4, 2) := by decide +kernel
theorem dX0_clearBy_96 : decode M_X0_clearBy.2.1 96 = .ok (.lmul, 1) := by decide +kernel
theorem dX0_clearBy_97 : decode M_X0_clearBy.2.1 97 = .ok (.lload 6, 2) := by decide +kernel
theorem dX0_clearBy_99 : decode M_X0_clearBy.2.1 99 = .ok (.aload_n 0, 1) := by decide +kernel
theorem dX0_clearBy_100 : decode M_X0_clearBy.2.1 100 = .ok (.getfield 15, 3) := by decide +kernel
theorem dX0_clearBy_103 : decode M_X0_clearBy.2.1 103 = .ok (.iload_n 2, 1) := by decide +kernel
theorem dX0_clearBy_104 : decode M_X0_clearBy.2.1 104 = .ok (.aaload, 1) := by decide +kernel
theorem dX0_clearBy_105 : decode M_X0_clearBy.2.1 105 = .ok (.bipush 13, 2) := by decide +kernel
theorem dX0_clearBy_107 : decode M_X0_clearBy.2.1 107 = .ok (.laload, 1) := by decide +kernel
theorem dX0_clearBy_108 : decode M_X0_clearBy.2.1 108 = .ok (.lmul, 1) := by decide +kernel
theorem dX0_clearBy_109 : decode M_X0_clearBy.2.1 109 = .ok (.lsub, 1) := by decide +kernel
theorem dX0_clearBy_110 : decode M_X0_clearBy.2.1 110 = .ok (.aload_n 0, 1) := by decide +kernel
theorem dX0_clearBy_111 : decode M_X0_clearBy.2.1 111 = .ok (.getfield 32, 3) := by decide +kernel
theorem dX0_clearBy_114 : decode M_X0_clearBy.2.1 114 = .ok (.ldiv, 1) := by decide +kernel
theorem dX0_clearBy_115 : decode M_X0_clearBy.2.1 115 = .ok (.lastore, 1) := by decide +kernel
theorem dX0_clearBy_116 : decode M_X0_clearBy.2.1 116 = .ok (.return_, 1) := by decide +kernel
theorem dX0_numerator_0 : decode M_X0_numerator.2.1 0 = .ok (.aload_n 0, 1) := by decide +kernel
theorem dX0_numerator_1 : decode M_X0_numerator.2.1 1 = .ok (.iload_n 1, 1) := by decide +kernel
theorem dX0_numerator_2 : decode M_X0_numerator.2.1 2 = .ok (.invokevirtual 92, 3) := by decide +kernel
theorem dX0_numerator_5 : decode M_X0_numerator.2.1 5 = .ok (.istore_n 2, 1) := by decide +kernel
theorem dX0_numerator_6 : decode M_X0_numerator.2.1 6 = .ok (.iload_n 2, 1) := by decide +kernel
theorem dX0_numerator_7 : decode M_X0_numerator.2.1 7 = .ok (.ifCond .ge 5, 3) := by decide +kernel
theorem dX0_numerator_10 : decode M_X0_numerator.2.1 10 = .ok (.lconst 0, 1) := by decide +kernel
theorem dX0_numerator_11 : decode M_X0_numerator.2.1 11 = .ok (.lreturn, 1) := by decide +kernel
theorem dX0_numerator_12 : decode M_X0_numerator.2.1 12 = .ok (.aload_n 0, 1) := by decide +kernel
theorem dX0_numerator_13 : decode M_X0_numerator.2.1 13 = .ok (.getfield 15, 3) := by decide +kernel
theorem dX0_numerator_16 : decode M_X0_numerator.2.1 16 = .ok (.iload_n 2, 1) := by decide +kernel
theorem dX0_numerator_17 : decode M_X0_numerator.2.1 17 = .ok (.aaload, 1) := by decide +kernel
theorem dX0_numerator_18 : decode M_X0_numerator.2.1 18 = .ok (.bipush 13, 2) := by decide +kernel
theorem dX0_numerator_20 : decode M_X0_numerator.2.1 20 = .ok (.laload, 1) := by decide +kernel
theorem dX0_numerator_21 : decode M_X0_numerator.2.1 21 = .ok (.aload_n 0, 1) := by decide +kernel
theorem dX0_numerator_22 : decode M_X0_numerator.2.1 22 = .ok (.getfield 15, 3) := by decide +kernel
theorem dX0_numerator_25 : decode M_X0_numerator.2.1 25 = .ok (.iload_n 2, 1) := by decide +kernel
theorem dX0_numerator_26 : decode M_X0_numerator.2.1 26 = .ok (.aaload, 1) := by decide +kernel
theorem dX0_numerator_27 : decode M_X0_numerator.2.1 27 = .ok (.bipush 13, 2) := by decide +kernel
theorem dX0_numerator_29 : decode M_X0_numerator.2.1 29 = .ok (.laload, 1) := by decide +kernel
theorem dX0_numerator_30 : decode M_X0_numerator.2.1 30 = .ok (.aload_n 0, 1) := by decide +kernel
theorem dX0_numerator_31 : decode M_X0_numerator.2.1 31 = .ok (.getfield 32, 3) := by decide +kernel
theorem dX0_numerator_34 : decode M_X0_numerator.2.1 34 = .ok (.invokestatic 110, 3) := by decide +kernel
theorem dX0_numerator_37 : decode M_X0_numerator.2.1 37 = .ok (.ldiv, 1) := by decide +kernel
theorem dX0_numerator_38 : decode M_X0_numerator.2.1 38 = .ok (.lreturn, 1) := by decide +kernel
theorem dX0_denominator_0 : decode M_X0_denominator.2.1 0 = .ok (.aload_n 0, 1) := by decide +kernel
theorem dX0_denominator_1 : decode M_X0_denominator.2.1 1 = .ok (.iload_n 1, 1) := by decide +kernel
theorem dX0_denominator_2 : decode M_X0_denominator.2.1 2 = .ok (.invokevirtual 92, 3) := by decide +kernel
theorem dX0_denominator_5 : decode M_X0_denominator.2.1 5 = .ok (.istore_n 2, 1) := by decide +kernel
theorem dX0_denominator_6 : decode M_X0_denominator.2.1 6 = .ok (.iload_n 2, 1) := by decide +kernel
theorem dX0_denominator_7 : decode M_X0_denominator.2.1 7 = .ok (.ifCond .ge 5, 3) := by decide +kernel
theorem dX0_denominator_10 : decode M_X0_denominator.2.1 10 = .ok (.lconst 1, 1) := by decide +kernel
theorem dX0_denominator_11 : decode M_X0_denominator.2.1 11 = .ok (.lreturn, 1) := by decide +kernel
theorem dX0_denominator_12 : decode M_X0_denominator.2.1 12 = .ok (.aload_n 0, 1) := by decide +kernel
theorem dX0_denominator_13 : decode M_X0_denominator.2.1 13 = .ok (.getfield 32, 3) := by decide +kernel
theorem dX0_denominator_16 : decode M_X0_denominator.2.1 16 = .ok (.aload_n 0, 1) := by decide +kernel
theorem dX0_denominator_17 : decode M_X0_denominator.2.1 17 = .ok (.getfield 15, 3) := by decide +kernel
theorem dX0_denominator_20 : decode M_X0_denominator.2.1 20 = .ok (.iload_n 2, 1) := by decide +kernel
theorem dX0_denominator_21 : decode M_X0_denominator.2.1 21 = .ok (.aaload, 1) := by decide +kernel
theorem dX0_denominator_22 : decode M_X0_denominator.2.1 22 = .ok (.bipush 13, 2) := by decide +kernel
theorem dX0_denominator_24 : decode M_X0_denominator.2.1 24 = .ok (.laload, 1) := by decide +kernel
theorem dX0_denominator_25 : decode M_X0_denominator.2.1 25 = .ok (.aload_n 0, 1) := by decide +kernel
theorem dX0_denominator_26 : decode M_X0_denominator.2.1 26 = .ok (.getfield 32, 3) := by decide +kernel
theorem dX0_denominator_29 : decode M_X0_denominator.2.1 29 = .ok (.invokestatic 110, 3) := by decide +kernel
theorem dX0_denominator_32 : decode M_X0_denominator.2.1 32 = .ok (.ldiv, 1) := by decide +kernel
theorem dX0_denominator_33 : decode M_X0_denominator.2.1 33 = .ok (.lreturn, 1) := by decide +kernel
theorem dX0_commonDivisor_0 : decode M_X0_commonDivisor.2.1 0 = .ok (.lload_n 0, 1) := by decide +kernel
theorem dX0_commonDivisor_1 : decode M_X0_commonDivisor.2.1 1 = .ok (.invokestatic 114, 3) := by decide +kernel
theorem dX0_commonDivisor_4 : decode M_X0_commonDivisor.2.1 4 = .ok (.lstore 4, 2) := by decide +kernel
theorem dX0_commonDivisor_6 : decode M_X0_commonDivisor.2.1 6 = .ok (.lload_n 2, 1) := by decide +kernel
theorem dX0_commonDivisor_7 : decode M_X0_commonDivisor.2.1 7 = .ok (.invokestatic 114, 3) := by decide +kernel
theorem dX0_commonDivisor_10 : decode M_X0_commonDivisor.2.1 10 = .ok (.lstore 6, 2) := by decide +kernel
theorem dX0_commonDivisor_12 : decode M_X0_commonDivisor.2.1 12 = .ok (.iconst 0, 1) := by decide +kernel
theorem dX0_commonDivisor_13 : decode M_X0_commonDivisor.2.1 13 = .ok (.istore 8, 2) := by decide +kernel
theorem dX0_commonDivisor_15 : decode M_X0_commonDivisor.2.1 15 = .ok (.iload 8, 2) := by decide +kernel
theorem dX0_commonDivisor_17 : decode M_X0_commonDivisor.2.1 17 = .ok (.sipush 200, 3) := by decide +kernel
theorem dX0_commonDivisor_20 : decode M_X0_commonDivisor.2.1 20 = .ok (.if_icmp .ge 31, 3) := by decide +kernel
theorem dX0_commonDivisor_23 : decode M_X0_commonDivisor.2.1 23 = .ok (.lload 6, 2) := by decide +kernel
theorem dX0_commonDivisor_25 : decode M_X0_commonDivisor.2.1 25 = .ok (.lconst 0, 1) := by decide +kernel
theorem dX0_commonDivisor_26 : decode M_X0_commonDivisor.2.1 26 = .ok (.lcmp, 1) := by decide +kernel
theorem dX0_commonDivisor_27 : decode M_X0_commonDivisor.2.1 27 = .ok (.ifCond .eq 24, 3) := by decide +kernel
theorem dX0_commonDivisor_30 : decode M_X0_commonDivisor.2.1 30 = .ok (.lload 4, 2) := by decide +kernel
theorem dX0_commonDivisor_32 : decode M_X0_commonDivisor.2.1 32 = .ok (.lload 6, 2) := by decide +kernel
theorem dX0_commonDivisor_34 : decode M_X0_commonDivisor.2.1 34 = .ok (.lrem, 1) := by decide +kernel
theorem dX0_commonDivisor_35 : decode M_X0_commonDivisor.2.1 35 = .ok (.lstore 9, 2) := by decide +kernel
theorem dX0_commonDivisor_37 : decode M_X0_commonDivisor.2.1 37 = .ok (.lload 6, 2) := by decide +kernel
theorem dX0_commonDivisor_39 : decode M_X0_commonDivisor.2.1 39 = .ok (.lstore 4, 2) := by decide +kernel
theorem dX0_commonDivisor_41 : decode M_X0_commonDivisor.2.1 41 = .ok (.lload 9, 2) := by decide +kernel
theorem dX0_commonDivisor_43 : decode M_X0_commonDivisor.2.1 43 = .ok (.lstore 6, 2) := by decide +kernel
theorem dX0_commonDivisor_45 : decode M_X0_commonDivisor.2.1 45 = .ok (.iinc 8 1, 3) := by decide +kernel
theorem dX0_commonDivisor_48 : decode M_X0_commonDivisor.2.1 48 = .ok (.goto (-33), 3) := by decide +kernel
theorem dX0_commonDivisor_51 : decode M_X0_commonDivisor.2.1 51 = .ok (.lload 4, 2) := by decide +kernel
theorem dX0_commonDivisor_53 : decode M_X0_commonDivisor.2.1 53 = .ok (.lconst 0, 1) := by decide +kernel
theorem dX0_commonDivisor_54 : decode M_X0_commonDivisor.2.1 54 = .ok (.lcmp, 1) := by decide +kernel
theorem dX0_commonDivisor_55 : decode M_X0_commonDivisor.2.1 55 = .ok (.ifCond .ne 7, 3) := by decide +kernel
theorem dX0_commonDivisor_58 : decode M_X0_commonDivisor.2.1 58 = .ok (.lconst 1, 1) := by decide +kernel
theorem dX0_commonDivisor_59 : decode M_X0_commonDivisor.2.1 59 = .ok (.goto 5, 3) := by decide +kernel
theorem dX0_commonDivisor_62 : decode M_X0_commonDivisor.2.1 62 = .ok (.lload 4, 2) := by decide +kernel
theorem dX0_commonDivisor_64 : decode M_X0_commonDivisor.2.1 64 = .ok (.lreturn, 1) := by decide +kernel
theorem dX1_init_0 : decode M_X1_init.2.1 0 = .ok (.aload_n 0, 1) := by decide +kernel
theorem dX1_init_1 : decode M_X1_init.2.1 1 = .ok (.invokespecial 3, 3) := by decide +kernel
theorem dX1_init_4 : decode M_X1_init.2.1 4 = .ok (.aload_n 0, 1) := by decide +kernel
theorem dX1_init_5 : decode M_X1_init.2.1 5 = .ok (.iconst 4, 1) := by decide +kernel
theorem dX1_init_6 : decode M_X1_init.2.1 6 = .ok (.newarray .int, 2) := by decide +kernel
theorem dX1_init_8 : decode M_X1_init.2.1 8 = .ok (.putfield 9, 3) := by decide +kernel
theorem dX1_init_11 : decode M_X1_init.2.1 11 = .ok (.aload_n 0, 1) := by decide +kernel
theorem dX1_init_12 : decode M_X1_init.2.1 12 = .ok (.iconst 4, 1) := by decide +kernel
theorem dX1_init_13 : decode M_X1_init.2.1 13 = .ok (.newarray .int, 2) := by decide +kernel
theorem dX1_init_15 : decode M_X1_init.2.1 15 = .ok (.putfield 15, 3) := by decide +kernel
theorem dX1_init_18 : decode M_X1_init.2.1 18 = .ok (.aload_n 0, 1) := by decide +kernel
theorem dX1_init_19 : decode M_X1_init.2.1 19 = .ok (.iconst 4, 1) := by decide +kernel
theorem dX1_init_20 : decode M_X1_init.2.1 20 = .ok (.newarray .int, 2) := by decide +kernel
theorem dX1_init_22 : decode M_X1_init.2.1 22 = .ok (.putfield 18, 3) := by decide +kernel
theorem dX1_init_25 : decode M_X1_init.2.1 25 = .ok (.aload_n 0, 1) := by decide +kernel
theorem dX1_init_26 : decode M_X1_init.2.1 26 = .ok (.iconst 4, 1) := by decide +kernel
theorem dX1_init_27 : decode M_X1_init.2.1 27 = .ok (.newarray .int, 2) := by decide +kernel
theorem dX1_init_29 : decode M_X1_init.2.1 29 = .ok (.putfield 21, 3) := by decide +kernel
theorem dX1_init_32 : decode M_X1_init.2.1 32 = .ok (.aload_n 0, 1) := by decide +kernel
theorem dX1_init_33 : decode M_X1_init.2.1 33 = .ok (.iconst 4, 1) := by decide +kernel
theorem dX1_init_34 : decode M_X1_init.2.1 34 = .ok (.newarray .int, 2) := by decide +kernel
theorem dX1_init_36 : decode M_X1_init.2.1 36 = .ok (.putfield 24, 3) := by decide +kernel
theorem dX1_init_39 : decode M_X1_init.2.1 39 = .ok (.aload_n 0, 1) := by decide +kernel
theorem dX1_init_40 : decode M_X1_init.2.1 40 = .ok (.bipush 12, 2) := by decide +kernel
theorem dX1_init_42 : decode M_X1_init.2.1 42 = .ok (.newarray .int, 2) := by decide +kernel
theorem dX1_init_44 : decode M_X1_init.2.1 44 = .ok (.putfield 27, 3) := by decide +kernel
theorem dX1_init_47 : decode M_X1_init.2.1 47 = .ok (.aload_n 0, 1) := by decide +kernel
theorem dX1_init_48 : decode M_X1_init.2.1 48 = .ok (.bipush 12, 2) := by decide +kernel
theorem dX1_init_50 : decode M_X1_init.2.1 50 = .ok (.newarray .int, 2) := by decide +kernel
theorem dX1_init_52 : decode M_X1_init.2.1 52 = .ok (.putfield 30, 3) := by decide +kernel
theorem dX1_init_55 : decode M_X1_init.2.1 55 = .ok (.aload_n 0, 1) := by decide +kernel
theorem dX1_init_56 : decode M_X1_init.2.1 56 = .ok (.bipush 12, 2) := by decide +kernel
theorem dX1_init_58 : decode M_X1_init.2.1 58 = .ok (.newarray .int, 2) := by decide +kernel
theorem dX1_init_60 : decode M_X1_init.2.1 60 = .ok (.putfield 33, 3) := by decide +kernel
theorem dX1_init_63 : decode M_X1_init.2.1 63 = .ok (.aload_n 0, 1) := by decide +kernel
theorem dX1_init_64 : decode M_X1_init.2.1 64 = .ok (.iconst 0, 1) := by decide +kernel
theorem dX1_init_65 : decode M_X1_init.2.1 65 = .ok (.putfield 36, 3) := by decide +kernel
theorem dX1_init_68 : decode M_X1_init.2.1 68 = .ok (.aload_n 0, 1) := by decide +kernel
theorem dX1_init_69 : decode M_X1_init.2.1 69 = .ok (.iconst 0, 1) := by decide +kernel
theorem dX1_init_70 : decode M_X1_init.2.1 70 = .ok (.putfield 40, 3) := by decide +kernel
theorem dX1_init_73 : decode M_X1_init.2.1 73 = .ok (.return_, 1) := by decide +kernel
theorem dX1_find_0 : decode M_X1_find.2.1 0 = .ok (.aload_n 0, 1) := by decide +kernel
theorem dX1_find_1 : decode M_X1_find.2.1 1 = .ok (.aload_n 1, 1) := by decide +kernel
theorem dX1_find_2 : decode M_X1_find.2.1 2 = .ok (.invokevirtual 43, 3) := by decide +kernel
theorem dX1_find_5 : decode M_X1_find.2.1 5 = .ok (.iconst 4, 1) := by decide +kernel
theorem dX1_find_6 : decode M_X1_find.2.1 6 = .ok (.invokestatic 49, 3) := by decide +kernel
theorem dX1_find_9 : decode M_X1_find.2.1 9 = .ok (.putfield 36, 3) := by decide +kernel
theorem dX1_find_12 : decode M_X1_find.2.1 12 = .ok (.aload_n 0, 1) := by decide +kernel
theorem dX1_find_13 : decode M_X1_find.2.1 13 = .ok (.iconst 0, 1) := by decide +kernel
theorem dX1_find_14 : decode M_X1_find.2.1 14 = .ok (.putfield 40, 3) := by decide +kernel
theorem dX1_find_17 : decode M_X1_find.2.1 17 = .ok (.iconst 0, 1) := by decide +kernel
theorem dX1_find_18 : decode M_X1_find.2.1 18 = .ok (.istore_n 2, 1) := by decide +kernel
theorem dX1_find_19 : decode M_X1_find.2.1 19 = .ok (.iload_n 2, 1) := by decide +kernel
theorem dX1_find_20 : decode M_X1_find.2.1 20 = .ok (.aload_n 0, 1) := by decide +kernel
theorem dX1_find_21 : decode M_X1_find.2.1 21 = .ok (.getfield 36, 3) := by decide +kernel
theorem dX1_find_24 : decode M_X1_find.2.1 24 = .ok (.if_icmp .ge 64, 3) := by decide +kernel
theorem dX1_find_27 : decode M_X1_find.2.1 27 = .ok (.aload_n 0, 1) := by decide +kernel
theorem dX1_find_28 : decode M_X1_find.2.1 28 = .ok (.getfield 9, 3) := by decide +kernel
theorem dX1_find_31 : decode M_X1_find.2.1 31 = .ok (.iload_n 2, 1) := by decide +kernel
theorem dX1_find_32 : decode M_X1_find.2.1 32 = .ok (.aload_n 1, 1) := by decide +kernel
theorem dX1_find_33 : decode M_X1_find.2.1 33 = .ok (.iload_n 2, 1) := by decide +kernel
theorem dX1_find_34 : decode M_X1_find.2.1 34 = .ok (.iconst 0, 1) := by decide +kernel
