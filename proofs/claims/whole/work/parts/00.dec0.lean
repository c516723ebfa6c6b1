theorem dX0_init_0 : decode prog_2_method_1_code 0 = .ok (.aload_n 0, 1) := by decide +kernel
theorem dX0_init_1 : decode prog_2_method_1_code 1 = .ok (.invokespecial 1, 3) := by decide +kernel
theorem dX0_init_4 : decode prog_2_method_1_code 4 = .ok (.aload_n 0, 1) := by decide +kernel
theorem dX0_init_5 : decode prog_2_method_1_code 5 = .ok (.new 7, 3) := by decide +kernel
theorem dX0_init_8 : decode prog_2_method_1_code 8 = .ok (.dup, 1) := by decide +kernel
theorem dX0_init_9 : decode prog_2_method_1_code 9 = .ok (.invokespecial 9, 3) := by decide +kernel
theorem dX0_init_12 : decode prog_2_method_1_code 12 = .ok (.putfield 10, 3) := by decide +kernel
theorem dX0_init_15 : decode prog_2_method_1_code 15 = .ok (.return_, 1) := by decide +kernel
theorem dX0_signum_0 : decode prog_2_method_2_code 0 = .ok (.aload_n 0, 1) := by decide +kernel
theorem dX0_signum_1 : decode prog_2_method_2_code 1 = .ok (.getfield 10, 3) := by decide +kernel
theorem dX0_signum_4 : decode prog_2_method_2_code 4 = .ok (.invokevirtual 16, 3) := by decide +kernel
theorem dX0_signum_7 : decode prog_2_method_2_code 7 = .ok (.ifCond .eq 5, 3) := by decide +kernel
theorem dX0_signum_10 : decode prog_2_method_2_code 10 = .ok (.iconst 0, 1) := by decide +kernel
theorem dX0_signum_11 : decode prog_2_method_2_code 11 = .ok (.ireturn, 1) := by decide +kernel
theorem dX0_signum_12 : decode prog_2_method_2_code 12 = .ok (.aload_n 0, 1) := by decide +kernel
theorem dX0_signum_13 : decode prog_2_method_2_code 13 = .ok (.getfield 20, 3) := by decide +kernel
theorem dX0_signum_16 : decode prog_2_method_2_code 16 = .ok (.ifCond .eq 7, 3) := by decide +kernel
theorem dX0_signum_19 : decode prog_2_method_2_code 19 = .ok (.iconst (-1), 1) := by decide +kernel
theorem dX0_signum_20 : decode prog_2_method_2_code 20 = .ok (.goto 4, 3) := by decide +kernel
theorem dX0_signum_23 : decode prog_2_method_2_code 23 = .ok (.iconst 1, 1) := by decide +kernel
theorem dX0_signum_24 : decode prog_2_method_2_code 24 = .ok (.ireturn, 1) := by decide +kernel
theorem dX0_become_0 : decode prog_2_method_3_code 0 = .ok (.aload_n 0, 1) := by decide +kernel
theorem dX0_become_1 : decode prog_2_method_3_code 1 = .ok (.getfield 10, 3) := by decide +kernel
theorem dX0_become_4 : decode prog_2_method_3_code 4 = .ok (.aload_n 1, 1) := by decide +kernel
theorem dX0_become_5 : decode prog_2_method_3_code 5 = .ok (.invokevirtual 24, 3) := by decide +kernel
theorem dX0_become_8 : decode prog_2_method_3_code 8 = .ok (.aload_n 0, 1) := by decide +kernel
theorem dX0_become_9 : decode prog_2_method_3_code 9 = .ok (.iload_n 2, 1) := by decide +kernel
theorem dX0_become_10 : decode prog_2_method_3_code 10 = .ok (.ifCond .eq 17, 3) := by decide +kernel
theorem dX0_become_13 : decode prog_2_method_3_code 13 = .ok (.aload_n 0, 1) := by decide +kernel
theorem dX0_become_14 : decode prog_2_method_3_code 14 = .ok (.getfield 10, 3) := by decide +kernel
theorem dX0_become_17 : decode prog_2_method_3_code 17 = .ok (.invokevirtual 16, 3) := by decide +kernel
theorem dX0_become_20 : decode prog_2_method_3_code 20 = .ok (.ifCond .ne 7, 3) := by decide +kernel
theorem dX0_become_23 : decode prog_2_method_3_code 23 = .ok (.iconst 1, 1) := by decide +kernel
theorem dX0_become_24 : decode prog_2_method_3_code 24 = .ok (.goto 4, 3) := by decide +kernel
theorem dX0_become_27 : decode prog_2_method_3_code 27 = .ok (.iconst 0, 1) := by decide +kernel
theorem dX0_become_28 : decode prog_2_method_3_code 28 = .ok (.putfield 20, 3) := by decide +kernel
theorem dX0_become_31 : decode prog_2_method_3_code 31 = .ok (.aload_n 0, 1) := by decide +kernel
theorem dX0_become_32 : decode prog_2_method_3_code 32 = .ok (.iload_n 3, 1) := by decide +kernel
theorem dX0_become_33 : decode prog_2_method_3_code 33 = .ok (.putfield 28, 3) := by decide +kernel
theorem dX0_become_36 : decode prog_2_method_3_code 36 = .ok (.return_, 1) := by decide +kernel
theorem dX1_init_0 : decode prog_3_method_1_code 0 = .ok (.aload_n 0, 1) := by decide +kernel
theorem dX1_init_1 : decode prog_3_method_1_code 1 = .ok (.invokespecial 3, 3) := by decide +kernel
theorem dX1_init_4 : decode prog_3_method_1_code 4 = .ok (.return_, 1) := by decide +kernel
theorem dX1_plan_0 : decode prog_3_method_2_code 0 = .ok (.aload_n 0, 1) := by decide +kernel
theorem dX1_plan_1 : decode prog_3_method_2_code 1 = .ok (.aload_n 1, 1) := by decide +kernel
theorem dX1_plan_2 : decode prog_3_method_2_code 2 = .ok (.getfield 9, 3) := by decide +kernel
theorem dX1_plan_5 : decode prog_3_method_2_code 5 = .ok (.putfield 15, 3) := by decide +kernel
theorem dX1_plan_8 : decode prog_3_method_2_code 8 = .ok (.aload_n 0, 1) := by decide +kernel
theorem dX1_plan_9 : decode prog_3_method_2_code 9 = .ok (.aload_n 1, 1) := by decide +kernel
theorem dX1_plan_10 : decode prog_3_method_2_code 10 = .ok (.getfield 18, 3) := by decide +kernel
theorem dX1_plan_13 : decode prog_3_method_2_code 13 = .ok (.invokevirtual 22, 3) := by decide +kernel
theorem dX1_plan_16 : decode prog_3_method_2_code 16 = .ok (.putfield 28, 3) := by decide +kernel
theorem dX1_plan_19 : decode prog_3_method_2_code 19 = .ok (.aload_n 0, 1) := by decide +kernel
theorem dX1_plan_20 : decode prog_3_method_2_code 20 = .ok (.getfield 28, 3) := by decide +kernel
theorem dX1_plan_23 : decode prog_3_method_2_code 23 = .ok (.i2l, 1) := by decide +kernel
theorem dX1_plan_24 : decode prog_3_method_2_code 24 = .ok (.lconst 1, 1) := by decide +kernel
theorem dX1_plan_25 : decode prog_3_method_2_code 25 = .ok (.lsub, 1) := by decide +kernel
theorem dX1_plan_26 : decode prog_3_method_2_code 26 = .ok (.aload_n 1, 1) := by decide +kernel
theorem dX1_plan_27 : decode prog_3_method_2_code 27 = .ok (.getfield 32, 3) := by decide +kernel
theorem dX1_plan_30 : decode prog_3_method_2_code 30 = .ok (.i2l, 1) := by decide +kernel
theorem dX1_plan_31 : decode prog_3_method_2_code 31 = .ok (.lsub, 1) := by decide +kernel
theorem dX1_plan_32 : decode prog_3_method_2_code 32 = .ok (.lstore_n 3, 1) := by decide +kernel
theorem dX1_plan_33 : decode prog_3_method_2_code 33 = .ok (.iload_n 2, 1) := by decide +kernel
theorem dX1_plan_34 : decode prog_3_method_2_code 34 = .ok (.iconst 2, 1) := by decide +kernel
theorem dX1_plan_35 : decode prog_3_method_2_code 35 = .ok (.if_icmp .eq 18, 3) := by decide +kernel
theorem dX1_plan_38 : decode prog_3_method_2_code 38 = .ok (.aload_n 1, 1) := by decide +kernel
theorem dX1_plan_39 : decode prog_3_method_2_code 39 = .ok (.getfield 32, 3) := by decide +kernel
theorem dX1_plan_42 : decode prog_3_method_2_code 42 = .ok (.ifCond .lt 17, 3) := by decide +kernel
theorem dX1_plan_45 : decode prog_3_method_2_code 45 = .ok (.lload_n 3, 1) := by decide +kernel
theorem dX1_plan_46 : decode prog_3_method_2_code 46 = .ok (.ldc2_w 35, 3) := by decide +kernel
theorem dX1_plan_49 : decode prog_3_method_2_code 49 = .ok (.lcmp, 1) := by decide +kernel
theorem dX1_plan_50 : decode prog_3_method_2_code 50 = .ok (.ifCond .lt 9, 3) := by decide +kernel
theorem dX1_plan_53 : decode prog_3_method_2_code 53 = .ok (.aload_n 0, 1) := by decide +kernel
theorem dX1_plan_54 : decode prog_3_method_2_code 54 = .ok (.aload_n 1, 1) := by decide +kernel
theorem dX1_plan_55 : decode prog_3_method_2_code 55 = .ok (.invokevirtual 37, 3) := by decide +kernel
theorem dX1_plan_58 : decode prog_3_method_2_code 58 = .ok (.return_, 1) := by decide +kernel
theorem dX1_plan_59 : decode prog_3_method_2_code 59 = .ok (.aload_n 0, 1) := by decide +kernel
theorem dX1_plan_60 : decode prog_3_method_2_code 60 = .ok (.lconst 0, 1) := by decide +kernel
theorem dX1_plan_61 : decode prog_3_method_2_code 61 = .ok (.putfield 41, 3) := by decide +kernel
theorem dX1_plan_64 : decode prog_3_method_2_code 64 = .ok (.aload_n 1, 1) := by decide +kernel
theorem dX1_plan_65 : decode prog_3_method_2_code 65 = .ok (.getfield 18, 3) := by decide +kernel
theorem dX1_plan_68 : decode prog_3_method_2_code 68 = .ok (.invokevirtual 45, 3) := by decide +kernel
theorem dX1_plan_71 : decode prog_3_method_2_code 71 = .ok (.ifCond .eq 40, 3) := by decide +kernel
theorem dX1_plan_74 : decode prog_3_method_2_code 74 = .ok (.aload_n 0, 1) := by decide +kernel
theorem dX1_plan_75 : decode prog_3_method_2_code 75 = .ok (.iload_n 2, 1) := by decide +kernel
theorem dX1_plan_76 : decode prog_3_method_2_code 76 = .ok (.iconst 1, 1) := by decide +kernel
theorem dX1_plan_77 : decode prog_3_method_2_code 77 = .ok (.if_icmp .ne 14, 3) := by decide +kernel
theorem dX1_plan_80 : decode prog_3_method_2_code 80 = .ok (.lload_n 3, 1) := by decide +kernel
theorem dX1_plan_81 : decode prog_3_method_2_code 81 = .ok (.lneg, 1) := by decide +kernel
theorem dX1_plan_82 : decode prog_3_method_2_code 82 = .ok (.ldc2_w 49, 3) := by decide +kernel
theorem dX1_plan_85 : decode prog_3_method_2_code 85 = .ok (.invokestatic 51, 3) := by decide +kernel
theorem dX1_plan_88 : decode prog_3_method_2_code 88 = .ok (.goto 4, 3) := by decide +kernel
theorem dX1_plan_91 : decode prog_3_method_2_code 91 = .ok (.lconst 0, 1) := by decide +kernel
theorem dX1_plan_92 : decode prog_3_method_2_code 92 = .ok (.putfield 57, 3) := by decide +kernel
theorem dX1_plan_95 : decode prog_3_method_2_code 95 = .ok (.aload_n 0, 1) := by decide +kernel
theorem dX1_plan_96 : decode prog_3_method_2_code 96 = .ok (.lconst 1, 1) := by decide +kernel
theorem dX1_plan_97 : decode prog_3_method_2_code 97 = .ok (.putfield 60, 3) := by decide +kernel
theorem dX1_plan_100 : decode prog_3_method_2_code 100 = .ok (.aload_n 0, 1) := by decide +kernel
theorem dX1_plan_101 : decode prog_3_method_2_code 101 = .ok (.lload_n 3, 1) := by decide +kernel
theorem dX1_plan_102 : decode prog_3_method_2_code 102 = .ok (.aload_n 0, 1) := by decide +kernel
theorem dX1_plan_103 : decode prog_3_method_2_code 103 = .ok (.getfield 57, 3) := by decide +kernel
theorem dX1_plan_106 : decode prog_3_method_2_code 106 = .ok (.ladd, 1) := by decide +kernel
theorem dX1_plan_107 : decode prog_3_method_2_code 107 = .ok (.putfield 63, 3) := by decide +kernel
theorem dX1_plan_110 : decode prog_3_method_2_code 110 = .ok (.return_, 1) := by decide +kernel
theorem dX1_plan_111 : decode prog_3_method_2_code 111 = .ok (.iload_n 2, 1) := by decide +kernel
theorem dX1_plan_112 : decode prog_3_method_2_code 112 = .ok (.iconst 1, 1) := by decide +kernel
theorem dX1_plan_113 : decode prog_3_method_2_code 113 = .ok (.if_icmp .ne 13, 3) := by decide +kernel
theorem dX1_plan_116 : decode prog_3_method_2_code 116 = .ok (.lload_n 3, 1) := by decide +kernel
theorem dX1_plan_117 : decode prog_3_method_2_code 117 = .ok (.ldc2_w 49, 3) := by decide +kernel
theorem dX1_plan_120 : decode prog_3_method_2_code 120 = .ok (.invokestatic 51, 3) := by decide +kernel
theorem dX1_plan_123 : decode prog_3_method_2_code 123 = .ok (.goto 4, 3) := by decide +kernel
theorem dX1_plan_126 : decode prog_3_method_2_code 126 = .ok (.lconst 0, 1) := by decide +kernel
theorem dX1_plan_127 : decode prog_3_method_2_code 127 = .ok (.lstore 5, 2) := by decide +kernel
theorem dX1_plan_129 : decode prog_3_method_2_code 129 = .ok (.aload_n 0, 1) := by decide +kernel
theorem dX1_plan_130 : decode prog_3_method_2_code 130 = .ok (.lconst 1, 1) := by decide +kernel
theorem dX1_plan_131 : decode prog_3_method_2_code 131 = .ok (.lload 5, 2) := by decide +kernel
theorem dX1_plan_133 : decode prog_3_method_2_code 133 = .ok (.ladd, 1) := by decide +kernel
theorem dX1_plan_134 : decode prog_3_method_2_code 134 = .ok (.putfield 60, 3) := by decide +kernel
theorem dX1_plan_137 : decode prog_3_method_2_code 137 = .ok (.aload_n 0, 1) := by decide +kernel
theorem dX1_plan_138 : decode prog_3_method_2_code 138 = .ok (.lconst 0, 1) := by decide +kernel
theorem dX1_plan_139 : decode prog_3_method_2_code 139 = .ok (.aload_n 0, 1) := by decide +kernel
theorem dX1_plan_140 : decode prog_3_method_2_code 140 = .ok (.getfield 60, 3) := by decide +kernel
theorem dX1_plan_143 : decode prog_3_method_2_code 143 = .ok (.aload_n 0, 1) := by decide +kernel
theorem dX1_plan_144 : decode prog_3_method_2_code 144 = .ok (.getfield 28, 3) := by decide +kernel
theorem dX1_plan_147 : decode prog_3_method_2_code 147 = .ok (.i2l, 1) := by decide +kernel
theorem dX1_plan_148 : decode prog_3_method_2_code 148 = .ok (.lsub, 1) := by decide +kernel
theorem dX1_plan_149 : decode prog_3_method_2_code 149 = .ok (.invokestatic 66, 3) := by decide +kernel
theorem dX1_plan_152 : decode prog_3_method_2_code 152 = .ok (.putfield 57, 3) := by decide +kernel
theorem dX1_plan_155 : decode prog_3_method_2_code 155 = .ok (.aload_n 0, 1) := by decide +kernel
theorem dX1_plan_156 : decode prog_3_method_2_code 156 = .ok (.lload_n 3, 1) := by decide +kernel
theorem dX1_plan_157 : decode prog_3_method_2_code 157 = .ok (.lload 5, 2) := by decide +kernel
theorem dX1_plan_159 : decode prog_3_method_2_code 159 = .ok (.lsub, 1) := by decide +kernel
theorem dX1_plan_160 : decode prog_3_method_2_code 160 = .ok (.putfield 63, 3) := by decide +kernel
theorem dX1_plan_163 : decode prog_3_method_2_code 163 = .ok (.return_, 1) := by decide +kernel
theorem dX1_planPlain_0 : decode prog_3_method_3_code 0 = .ok (.aload_n 0, 1) := by decide +kernel
theorem dX1_planPlain_1 : decode prog_3_method_3_code 1 = .ok (.lconst 0, 1) := by decide +kernel
theorem dX1_planPlain_2 : decode prog_3_method_3_code 2 = .ok (.putfield 63, 3) := by decide +kernel
theorem dX1_planPlain_5 : decode prog_3_method_3_code 5 = .ok (.aload_n 1, 1) := by decide +kernel
theorem dX1_planPlain_6 : decode prog_3_method_3_code 6 = .ok (.getfield 32, 3) := by decide +kernel
theorem dX1_planPlain_9 : decode prog_3_method_3_code 9 = .ok (.ifCond .lt 50, 3) := by decide +kernel
theorem dX1_planPlain_12 : decode prog_3_method_3_code 12 = .ok (.aload_n 0, 1) := by decide +kernel
theorem dX1_planPlain_13 : decode prog_3_method_3_code 13 = .ok (.lconst 0, 1) := by decide +kernel
theorem dX1_planPlain_14 : decode prog_3_method_3_code 14 = .ok (.aload_n 1, 1) := by decide +kernel
theorem dX1_planPlain_15 : decode prog_3_method_3_code 15 = .ok (.getfield 32, 3) := by decide +kernel
theorem dX1_planPlain_18 : decode prog_3_method_3_code 18 = .ok (.i2l, 1) := by decide +kernel
theorem dX1_planPlain_19 : decode prog_3_method_3_code 19 = .ok (.lconst 1, 1) := by decide +kernel
theorem dX1_planPlain_20 : decode prog_3_method_3_code 20 = .ok (.ladd, 1) := by decide +kernel
theorem dX1_planPlain_21 : decode prog_3_method_3_code 21 = .ok (.aload_n 0, 1) := by decide +kernel
theorem dX1_planPlain_22 : decode prog_3_method_3_code 22 = .ok (.getfield 28, 3) := by decide +kernel
theorem dX1_planPlain_25 : decode prog_3_method_3_code 25 = .ok (.i2l, 1) := by decide +kernel
theorem dX1_planPlain_26 : decode prog_3_method_3_code 26 = .ok (.lsub, 1) := by decide +kernel
theorem dX1_planPlain_27 : decode prog_3_method_3_code 27 = .ok (.invokestatic 66, 3) := by decide +kernel
theorem dX1_planPlain_30 : decode prog_3_method_3_code 30 = .ok (.putfield 41, 3) := by decide +kernel
theorem dX1_planPlain_33 : decode prog_3_method_3_code 33 = .ok (.aload_n 0, 1) := by decide +kernel
theorem dX1_planPlain_34 : decode prog_3_method_3_code 34 = .ok (.lconst 0, 1) := by decide +kernel
theorem dX1_planPlain_35 : decode prog_3_method_3_code 35 = .ok (.putfield 57, 3) := by decide +kernel
theorem dX1_planPlain_38 : decode prog_3_method_3_code 38 = .ok (.aload_n 0, 1) := by decide +kernel
theorem dX1_planPlain_39 : decode prog_3_method_3_code 39 = .ok (.aload_n 0, 1) := by decide +kernel
theorem dX1_planPlain_40 : decode prog_3_method_3_code 40 = .ok (.getfield 41, 3) := by decide +kernel
theorem dX1_planPlain_43 : decode prog_3_method_3_code 43 = .ok (.aload_n 0, 1) := by decide +kernel
theorem dX1_planPlain_44 : decode prog_3_method_3_code 44 = .ok (.getfield 28, 3) := by decide +kernel
theorem dX1_planPlain_47 : decode prog_3_method_3_code 47 = .ok (.i2l, 1) := by decide +kernel
theorem dX1_planPlain_48 : decode prog_3_method_3_code 48 = .ok (.ladd, 1) := by decide +kernel
theorem dX1_planPlain_49 : decode prog_3_method_3_code 49 = .ok (.aload_n 1, 1) := by decide +kernel
theorem dX1_planPlain_50 : decode prog_3_method_3_code 50 = .ok (.getfield 32, 3) := by decide +kernel
theorem dX1_planPlain_53 : decode prog_3_method_3_code 53 = .ok (.i2l, 1) := by decide +kernel
theorem dX1_planPlain_54 : decode prog_3_method_3_code 54 = .ok (.lsub, 1) := by decide +kernel
theorem dX1_planPlain_55 : decode prog_3_method_3_code 55 = .ok (.putfield 60, 3) := by decide +kernel
theorem dX1_planPlain_58 : decode prog_3_method_3_code 58 = .ok (.return_, 1) := by decide +kernel
theorem dX1_planPlain_59 : decode prog_3_method_3_code 59 = .ok (.aload_n 0, 1) := by decide +kernel
theorem dX1_planPlain_60 : decode prog_3_method_3_code 60 = .ok (.lconst 0, 1) := by decide +kernel
theorem dX1_planPlain_61 : decode prog_3_method_3_code 61 = .ok (.putfield 41, 3) := by decide +kernel
theorem dX1_planPlain_64 : decode prog_3_method_3_code 64 = .ok (.aload_n 0, 1) := by decide +kernel
theorem dX1_planPlain_65 : decode prog_3_method_3_code 65 = .ok (.aload_n 1, 1) := by decide +kernel
theorem dX1_planPlain_66 : decode prog_3_method_3_code 66 = .ok (.getfield 18, 3) := by decide +kernel
theorem dX1_planPlain_69 : decode prog_3_method_3_code 69 = .ok (.invokevirtual 45, 3) := by decide +kernel
theorem dX1_planPlain_72 : decode prog_3_method_3_code 72 = .ok (.ifCond .eq 7, 3) := by decide +kernel
theorem dX1_planPlain_75 : decode prog_3_method_3_code 75 = .ok (.lconst 0, 1) := by decide +kernel
theorem dX1_planPlain_76 : decode prog_3_method_3_code 76 = .ok (.goto 9, 3) := by decide +kernel
theorem dX1_planPlain_79 : decode prog_3_method_3_code 79 = .ok (.aload_n 1, 1) := by decide +kernel
theorem dX1_planPlain_80 : decode prog_3_method_3_code 80 = .ok (.getfield 32, 3) := by decide +kernel
theorem dX1_planPlain_83 : decode prog_3_method_3_code 83 = .ok (.i2l, 1) := by decide +kernel
theorem dX1_planPlain_84 : decode prog_3_method_3_code 84 = .ok (.lneg, 1) := by decide +kernel
theorem dX1_planPlain_85 : decode prog_3_method_3_code 85 = .ok (.putfield 57, 3) := by decide +kernel
theorem dX1_planPlain_88 : decode prog_3_method_3_code 88 = .ok (.aload_n 0, 1) := by decide +kernel
theorem dX1_planPlain_89 : decode prog_3_method_3_code 89 = .ok (.aload_n 0, 1) := by decide +kernel
theorem dX1_planPlain_90 : decode prog_3_method_3_code 90 = .ok (.getfield 28, 3) := by decide +kernel
theorem dX1_planPlain_93 : decode prog_3_method_3_code 93 = .ok (.i2l, 1) := by decide +kernel
theorem dX1_planPlain_94 : decode prog_3_method_3_code 94 = .ok (.aload_n 0, 1) := by decide +kernel
theorem dX1_planPlain_95 : decode prog_3_method_3_code 95 = .ok (.getfield 57, 3) := by decide +kernel
theorem dX1_planPlain_98 : decode prog_3_method_3_code 98 = .ok (.ladd, 1) := by decide +kernel
theorem dX1_planPlain_99 : decode prog_3_method_3_code 99 = .ok (.putfield 60, 3) := by decide +kernel
theorem dX1_planPlain_102 : decode prog_3_method_3_code 102 = .ok (.return_, 1) := by decide +kernel
theorem dX1_length_0 : decode prog_3_method_4_code 0 = .ok (.aload_n 0, 1) := by decide +kernel
theorem dX1_length_1 : decode prog_3_method_4_code 1 = .ok (.getfield 41, 3) := by decide +kernel
theorem dX1_length_4 : decode prog_3_method_4_code 4 = .ok (.aload_n 0, 1) := by decide +kernel
theorem dX1_length_5 : decode prog_3_method_4_code 5 = .ok (.getfield 28, 3) := by decide +kernel
theorem dX1_length_8 : decode prog_3_method_4_code 8 = .ok (.i2l, 1) := by decide +kernel
theorem dX1_length_9 : decode prog_3_method_4_code 9 = .ok (.ladd, 1) := by decide +kernel
theorem dX1_length_10 : decode prog_3_method_4_code 10 = .ok (.aload_n 0, 1) := by decide +kernel
theorem dX1_length_11 : decode prog_3_method_4_code 11 = .ok (.getfield 57, 3) := by decide +kernel
theorem dX1_length_14 : decode prog_3_method_4_code 14 = .ok (.ladd, 1) := by decide +kernel
theorem dX1_length_15 : decode prog_3_method_4_code 15 = .ok (.lstore_n 1, 1) := by decide +kernel
theorem dX1_length_16 : decode prog_3_method_4_code 16 = .ok (.lload_n 1, 1) := by decide +kernel
theorem dX1_length_17 : decode prog_3_method_4_code 17 = .ok (.aload_n 0, 1) := by decide +kernel
theorem dX1_length_18 : decode prog_3_method_4_code 18 = .ok (.getfield 15, 3) := by decide +kernel
theorem dX1_length_21 : decode prog_3_method_4_code 21 = .ok (.ifCond .eq 7, 3) := by decide +kernel
theorem dX1_length_24 : decode prog_3_method_4_code 24 = .ok (.iconst 1, 1) := by decide +kernel
theorem dX1_length_25 : decode prog_3_method_4_code 25 = .ok (.goto 4, 3) := by decide +kernel
theorem dX1_length_28 : decode prog_3_method_4_code 28 = .ok (.iconst 0, 1) := by decide +kernel
theorem dX1_length_29 : decode prog_3_method_4_code 29 = .ok (.i2l, 1) := by decide +kernel
theorem dX1_length_30 : decode prog_3_method_4_code 30 = .ok (.ladd, 1) := by decide +kernel
theorem dX1_length_31 : decode prog_3_method_4_code 31 = .ok (.lload_n 1, 1) := by decide +kernel
theorem dX1_length_32 : decode prog_3_method_4_code 32 = .ok (.aload_n 0, 1) := by decide +kernel
theorem dX1_length_33 : decode prog_3_method_4_code 33 = .ok (.getfield 60, 3) := by decide +kernel
theorem dX1_length_36 : decode prog_3_method_4_code 36 = .ok (.lcmp, 1) := by decide +kernel
theorem dX1_length_37 : decode prog_3_method_4_code 37 = .ok (.ifCond .le 7, 3) := by decide +kernel
theorem dX1_length_40 : decode prog_3_method_4_code 40 = .ok (.iconst 1, 1) := by decide +kernel
theorem dX1_length_41 : decode prog_3_method_4_code 41 = .ok (.goto 4, 3) := by decide +kernel
theorem dX1_length_44 : decode prog_3_method_4_code 44 = .ok (.iconst 0, 1) := by decide +kernel
theorem dX1_length_45 : decode prog_3_method_4_code 45 = .ok (.i2l, 1) := by decide +kernel
theorem dX1_length_46 : decode prog_3_method_4_code 46 = .ok (.ladd, 1) := by decide +kernel
theorem dX1_length_47 : decode prog_3_method_4_code 47 = .ok (.lstore_n 3, 1) := by decide +kernel
theorem dX1_length_48 : decode prog_3_method_4_code 48 = .ok (.aload_n 0, 1) := by decide +kernel
theorem dX1_length_49 : decode prog_3_method_4_code 49 = .ok (.getfield 63, 3) := by decide +kernel
theorem dX1_length_52 : decode prog_3_method_4_code 52 = .ok (.lconst 0, 1) := by decide +kernel
theorem dX1_length_53 : decode prog_3_method_4_code 53 = .ok (.lcmp, 1) := by decide +kernel
theorem dX1_length_54 : decode prog_3_method_4_code 54 = .ok (.ifCond .eq 37, 3) := by decide +kernel
theorem dX1_length_57 : decode prog_3_method_4_code 57 = .ok (.lload_n 3, 1) := by decide +kernel
theorem dX1_length_58 : decode prog_3_method_4_code 58 = .ok (.ldc2_w 49, 3) := by decide +kernel
theorem dX1_length_61 : decode prog_3_method_4_code 61 = .ok (.ladd, 1) := by decide +kernel
theorem dX1_length_62 : decode prog_3_method_4_code 62 = .ok (.lstore_n 3, 1) := by decide +kernel
theorem dX1_length_63 : decode prog_3_method_4_code 63 = .ok (.aload_n 0, 1) := by decide +kernel
theorem dX1_length_64 : decode prog_3_method_4_code 64 = .ok (.invokevirtual 69, 3) := by decide +kernel
theorem dX1_length_67 : decode prog_3_method_4_code 67 = .ok (.lstore 5, 2) := by decide +kernel
theorem dX1_length_69 : decode prog_3_method_4_code 69 = .ok (.lload 5, 2) := by decide +kernel
theorem dX1_length_71 : decode prog_3_method_4_code 71 = .ok (.lconst 1, 1) := by decide +kernel
theorem dX1_length_72 : decode prog_3_method_4_code 72 = .ok (.lcmp, 1) := by decide +kernel
theorem dX1_length_73 : decode prog_3_method_4_code 73 = .ok (.ifCond .le 18, 3) := by decide +kernel
theorem dX1_length_76 : decode prog_3_method_4_code 76 = .ok (.lload_n 3, 1) := by decide +kernel
theorem dX1_length_77 : decode prog_3_method_4_code 77 = .ok (.lconst 1, 1) := by decide +kernel
theorem dX1_length_78 : decode prog_3_method_4_code 78 = .ok (.ladd, 1) := by decide +kernel
theorem dX1_length_79 : decode prog_3_method_4_code 79 = .ok (.lstore_n 3, 1) := by decide +kernel
theorem dX1_length_80 : decode prog_3_method_4_code 80 = .ok (.lload 5, 2) := by decide +kernel
theorem dX1_length_82 : decode prog_3_method_4_code 82 = .ok (.ldc2_w 73, 3) := by decide +kernel
theorem dX1_length_85 : decode prog_3_method_4_code 85 = .ok (.ldiv, 1) := by decide +kernel
theorem dX1_length_86 : decode prog_3_method_4_code 86 = .ok (.lstore 5, 2) := by decide +kernel
theorem dX1_length_88 : decode prog_3_method_4_code 88 = .ok (.goto (-19), 3) := by decide +kernel
theorem dX1_length_91 : decode prog_3_method_4_code 91 = .ok (.lload_n 3, 1) := by decide +kernel
theorem dX1_length_92 : decode prog_3_method_4_code 92 = .ok (.lreturn, 1) := by decide +kernel
theorem dX1_lay_0 : decode prog_3_method_5_code 0 = .ok (.aload_n 2, 1) := by decide +kernel
theorem dX1_lay_1 : decode prog_3_method_5_code 1 = .ok (.iconst 0, 1) := by decide +kernel
theorem dX1_lay_2 : decode prog_3_method_5_code 2 = .ok (.putfield 75, 3) := by decide +kernel
theorem dX1_lay_5 : decode prog_3_method_5_code 5 = .ok (.aload_n 2, 1) := by decide +kernel
theorem dX1_lay_6 : decode prog_3_method_5_code 6 = .ok (.aload_n 0, 1) := by decide +kernel
theorem dX1_lay_7 : decode prog_3_method_5_code 7 = .ok (.invokevirtual 80, 3) := by decide +kernel
theorem dX1_lay_10 : decode prog_3_method_5_code 10 = .ok (.l2i, 1) := by decide +kernel
theorem dX1_lay_11 : decode prog_3_method_5_code 11 = .ok (.invokevirtual 82, 3) := by decide +kernel
theorem dX1_lay_14 : decode prog_3_method_5_code 14 = .ok (.aload_n 0, 1) := by decide +kernel
theorem dX1_lay_15 : decode prog_3_method_5_code 15 = .ok (.getfield 15, 3) := by decide +kernel
theorem dX1_lay_18 : decode prog_3_method_5_code 18 = .ok (.ifCond .eq 9, 3) := by decide +kernel
theorem dX1_lay_21 : decode prog_3_method_5_code 21 = .ok (.aload_n 2, 1) := by decide +kernel
theorem dX1_lay_22 : decode prog_3_method_5_code 22 = .ok (.bipush 45, 2) := by decide +kernel
theorem dX1_lay_24 : decode prog_3_method_5_code 24 = .ok (.invokevirtual 86, 3) := by decide +kernel
theorem dX1_lay_27 : decode prog_3_method_5_code 27 = .ok (.aload_n 0, 1) := by decide +kernel
theorem dX1_lay_28 : decode prog_3_method_5_code 28 = .ok (.getfield 41, 3) := by decide +kernel
theorem dX1_lay_31 : decode prog_3_method_5_code 31 = .ok (.aload_n 0, 1) := by decide +kernel
theorem dX1_lay_32 : decode prog_3_method_5_code 32 = .ok (.getfield 28, 3) := by decide +kernel
theorem dX1_lay_35 : decode prog_3_method_5_code 35 = .ok (.i2l, 1) := by decide +kernel
theorem dX1_lay_36 : decode prog_3_method_5_code 36 = .ok (.ladd, 1) := by decide +kernel
theorem dX1_lay_37 : decode prog_3_method_5_code 37 = .ok (.aload_n 0, 1) := by decide +kernel
theorem dX1_lay_38 : decode prog_3_method_5_code 38 = .ok (.getfield 57, 3) := by decide +kernel
theorem dX1_lay_41 : decode prog_3_method_5_code 41 = .ok (.ladd, 1) := by decide +kernel
theorem dX1_lay_42 : decode prog_3_method_5_code 42 = .ok (.lstore_n 3, 1) := by decide +kernel
theorem dX1_lay_43 : decode prog_3_method_5_code 43 = .ok (.iconst 0, 1) := by decide +kernel
theorem dX1_lay_44 : decode prog_3_method_5_code 44 = .ok (.istore 5, 2) := by decide +kernel
theorem dX1_lay_46 : decode prog_3_method_5_code 46 = .ok (.iload 5, 2) := by decide +kernel
theorem dX1_lay_48 : decode prog_3_method_5_code 48 = .ok (.i2l, 1) := by decide +kernel
theorem dX1_lay_49 : decode prog_3_method_5_code 49 = .ok (.lload_n 3, 1) := by decide +kernel
theorem dX1_lay_50 : decode prog_3_method_5_code 50 = .ok (.lcmp, 1) := by decide +kernel
theorem dX1_lay_51 : decode prog_3_method_5_code 51 = .ok (.ifCond .ge 54, 3) := by decide +kernel
theorem dX1_lay_54 : decode prog_3_method_5_code 54 = .ok (.iload 5, 2) := by decide +kernel
theorem dX1_lay_56 : decode prog_3_method_5_code 56 = .ok (.i2l, 1) := by decide +kernel
theorem dX1_lay_57 : decode prog_3_method_5_code 57 = .ok (.aload_n 0, 1) := by decide +kernel
theorem dX1_lay_58 : decode prog_3_method_5_code 58 = .ok (.getfield 60, 3) := by decide +kernel
theorem dX1_lay_61 : decode prog_3_method_5_code 61 = .ok (.lcmp, 1) := by decide +kernel
theorem dX1_lay_62 : decode prog_3_method_5_code 62 = .ok (.ifCond .ne 9, 3) := by decide +kernel
theorem dX1_lay_65 : decode prog_3_method_5_code 65 = .ok (.aload_n 2, 1) := by decide +kernel
theorem dX1_lay_66 : decode prog_3_method_5_code 66 = .ok (.bipush 46, 2) := by decide +kernel
theorem dX1_lay_68 : decode prog_3_method_5_code 68 = .ok (.invokevirtual 86, 3) := by decide +kernel
theorem dX1_lay_71 : decode prog_3_method_5_code 71 = .ok (.aload_n 2, 1) := by decide +kernel
theorem dX1_lay_72 : decode prog_3_method_5_code 72 = .ok (.bipush 48, 2) := by decide +kernel
theorem dX1_lay_74 : decode prog_3_method_5_code 74 = .ok (.aload_n 1, 1) := by decide +kernel
theorem dX1_lay_75 : decode prog_3_method_5_code 75 = .ok (.aload_n 0, 1) := by decide +kernel
theorem dX1_lay_76 : decode prog_3_method_5_code 76 = .ok (.getfield 41, 3) := by decide +kernel
theorem dX1_lay_79 : decode prog_3_method_5_code 79 = .ok (.aload_n 0, 1) := by decide +kernel
theorem dX1_lay_80 : decode prog_3_method_5_code 80 = .ok (.getfield 28, 3) := by decide +kernel
theorem dX1_lay_83 : decode prog_3_method_5_code 83 = .ok (.i2l, 1) := by decide +kernel
theorem dX1_lay_84 : decode prog_3_method_5_code 84 = .ok (.ladd, 1) := by decide +kernel
theorem dX1_lay_85 : decode prog_3_method_5_code 85 = .ok (.lconst 1, 1) := by decide +kernel
theorem dX1_lay_86 : decode prog_3_method_5_code 86 = .ok (.lsub, 1) := by decide +kernel
theorem dX1_lay_87 : decode prog_3_method_5_code 87 = .ok (.iload 5, 2) := by decide +kernel
theorem dX1_lay_89 : decode prog_3_method_5_code 89 = .ok (.i2l, 1) := by decide +kernel
theorem dX1_lay_90 : decode prog_3_method_5_code 90 = .ok (.lsub, 1) := by decide +kernel
theorem dX1_lay_91 : decode prog_3_method_5_code 91 = .ok (.l2i, 1) := by decide +kernel
theorem dX1_lay_92 : decode prog_3_method_5_code 92 = .ok (.invokevirtual 89, 3) := by decide +kernel
theorem dX1_lay_95 : decode prog_3_method_5_code 95 = .ok (.iadd, 1) := by decide +kernel
theorem dX1_lay_96 : decode prog_3_method_5_code 96 = .ok (.invokevirtual 86, 3) := by decide +kernel
theorem dX1_lay_99 : decode prog_3_method_5_code 99 = .ok (.iinc 5 1, 3) := by decide +kernel
theorem dX1_lay_102 : decode prog_3_method_5_code 102 = .ok (.goto (-56), 3) := by decide +kernel
theorem dX1_lay_105 : decode prog_3_method_5_code 105 = .ok (.aload_n 0, 1) := by decide +kernel
theorem dX1_lay_106 : decode prog_3_method_5_code 106 = .ok (.aload_n 2, 1) := by decide +kernel
theorem dX1_lay_107 : decode prog_3_method_5_code 107 = .ok (.invokevirtual 93, 3) := by decide +kernel
theorem dX1_lay_110 : decode prog_3_method_5_code 110 = .ok (.return_, 1) := by decide +kernel
theorem dX1_layExponent_0 : decode prog_3_method_6_code 0 = .ok (.aload_n 0, 1) := by decide +kernel
theorem dX1_layExponent_1 : decode prog_3_method_6_code 1 = .ok (.getfield 63, 3) := by decide +kernel
theorem dX1_layExponent_4 : decode prog_3_method_6_code 4 = .ok (.lconst 0, 1) := by decide +kernel
theorem dX1_layExponent_5 : decode prog_3_method_6_code 5 = .ok (.lcmp, 1) := by decide +kernel
theorem dX1_layExponent_6 : decode prog_3_method_6_code 6 = .ok (.ifCond .ne 4, 3) := by decide +kernel
theorem dX1_layExponent_9 : decode prog_3_method_6_code 9 = .ok (.return_, 1) := by decide +kernel
theorem dX1_layExponent_10 : decode prog_3_method_6_code 10 = .ok (.aload_n 1, 1) := by decide +kernel
theorem dX1_layExponent_11 : decode prog_3_method_6_code 11 = .ok (.bipush 69, 2) := by decide +kernel
theorem dX1_layExponent_13 : decode prog_3_method_6_code 13 = .ok (.invokevirtual 86, 3) := by decide +kernel
theorem dX1_layExponent_16 : decode prog_3_method_6_code 16 = .ok (.aload_n 1, 1) := by decide +kernel
theorem dX1_layExponent_17 : decode prog_3_method_6_code 17 = .ok (.aload_n 0, 1) := by decide +kernel
theorem dX1_layExponent_18 : decode prog_3_method_6_code 18 = .ok (.getfield 63, 3) := by decide +kernel
theorem dX1_layExponent_21 : decode prog_3_method_6_code 21 = .ok (.lconst 0, 1) := by decide +kernel
theorem dX1_layExponent_22 : decode prog_3_method_6_code 22 = .ok (.lcmp, 1) := by decide +kernel
theorem dX1_layExponent_23 : decode prog_3_method_6_code 23 = .ok (.ifCond .ge 8, 3) := by decide +kernel
theorem dX1_layExponent_26 : decode prog_3_method_6_code 26 = .ok (.bipush 45, 2) := by decide +kernel
theorem dX1_layExponent_28 : decode prog_3_method_6_code 28 = .ok (.goto 5, 3) := by decide +kernel
theorem dX1_layExponent_31 : decode prog_3_method_6_code 31 = .ok (.bipush 43, 2) := by decide +kernel
theorem dX1_layExponent_33 : decode prog_3_method_6_code 33 = .ok (.invokevirtual 86, 3) := by decide +kernel
theorem dX1_layExponent_36 : decode prog_3_method_6_code 36 = .ok (.aload_n 0, 1) := by decide +kernel
theorem dX1_layExponent_37 : decode prog_3_method_6_code 37 = .ok (.getfield 63, 3) := by decide +kernel
theorem dX1_layExponent_40 : decode prog_3_method_6_code 40 = .ok (.invokestatic 97, 3) := by decide +kernel
theorem dX1_layExponent_43 : decode prog_3_method_6_code 43 = .ok (.lstore_n 2, 1) := by decide +kernel
theorem dX1_layExponent_44 : decode prog_3_method_6_code 44 = .ok (.aload_n 0, 1) := by decide +kernel
theorem dX1_layExponent_45 : decode prog_3_method_6_code 45 = .ok (.invokevirtual 69, 3) := by decide +kernel
theorem dX1_layExponent_48 : decode prog_3_method_6_code 48 = .ok (.lstore 4, 2) := by decide +kernel
theorem dX1_layExponent_50 : decode prog_3_method_6_code 50 = .ok (.lload 4, 2) := by decide +kernel
theorem dX1_layExponent_52 : decode prog_3_method_6_code 52 = .ok (.lconst 0, 1) := by decide +kernel
theorem dX1_layExponent_53 : decode prog_3_method_6_code 53 = .ok (.lcmp, 1) := by decide +kernel
theorem dX1_layExponent_54 : decode prog_3_method_6_code 54 = .ok (.ifCond .le 30, 3) := by decide +kernel
theorem dX1_layExponent_57 : decode prog_3_method_6_code 57 = .ok (.aload_n 1, 1) := by decide +kernel
theorem dX1_layExponent_58 : decode prog_3_method_6_code 58 = .ok (.bipush 48, 2) := by decide +kernel
theorem dX1_layExponent_60 : decode prog_3_method_6_code 60 = .ok (.lload_n 2, 1) := by decide +kernel
theorem dX1_layExponent_61 : decode prog_3_method_6_code 61 = .ok (.lload 4, 2) := by decide +kernel
theorem dX1_layExponent_63 : decode prog_3_method_6_code 63 = .ok (.ldiv, 1) := by decide +kernel
theorem dX1_layExponent_64 : decode prog_3_method_6_code 64 = .ok (.ldc2_w 73, 3) := by decide +kernel
theorem dX1_layExponent_67 : decode prog_3_method_6_code 67 = .ok (.lrem, 1) := by decide +kernel
theorem dX1_layExponent_68 : decode prog_3_method_6_code 68 = .ok (.l2i, 1) := by decide +kernel
theorem dX1_layExponent_69 : decode prog_3_method_6_code 69 = .ok (.iadd, 1) := by decide +kernel
theorem dX1_layExponent_70 : decode prog_3_method_6_code 70 = .ok (.invokevirtual 86, 3) := by decide +kernel
theorem dX1_layExponent_73 : decode prog_3_method_6_code 73 = .ok (.lload 4, 2) := by decide +kernel
theorem dX1_layExponent_75 : decode prog_3_method_6_code 75 = .ok (.ldc2_w 73, 3) := by decide +kernel
theorem dX1_layExponent_78 : decode prog_3_method_6_code 78 = .ok (.ldiv, 1) := by decide +kernel
theorem dX1_layExponent_79 : decode prog_3_method_6_code 79 = .ok (.lstore 4, 2) := by decide +kernel
theorem dX1_layExponent_81 : decode prog_3_method_6_code 81 = .ok (.goto (-31), 3) := by decide +kernel
theorem dX1_layExponent_84 : decode prog_3_method_6_code 84 = .ok (.return_, 1) := by decide +kernel
theorem dX1_highestUnit_0 : decode prog_3_method_7_code 0 = .ok (.aload_n 0, 1) := by decide +kernel
theorem dX1_highestUnit_1 : decode prog_3_method_7_code 1 = .ok (.getfield 63, 3) := by decide +kernel
theorem dX1_highestUnit_4 : decode prog_3_method_7_code 4 = .ok (.invokestatic 97, 3) := by decide +kernel
theorem dX1_highestUnit_7 : decode prog_3_method_7_code 7 = .ok (.lstore_n 1, 1) := by decide +kernel
theorem dX1_highestUnit_8 : decode prog_3_method_7_code 8 = .ok (.lconst 1, 1) := by decide +kernel
theorem dX1_highestUnit_9 : decode prog_3_method_7_code 9 = .ok (.lstore_n 3, 1) := by decide +kernel
theorem dX1_highestUnit_10 : decode prog_3_method_7_code 10 = .ok (.lload_n 3, 1) := by decide +kernel
theorem dX1_highestUnit_11 : decode prog_3_method_7_code 11 = .ok (.ldc2_w 101, 3) := by decide +kernel
theorem dX1_highestUnit_14 : decode prog_3_method_7_code 14 = .ok (.lcmp, 1) := by decide +kernel
theorem dX1_highestUnit_15 : decode prog_3_method_7_code 15 = .ok (.ifCond .ge 22, 3) := by decide +kernel
theorem dX1_highestUnit_18 : decode prog_3_method_7_code 18 = .ok (.lload_n 1, 1) := by decide +kernel
theorem dX1_highestUnit_19 : decode prog_3_method_7_code 19 = .ok (.lload_n 3, 1) := by decide +kernel
theorem dX1_highestUnit_20 : decode prog_3_method_7_code 20 = .ok (.ldiv, 1) := by decide +kernel
theorem dX1_highestUnit_21 : decode prog_3_method_7_code 21 = .ok (.ldc2_w 73, 3) := by decide +kernel
theorem dX1_highestUnit_24 : decode prog_3_method_7_code 24 = .ok (.lcmp, 1) := by decide +kernel
theorem dX1_highestUnit_25 : decode prog_3_method_7_code 25 = .ok (.ifCond .lt 12, 3) := by decide +kernel
theorem dX1_highestUnit_28 : decode prog_3_method_7_code 28 = .ok (.lload_n 3, 1) := by decide +kernel
theorem dX1_highestUnit_29 : decode prog_3_method_7_code 29 = .ok (.ldc2_w 73, 3) := by decide +kernel
theorem dX1_highestUnit_32 : decode prog_3_method_7_code 32 = .ok (.lmul, 1) := by decide +kernel
theorem dX1_highestUnit_33 : decode prog_3_method_7_code 33 = .ok (.lstore_n 3, 1) := by decide +kernel
theorem dX1_highestUnit_34 : decode prog_3_method_7_code 34 = .ok (.goto (-24), 3) := by decide +kernel
theorem dX1_highestUnit_37 : decode prog_3_method_7_code 37 = .ok (.lload_n 3, 1) := by decide +kernel
theorem dX1_highestUnit_38 : decode prog_3_method_7_code 38 = .ok (.lreturn, 1) := by decide +kernel
theorem dX2_init_0 : decode prog_4_method_1_code 0 = .ok (.aload_n 0, 1) := by decide +kernel
theorem dX2_init_1 : decode prog_4_method_1_code 1 = .ok (.invokespecial 3, 3) := by decide +kernel
theorem dX2_init_4 : decode prog_4_method_1_code 4 = .ok (.aload_n 0, 1) := by decide +kernel
theorem dX2_init_5 : decode prog_4_method_1_code 5 = .ok (.iconst 4, 1) := by decide +kernel
theorem dX2_init_6 : decode prog_4_method_1_code 6 = .ok (.newarray .int, 2) := by decide +kernel
theorem dX2_init_8 : decode prog_4_method_1_code 8 = .ok (.putfield 9, 3) := by decide +kernel
theorem dX2_init_11 : decode prog_4_method_1_code 11 = .ok (.return_, 1) := by decide +kernel
theorem dX2_isZero_0 : decode prog_4_method_2_code 0 = .ok (.aload_n 0, 1) := by decide +kernel
theorem dX2_isZero_1 : decode prog_4_method_2_code 1 = .ok (.getfield 15, 3) := by decide +kernel
theorem dX2_isZero_4 : decode prog_4_method_2_code 4 = .ok (.ifCond .ne 7, 3) := by decide +kernel
theorem dX2_isZero_7 : decode prog_4_method_2_code 7 = .ok (.iconst 1, 1) := by decide +kernel
theorem dX2_isZero_8 : decode prog_4_method_2_code 8 = .ok (.goto 4, 3) := by decide +kernel
theorem dX2_isZero_11 : decode prog_4_method_2_code 11 = .ok (.iconst 0, 1) := by decide +kernel
theorem dX2_isZero_12 : decode prog_4_method_2_code 12 = .ok (.ireturn, 1) := by decide +kernel
theorem dX2_isOne_0 : decode prog_4_method_3_code 0 = .ok (.aload_n 0, 1) := by decide +kernel
theorem dX2_isOne_1 : decode prog_4_method_3_code 1 = .ok (.getfield 15, 3) := by decide +kernel
theorem dX2_isOne_4 : decode prog_4_method_3_code 4 = .ok (.iconst 1, 1) := by decide +kernel
theorem dX2_isOne_5 : decode prog_4_method_3_code 5 = .ok (.if_icmp .ne 17, 3) := by decide +kernel
theorem dX2_isOne_8 : decode prog_4_method_3_code 8 = .ok (.aload_n 0, 1) := by decide +kernel
theorem dX2_isOne_9 : decode prog_4_method_3_code 9 = .ok (.getfield 9, 3) := by decide +kernel
theorem dX2_isOne_12 : decode prog_4_method_3_code 12 = .ok (.iconst 0, 1) := by decide +kernel
theorem dX2_isOne_13 : decode prog_4_method_3_code 13 = .ok (.iaload, 1) := by decide +kernel
theorem dX2_isOne_14 : decode prog_4_method_3_code 14 = .ok (.iconst 1, 1) := by decide +kernel
theorem dX2_isOne_15 : decode prog_4_method_3_code 15 = .ok (.if_icmp .ne 7, 3) := by decide +kernel
theorem dX2_isOne_18 : decode prog_4_method_3_code 18 = .ok (.iconst 1, 1) := by decide +kernel
theorem dX2_isOne_19 : decode prog_4_method_3_code 19 = .ok (.goto 4, 3) := by decide +kernel
theorem dX2_isOne_22 : decode prog_4_method_3_code 22 = .ok (.iconst 0, 1) := by decide +kernel
theorem dX2_isOne_23 : decode prog_4_method_3_code 23 = .ok (.ireturn, 1) := by decide +kernel
theorem dX2_isOdd_0 : decode prog_4_method_4_code 0 = .ok (.aload_n 0, 1) := by decide +kernel
theorem dX2_isOdd_1 : decode prog_4_method_4_code 1 = .ok (.getfield 15, 3) := by decide +kernel
theorem dX2_isOdd_4 : decode prog_4_method_4_code 4 = .ok (.ifCond .le 18, 3) := by decide +kernel
theorem dX2_isOdd_7 : decode prog_4_method_4_code 7 = .ok (.aload_n 0, 1) := by decide +kernel
theorem dX2_isOdd_8 : decode prog_4_method_4_code 8 = .ok (.getfield 9, 3) := by decide +kernel
theorem dX2_isOdd_11 : decode prog_4_method_4_code 11 = .ok (.iconst 0, 1) := by decide +kernel
theorem dX2_isOdd_12 : decode prog_4_method_4_code 12 = .ok (.iaload, 1) := by decide +kernel
theorem dX2_isOdd_13 : decode prog_4_method_4_code 13 = .ok (.iconst 1, 1) := by decide +kernel
theorem dX2_isOdd_14 : decode prog_4_method_4_code 14 = .ok (.iand, 1) := by decide +kernel
theorem dX2_isOdd_15 : decode prog_4_method_4_code 15 = .ok (.ifCond .eq 7, 3) := by decide +kernel
theorem dX2_isOdd_18 : decode prog_4_method_4_code 18 = .ok (.iconst 1, 1) := by decide +kernel
theorem dX2_isOdd_19 : decode prog_4_method_4_code 19 = .ok (.goto 4, 3) := by decide +kernel
theorem dX2_isOdd_22 : decode prog_4_method_4_code 22 = .ok (.iconst 0, 1) := by decide +kernel
theorem dX2_isOdd_23 : decode prog_4_method_4_code 23 = .ok (.ireturn, 1) := by decide +kernel
theorem dX2_digitCount_0 : decode prog_4_method_5_code 0 = .ok (.aload_n 0, 1) := by decide +kernel
theorem dX2_digitCount_1 : decode prog_4_method_5_code 1 = .ok (.getfield 15, 3) := by decide +kernel
theorem dX2_digitCount_4 : decode prog_4_method_5_code 4 = .ok (.ifCond .ne 5, 3) := by decide +kernel
theorem dX2_digitCount_7 : decode prog_4_method_5_code 7 = .ok (.iconst 1, 1) := by decide +kernel
theorem dX2_digitCount_8 : decode prog_4_method_5_code 8 = .ok (.ireturn, 1) := by decide +kernel
theorem dX2_digitCount_9 : decode prog_4_method_5_code 9 = .ok (.aload_n 0, 1) := by decide +kernel
theorem dX2_digitCount_10 : decode prog_4_method_5_code 10 = .ok (.getfield 9, 3) := by decide +kernel
theorem dX2_digitCount_13 : decode prog_4_method_5_code 13 = .ok (.aload_n 0, 1) := by decide +kernel
theorem dX2_digitCount_14 : decode prog_4_method_5_code 14 = .ok (.getfield 15, 3) := by decide +kernel
theorem dX2_digitCount_17 : decode prog_4_method_5_code 17 = .ok (.iconst 1, 1) := by decide +kernel
theorem dX2_digitCount_18 : decode prog_4_method_5_code 18 = .ok (.isub, 1) := by decide +kernel
theorem dX2_digitCount_19 : decode prog_4_method_5_code 19 = .ok (.iaload, 1) := by decide +kernel
theorem dX2_digitCount_20 : decode prog_4_method_5_code 20 = .ok (.istore_n 1, 1) := by decide +kernel
theorem dX2_digitCount_21 : decode prog_4_method_5_code 21 = .ok (.iconst 1, 1) := by decide +kernel
theorem dX2_digitCount_22 : decode prog_4_method_5_code 22 = .ok (.istore_n 2, 1) := by decide +kernel
theorem dX2_digitCount_23 : decode prog_4_method_5_code 23 = .ok (.iload_n 2, 1) := by decide +kernel
theorem dX2_digitCount_24 : decode prog_4_method_5_code 24 = .ok (.bipush 9, 2) := by decide +kernel
theorem dX2_digitCount_26 : decode prog_4_method_5_code 26 = .ok (.if_icmp .ge 18, 3) := by decide +kernel
theorem dX2_digitCount_29 : decode prog_4_method_5_code 29 = .ok (.iload_n 1, 1) := by decide +kernel
theorem dX2_digitCount_30 : decode prog_4_method_5_code 30 = .ok (.getstatic 19, 3) := by decide +kernel
theorem dX2_digitCount_33 : decode prog_4_method_5_code 33 = .ok (.iload_n 2, 1) := by decide +kernel
theorem dX2_digitCount_34 : decode prog_4_method_5_code 34 = .ok (.iaload, 1) := by decide +kernel
theorem dX2_digitCount_35 : decode prog_4_method_5_code 35 = .ok (.if_icmp .lt 9, 3) := by decide +kernel
theorem dX2_digitCount_38 : decode prog_4_method_5_code 38 = .ok (.iinc 2 1, 3) := by decide +kernel
theorem dX2_digitCount_41 : decode prog_4_method_5_code 41 = .ok (.goto (-18), 3) := by decide +kernel
theorem dX2_digitCount_44 : decode prog_4_method_5_code 44 = .ok (.aload_n 0, 1) := by decide +kernel
theorem dX2_digitCount_45 : decode prog_4_method_5_code 45 = .ok (.getfield 15, 3) := by decide +kernel
theorem dX2_digitCount_48 : decode prog_4_method_5_code 48 = .ok (.iconst 1, 1) := by decide +kernel
theorem dX2_digitCount_49 : decode prog_4_method_5_code 49 = .ok (.isub, 1) := by decide +kernel
theorem dX2_digitCount_50 : decode prog_4_method_5_code 50 = .ok (.bipush 9, 2) := by decide +kernel
theorem dX2_digitCount_52 : decode prog_4_method_5_code 52 = .ok (.imul, 1) := by decide +kernel
theorem dX2_digitCount_53 : decode prog_4_method_5_code 53 = .ok (.iload_n 2, 1) := by decide +kernel
theorem dX2_digitCount_54 : decode prog_4_method_5_code 54 = .ok (.iadd, 1) := by decide +kernel
theorem dX2_digitCount_55 : decode prog_4_method_5_code 55 = .ok (.ireturn, 1) := by decide +kernel
theorem dX2_digitAt_0 : decode prog_4_method_6_code 0 = .ok (.iload_n 1, 1) := by decide +kernel
theorem dX2_digitAt_1 : decode prog_4_method_6_code 1 = .ok (.ifCond .lt 14, 3) := by decide +kernel
theorem dX2_digitAt_4 : decode prog_4_method_6_code 4 = .ok (.iload_n 1, 1) := by decide +kernel
theorem dX2_digitAt_5 : decode prog_4_method_6_code 5 = .ok (.bipush 9, 2) := by decide +kernel
theorem dX2_digitAt_7 : decode prog_4_method_6_code 7 = .ok (.idiv, 1) := by decide +kernel
theorem dX2_digitAt_8 : decode prog_4_method_6_code 8 = .ok (.aload_n 0, 1) := by decide +kernel
theorem dX2_digitAt_9 : decode prog_4_method_6_code 9 = .ok (.getfield 15, 3) := by decide +kernel
theorem dX2_digitAt_12 : decode prog_4_method_6_code 12 = .ok (.if_icmp .lt 5, 3) := by decide +kernel
theorem dX2_digitAt_15 : decode prog_4_method_6_code 15 = .ok (.iconst 0, 1) := by decide +kernel
theorem dX2_digitAt_16 : decode prog_4_method_6_code 16 = .ok (.ireturn, 1) := by decide +kernel
theorem dX2_digitAt_17 : decode prog_4_method_6_code 17 = .ok (.aload_n 0, 1) := by decide +kernel
theorem dX2_digitAt_18 : decode prog_4_method_6_code 18 = .ok (.getfield 9, 3) := by decide +kernel
theorem dX2_digitAt_21 : decode prog_4_method_6_code 21 = .ok (.iload_n 1, 1) := by decide +kernel
theorem dX2_digitAt_22 : decode prog_4_method_6_code 22 = .ok (.bipush 9, 2) := by decide +kernel
theorem dX2_digitAt_24 : decode prog_4_method_6_code 24 = .ok (.idiv, 1) := by decide +kernel
theorem dX2_digitAt_25 : decode prog_4_method_6_code 25 = .ok (.iaload, 1) := by decide +kernel
theorem dX2_digitAt_26 : decode prog_4_method_6_code 26 = .ok (.getstatic 19, 3) := by decide +kernel
theorem dX2_digitAt_29 : decode prog_4_method_6_code 29 = .ok (.iload_n 1, 1) := by decide +kernel
theorem dX2_digitAt_30 : decode prog_4_method_6_code 30 = .ok (.bipush 9, 2) := by decide +kernel
theorem dX2_digitAt_32 : decode prog_4_method_6_code 32 = .ok (.irem, 1) := by decide +kernel
theorem dX2_digitAt_33 : decode prog_4_method_6_code 33 = .ok (.iaload, 1) := by decide +kernel
theorem dX2_digitAt_34 : decode prog_4_method_6_code 34 = .ok (.idiv, 1) := by decide +kernel
theorem dX2_digitAt_35 : decode prog_4_method_6_code 35 = .ok (.bipush 10, 2) := by decide +kernel
theorem dX2_digitAt_37 : decode prog_4_method_6_code 37 = .ok (.irem, 1) := by decide +kernel
theorem dX2_digitAt_38 : decode prog_4_method_6_code 38 = .ok (.ireturn, 1) := by decide +kernel
theorem dX2_endingZeros_0 : decode prog_4_method_7_code 0 = .ok (.iconst 0, 1) := by decide +kernel
theorem dX2_endingZeros_1 : decode prog_4_method_7_code 1 = .ok (.istore_n 1, 1) := by decide +kernel
theorem dX2_endingZeros_2 : decode prog_4_method_7_code 2 = .ok (.iload_n 1, 1) := by decide +kernel
theorem dX2_endingZeros_3 : decode prog_4_method_7_code 3 = .ok (.aload_n 0, 1) := by decide +kernel
theorem dX2_endingZeros_4 : decode prog_4_method_7_code 4 = .ok (.getfield 15, 3) := by decide +kernel
theorem dX2_endingZeros_7 : decode prog_4_method_7_code 7 = .ok (.if_icmp .ge 18, 3) := by decide +kernel
theorem dX2_endingZeros_10 : decode prog_4_method_7_code 10 = .ok (.aload_n 0, 1) := by decide +kernel
theorem dX2_endingZeros_11 : decode prog_4_method_7_code 11 = .ok (.getfield 9, 3) := by decide +kernel
theorem dX2_endingZeros_14 : decode prog_4_method_7_code 14 = .ok (.iload_n 1, 1) := by decide +kernel
theorem dX2_endingZeros_15 : decode prog_4_method_7_code 15 = .ok (.iaload, 1) := by decide +kernel
theorem dX2_endingZeros_16 : decode prog_4_method_7_code 16 = .ok (.ifCond .ne 9, 3) := by decide +kernel
theorem dX2_endingZeros_19 : decode prog_4_method_7_code 19 = .ok (.iinc 1 1, 3) := by decide +kernel
theorem dX2_endingZeros_22 : decode prog_4_method_7_code 22 = .ok (.goto (-20), 3) := by decide +kernel
theorem dX2_endingZeros_25 : decode prog_4_method_7_code 25 = .ok (.iload_n 1, 1) := by decide +kernel
theorem dX2_endingZeros_26 : decode prog_4_method_7_code 26 = .ok (.aload_n 0, 1) := by decide +kernel
theorem dX2_endingZeros_27 : decode prog_4_method_7_code 27 = .ok (.getfield 15, 3) := by decide +kernel
theorem dX2_endingZeros_30 : decode prog_4_method_7_code 30 = .ok (.if_icmp .ne 5, 3) := by decide +kernel
theorem dX2_endingZeros_33 : decode prog_4_method_7_code 33 = .ok (.iconst 0, 1) := by decide +kernel
theorem dX2_endingZeros_34 : decode prog_4_method_7_code 34 = .ok (.ireturn, 1) := by decide +kernel
theorem dX2_endingZeros_35 : decode prog_4_method_7_code 35 = .ok (.iconst 0, 1) := by decide +kernel
theorem dX2_endingZeros_36 : decode prog_4_method_7_code 36 = .ok (.istore_n 2, 1) := by decide +kernel
theorem dX2_endingZeros_37 : decode prog_4_method_7_code 37 = .ok (.iload_n 2, 1) := by decide +kernel
theorem dX2_endingZeros_38 : decode prog_4_method_7_code 38 = .ok (.bipush 8, 2) := by decide +kernel
theorem dX2_endingZeros_40 : decode prog_4_method_7_code 40 = .ok (.if_icmp .ge 26, 3) := by decide +kernel
theorem dX2_endingZeros_43 : decode prog_4_method_7_code 43 = .ok (.aload_n 0, 1) := by decide +kernel
theorem dX2_endingZeros_44 : decode prog_4_method_7_code 44 = .ok (.getfield 9, 3) := by decide +kernel
theorem dX2_endingZeros_47 : decode prog_4_method_7_code 47 = .ok (.iload_n 1, 1) := by decide +kernel
theorem dX2_endingZeros_48 : decode prog_4_method_7_code 48 = .ok (.iaload, 1) := by decide +kernel
theorem dX2_endingZeros_49 : decode prog_4_method_7_code 49 = .ok (.getstatic 19, 3) := by decide +kernel
theorem dX2_endingZeros_52 : decode prog_4_method_7_code 52 = .ok (.iload_n 2, 1) := by decide +kernel
theorem dX2_endingZeros_53 : decode prog_4_method_7_code 53 = .ok (.iconst 1, 1) := by decide +kernel
theorem dX2_endingZeros_54 : decode prog_4_method_7_code 54 = .ok (.iadd, 1) := by decide +kernel
theorem dX2_endingZeros_55 : decode prog_4_method_7_code 55 = .ok (.iaload, 1) := by decide +kernel
theorem dX2_endingZeros_56 : decode prog_4_method_7_code 56 = .ok (.irem, 1) := by decide +kernel
theorem dX2_endingZeros_57 : decode prog_4_method_7_code 57 = .ok (.ifCond .ne 9, 3) := by decide +kernel
theorem dX2_endingZeros_60 : decode prog_4_method_7_code 60 = .ok (.iinc 2 1, 3) := by decide +kernel
theorem dX2_endingZeros_63 : decode prog_4_method_7_code 63 = .ok (.goto (-26), 3) := by decide +kernel
theorem dX2_endingZeros_66 : decode prog_4_method_7_code 66 = .ok (.iload_n 1, 1) := by decide +kernel
theorem dX2_endingZeros_67 : decode prog_4_method_7_code 67 = .ok (.bipush 9, 2) := by decide +kernel
theorem dX2_endingZeros_69 : decode prog_4_method_7_code 69 = .ok (.imul, 1) := by decide +kernel
theorem dX2_endingZeros_70 : decode prog_4_method_7_code 70 = .ok (.iload_n 2, 1) := by decide +kernel
theorem dX2_endingZeros_71 : decode prog_4_method_7_code 71 = .ok (.iadd, 1) := by decide +kernel
theorem dX2_endingZeros_72 : decode prog_4_method_7_code 72 = .ok (.ireturn, 1) := by decide +kernel
theorem dX2_hasDigitsBelow_0 : decode prog_4_method_8_code 0 = .ok (.iload_n 1, 1) := by decide +kernel
theorem dX2_hasDigitsBelow_1 : decode prog_4_method_8_code 1 = .ok (.ifCond .gt 5, 3) := by decide +kernel
theorem dX2_hasDigitsBelow_4 : decode prog_4_method_8_code 4 = .ok (.iconst 0, 1) := by decide +kernel
theorem dX2_hasDigitsBelow_5 : decode prog_4_method_8_code 5 = .ok (.ireturn, 1) := by decide +kernel
theorem dX2_hasDigitsBelow_6 : decode prog_4_method_8_code 6 = .ok (.iload_n 1, 1) := by decide +kernel
theorem dX2_hasDigitsBelow_7 : decode prog_4_method_8_code 7 = .ok (.bipush 9, 2) := by decide +kernel
theorem dX2_hasDigitsBelow_9 : decode prog_4_method_8_code 9 = .ok (.idiv, 1) := by decide +kernel
theorem dX2_hasDigitsBelow_10 : decode prog_4_method_8_code 10 = .ok (.istore_n 2, 1) := by decide +kernel
theorem dX2_hasDigitsBelow_11 : decode prog_4_method_8_code 11 = .ok (.iconst 0, 1) := by decide +kernel
theorem dX2_hasDigitsBelow_12 : decode prog_4_method_8_code 12 = .ok (.istore_n 3, 1) := by decide +kernel
theorem dX2_hasDigitsBelow_13 : decode prog_4_method_8_code 13 = .ok (.iload_n 3, 1) := by decide +kernel
theorem dX2_hasDigitsBelow_14 : decode prog_4_method_8_code 14 = .ok (.iload_n 2, 1) := by decide +kernel
theorem dX2_hasDigitsBelow_15 : decode prog_4_method_8_code 15 = .ok (.if_icmp .ge 28, 3) := by decide +kernel
theorem dX2_hasDigitsBelow_18 : decode prog_4_method_8_code 18 = .ok (.iload_n 3, 1) := by decide +kernel
theorem dX2_hasDigitsBelow_19 : decode prog_4_method_8_code 19 = .ok (.aload_n 0, 1) := by decide +kernel
theorem dX2_hasDigitsBelow_20 : decode prog_4_method_8_code 20 = .ok (.getfield 15, 3) := by decide +kernel
theorem dX2_hasDigitsBelow_23 : decode prog_4_method_8_code 23 = .ok (.if_icmp .ge 20, 3) := by decide +kernel
theorem dX2_hasDigitsBelow_26 : decode prog_4_method_8_code 26 = .ok (.aload_n 0, 1) := by decide +kernel
theorem dX2_hasDigitsBelow_27 : decode prog_4_method_8_code 27 = .ok (.getfield 9, 3) := by decide +kernel
theorem dX2_hasDigitsBelow_30 : decode prog_4_method_8_code 30 = .ok (.iload_n 3, 1) := by decide +kernel
theorem dX2_hasDigitsBelow_31 : decode prog_4_method_8_code 31 = .ok (.iaload, 1) := by decide +kernel
theorem dX2_hasDigitsBelow_32 : decode prog_4_method_8_code 32 = .ok (.ifCond .eq 5, 3) := by decide +kernel
theorem dX2_hasDigitsBelow_35 : decode prog_4_method_8_code 35 = .ok (.iconst 1, 1) := by decide +kernel
theorem dX2_hasDigitsBelow_36 : decode prog_4_method_8_code 36 = .ok (.ireturn, 1) := by decide +kernel
theorem dX2_hasDigitsBelow_37 : decode prog_4_method_8_code 37 = .ok (.iinc 3 1, 3) := by decide +kernel
theorem dX2_hasDigitsBelow_40 : decode prog_4_method_8_code 40 = .ok (.goto (-27), 3) := by decide +kernel
theorem dX2_hasDigitsBelow_43 : decode prog_4_method_8_code 43 = .ok (.iload_n 2, 1) := by decide +kernel
theorem dX2_hasDigitsBelow_44 : decode prog_4_method_8_code 44 = .ok (.aload_n 0, 1) := by decide +kernel
theorem dX2_hasDigitsBelow_45 : decode prog_4_method_8_code 45 = .ok (.getfield 15, 3) := by decide +kernel
theorem dX2_hasDigitsBelow_48 : decode prog_4_method_8_code 48 = .ok (.if_icmp .ge 25, 3) := by decide +kernel
theorem dX2_hasDigitsBelow_51 : decode prog_4_method_8_code 51 = .ok (.aload_n 0, 1) := by decide +kernel
theorem dX2_hasDigitsBelow_52 : decode prog_4_method_8_code 52 = .ok (.getfield 9, 3) := by decide +kernel
theorem dX2_hasDigitsBelow_55 : decode prog_4_method_8_code 55 = .ok (.iload_n 2, 1) := by decide +kernel
theorem dX2_hasDigitsBelow_56 : decode prog_4_method_8_code 56 = .ok (.iaload, 1) := by decide +kernel
theorem dX2_hasDigitsBelow_57 : decode prog_4_method_8_code 57 = .ok (.getstatic 19, 3) := by decide +kernel
theorem dX2_hasDigitsBelow_60 : decode prog_4_method_8_code 60 = .ok (.iload_n 1, 1) := by decide +kernel
theorem dX2_hasDigitsBelow_61 : decode prog_4_method_8_code 61 = .ok (.bipush 9, 2) := by decide +kernel
theorem dX2_hasDigitsBelow_63 : decode prog_4_method_8_code 63 = .ok (.irem, 1) := by decide +kernel
theorem dX2_hasDigitsBelow_64 : decode prog_4_method_8_code 64 = .ok (.iaload, 1) := by decide +kernel
theorem dX2_hasDigitsBelow_65 : decode prog_4_method_8_code 65 = .ok (.irem, 1) := by decide +kernel
theorem dX2_hasDigitsBelow_66 : decode prog_4_method_8_code 66 = .ok (.ifCond .eq 7, 3) := by decide +kernel
theorem dX2_hasDigitsBelow_69 : decode prog_4_method_8_code 69 = .ok (.iconst 1, 1) := by decide +kernel
theorem dX2_hasDigitsBelow_70 : decode prog_4_method_8_code 70 = .ok (.goto 4, 3) := by decide +kernel
theorem dX2_hasDigitsBelow_73 : decode prog_4_method_8_code 73 = .ok (.iconst 0, 1) := by decide +kernel
theorem dX2_hasDigitsBelow_74 : decode prog_4_method_8_code 74 = .ok (.ireturn, 1) := by decide +kernel
theorem dX2_clear_0 : decode prog_4_method_9_code 0 = .ok (.aload_n 0, 1) := by decide +kernel
theorem dX2_clear_1 : decode prog_4_method_9_code 1 = .ok (.iconst 0, 1) := by decide +kernel
theorem dX2_clear_2 : decode prog_4_method_9_code 2 = .ok (.putfield 15, 3) := by decide +kernel
theorem dX2_clear_5 : decode prog_4_method_9_code 5 = .ok (.return_, 1) := by decide +kernel
theorem dX2_become_0 : decode prog_4_method_10_code 0 = .ok (.aload_n 0, 1) := by decide +kernel
theorem dX2_become_1 : decode prog_4_method_10_code 1 = .ok (.aload_n 1, 1) := by decide +kernel
theorem dX2_become_2 : decode prog_4_method_10_code 2 = .ok (.getfield 15, 3) := by decide +kernel
theorem dX2_become_5 : decode prog_4_method_10_code 5 = .ok (.invokevirtual 22, 3) := by decide +kernel
theorem dX2_become_8 : decode prog_4_method_10_code 8 = .ok (.aload_n 1, 1) := by decide +kernel
theorem dX2_become_9 : decode prog_4_method_10_code 9 = .ok (.getfield 9, 3) := by decide +kernel
theorem dX2_become_12 : decode prog_4_method_10_code 12 = .ok (.iconst 0, 1) := by decide +kernel
theorem dX2_become_13 : decode prog_4_method_10_code 13 = .ok (.aload_n 0, 1) := by decide +kernel
theorem dX2_become_14 : decode prog_4_method_10_code 14 = .ok (.getfield 9, 3) := by decide +kernel
theorem dX2_become_17 : decode prog_4_method_10_code 17 = .ok (.iconst 0, 1) := by decide +kernel
theorem dX2_become_18 : decode prog_4_method_10_code 18 = .ok (.aload_n 1, 1) := by decide +kernel
theorem dX2_become_19 : decode prog_4_method_10_code 19 = .ok (.getfield 15, 3) := by decide +kernel
theorem dX2_become_22 : decode prog_4_method_10_code 22 = .ok (.invokestatic 26, 3) := by decide +kernel
theorem dX2_become_25 : decode prog_4_method_10_code 25 = .ok (.aload_n 0, 1) := by decide +kernel
theorem dX2_become_26 : decode prog_4_method_10_code 26 = .ok (.aload_n 1, 1) := by decide +kernel
theorem dX2_become_27 : decode prog_4_method_10_code 27 = .ok (.getfield 15, 3) := by decide +kernel
theorem dX2_become_30 : decode prog_4_method_10_code 30 = .ok (.putfield 15, 3) := by decide +kernel
theorem dX2_become_33 : decode prog_4_method_10_code 33 = .ok (.return_, 1) := by decide +kernel
theorem dX2_becomeSizeOf_0 : decode prog_4_method_11_code 0 = .ok (.aload_n 0, 1) := by decide +kernel
theorem dX2_becomeSizeOf_1 : decode prog_4_method_11_code 1 = .ok (.iconst 0, 1) := by decide +kernel
theorem dX2_becomeSizeOf_2 : decode prog_4_method_11_code 2 = .ok (.putfield 15, 3) := by decide +kernel
theorem dX2_becomeSizeOf_5 : decode prog_4_method_11_code 5 = .ok (.lload_n 1, 1) := by decide +kernel
theorem dX2_becomeSizeOf_6 : decode prog_4_method_11_code 6 = .ok (.lstore_n 3, 1) := by decide +kernel
theorem dX2_becomeSizeOf_7 : decode prog_4_method_11_code 7 = .ok (.aload_n 0, 1) := by decide +kernel
theorem dX2_becomeSizeOf_8 : decode prog_4_method_11_code 8 = .ok (.getfield 15, 3) := by decide +kernel
theorem dX2_becomeSizeOf_11 : decode prog_4_method_11_code 11 = .ok (.iconst 3, 1) := by decide +kernel
theorem dX2_becomeSizeOf_12 : decode prog_4_method_11_code 12 = .ok (.if_icmp .ge 46, 3) := by decide +kernel
theorem dX2_becomeSizeOf_15 : decode prog_4_method_11_code 15 = .ok (.lload_n 3, 1) := by decide +kernel
theorem dX2_becomeSizeOf_16 : decode prog_4_method_11_code 16 = .ok (.lconst 0, 1) := by decide +kernel
theorem dX2_becomeSizeOf_17 : decode prog_4_method_11_code 17 = .ok (.lcmp, 1) := by decide +kernel
theorem dX2_becomeSizeOf_18 : decode prog_4_method_11_code 18 = .ok (.ifCond .eq 40, 3) := by decide +kernel
theorem dX2_becomeSizeOf_21 : decode prog_4_method_11_code 21 = .ok (.aload_n 0, 1) := by decide +kernel
theorem dX2_becomeSizeOf_22 : decode prog_4_method_11_code 22 = .ok (.getfield 9, 3) := by decide +kernel
theorem dX2_becomeSizeOf_25 : decode prog_4_method_11_code 25 = .ok (.aload_n 0, 1) := by decide +kernel
theorem dX2_becomeSizeOf_26 : decode prog_4_method_11_code 26 = .ok (.getfield 15, 3) := by decide +kernel
theorem dX2_becomeSizeOf_29 : decode prog_4_method_11_code 29 = .ok (.lload_n 3, 1) := by decide +kernel
theorem dX2_becomeSizeOf_30 : decode prog_4_method_11_code 30 = .ok (.ldc2_w 32, 3) := by decide +kernel
theorem dX2_becomeSizeOf_33 : decode prog_4_method_11_code 33 = .ok (.lrem, 1) := by decide +kernel
theorem dX2_becomeSizeOf_34 : decode prog_4_method_11_code 34 = .ok (.l2i, 1) := by decide +kernel
theorem dX2_becomeSizeOf_35 : decode prog_4_method_11_code 35 = .ok (.invokestatic 34, 3) := by decide +kernel
theorem dX2_becomeSizeOf_38 : decode prog_4_method_11_code 38 = .ok (.iastore, 1) := by decide +kernel
theorem dX2_becomeSizeOf_39 : decode prog_4_method_11_code 39 = .ok (.lload_n 3, 1) := by decide +kernel
theorem dX2_becomeSizeOf_40 : decode prog_4_method_11_code 40 = .ok (.ldc2_w 32, 3) := by decide +kernel
theorem dX2_becomeSizeOf_43 : decode prog_4_method_11_code 43 = .ok (.ldiv, 1) := by decide +kernel
theorem dX2_becomeSizeOf_44 : decode prog_4_method_11_code 44 = .ok (.lstore_n 3, 1) := by decide +kernel
theorem dX2_becomeSizeOf_45 : decode prog_4_method_11_code 45 = .ok (.aload_n 0, 1) := by decide +kernel
theorem dX2_becomeSizeOf_46 : decode prog_4_method_11_code 46 = .ok (.dup, 1) := by decide +kernel
theorem dX2_becomeSizeOf_47 : decode prog_4_method_11_code 47 = .ok (.getfield 15, 3) := by decide +kernel
theorem dX2_becomeSizeOf_50 : decode prog_4_method_11_code 50 = .ok (.iconst 1, 1) := by decide +kernel
theorem dX2_becomeSizeOf_51 : decode prog_4_method_11_code 51 = .ok (.iadd, 1) := by decide +kernel
theorem dX2_becomeSizeOf_52 : decode prog_4_method_11_code 52 = .ok (.putfield 15, 3) := by decide +kernel
theorem dX2_becomeSizeOf_55 : decode prog_4_method_11_code 55 = .ok (.goto (-48), 3) := by decide +kernel
theorem dX2_becomeSizeOf_58 : decode prog_4_method_11_code 58 = .ok (.return_, 1) := by decide +kernel
theorem dX2_becomeDigits_0 : decode prog_4_method_12_code 0 = .ok (.iload_n 3, 1) := by decide +kernel
theorem dX2_becomeDigits_1 : decode prog_4_method_12_code 1 = .ok (.iload_n 2, 1) := by decide +kernel
theorem dX2_becomeDigits_2 : decode prog_4_method_12_code 2 = .ok (.isub, 1) := by decide +kernel
theorem dX2_becomeDigits_3 : decode prog_4_method_12_code 3 = .ok (.bipush 9, 2) := by decide +kernel
theorem dX2_becomeDigits_5 : decode prog_4_method_12_code 5 = .ok (.idiv, 1) := by decide +kernel
theorem dX2_becomeDigits_6 : decode prog_4_method_12_code 6 = .ok (.iconst 1, 1) := by decide +kernel
theorem dX2_becomeDigits_7 : decode prog_4_method_12_code 7 = .ok (.iadd, 1) := by decide +kernel
theorem dX2_becomeDigits_8 : decode prog_4_method_12_code 8 = .ok (.istore 4, 2) := by decide +kernel
theorem dX2_becomeDigits_10 : decode prog_4_method_12_code 10 = .ok (.aload_n 0, 1) := by decide +kernel
theorem dX2_becomeDigits_11 : decode prog_4_method_12_code 11 = .ok (.iload 4, 2) := by decide +kernel
theorem dX2_becomeDigits_13 : decode prog_4_method_12_code 13 = .ok (.invokevirtual 22, 3) := by decide +kernel
theorem dX2_becomeDigits_16 : decode prog_4_method_12_code 16 = .ok (.aload_n 0, 1) := by decide +kernel
theorem dX2_becomeDigits_17 : decode prog_4_method_12_code 17 = .ok (.iload 4, 2) := by decide +kernel
theorem dX2_becomeDigits_19 : decode prog_4_method_12_code 19 = .ok (.invokevirtual 40, 3) := by decide +kernel
theorem dX2_becomeDigits_22 : decode prog_4_method_12_code 22 = .ok (.iconst 0, 1) := by decide +kernel
theorem dX2_becomeDigits_23 : decode prog_4_method_12_code 23 = .ok (.istore 5, 2) := by decide +kernel
theorem dX2_becomeDigits_25 : decode prog_4_method_12_code 25 = .ok (.iload_n 3, 1) := by decide +kernel
theorem dX2_becomeDigits_26 : decode prog_4_method_12_code 26 = .ok (.iconst 1, 1) := by decide +kernel
theorem dX2_becomeDigits_27 : decode prog_4_method_12_code 27 = .ok (.isub, 1) := by decide +kernel
theorem dX2_becomeDigits_28 : decode prog_4_method_12_code 28 = .ok (.istore 6, 2) := by decide +kernel
theorem dX2_becomeDigits_30 : decode prog_4_method_12_code 30 = .ok (.iload 6, 2) := by decide +kernel
theorem dX2_becomeDigits_32 : decode prog_4_method_12_code 32 = .ok (.iload_n 2, 1) := by decide +kernel
theorem dX2_becomeDigits_33 : decode prog_4_method_12_code 33 = .ok (.if_icmp .lt 55, 3) := by decide +kernel
theorem dX2_becomeDigits_36 : decode prog_4_method_12_code 36 = .ok (.aload_n 1, 1) := by decide +kernel
theorem dX2_becomeDigits_37 : decode prog_4_method_12_code 37 = .ok (.iload 6, 2) := by decide +kernel
theorem dX2_becomeDigits_39 : decode prog_4_method_12_code 39 = .ok (.invokevirtual 43, 3) := by decide +kernel
theorem dX2_becomeDigits_42 : decode prog_4_method_12_code 42 = .ok (.istore 7, 2) := by decide +kernel
theorem dX2_becomeDigits_44 : decode prog_4_method_12_code 44 = .ok (.iload 7, 2) := by decide +kernel
theorem dX2_becomeDigits_46 : decode prog_4_method_12_code 46 = .ok (.bipush 46, 2) := by decide +kernel
theorem dX2_becomeDigits_48 : decode prog_4_method_12_code 48 = .ok (.if_icmp .eq 34, 3) := by decide +kernel
theorem dX2_becomeDigits_51 : decode prog_4_method_12_code 51 = .ok (.aload_n 0, 1) := by decide +kernel
theorem dX2_becomeDigits_52 : decode prog_4_method_12_code 52 = .ok (.getfield 9, 3) := by decide +kernel
theorem dX2_becomeDigits_55 : decode prog_4_method_12_code 55 = .ok (.iload 5, 2) := by decide +kernel
theorem dX2_becomeDigits_57 : decode prog_4_method_12_code 57 = .ok (.bipush 9, 2) := by decide +kernel
theorem dX2_becomeDigits_59 : decode prog_4_method_12_code 59 = .ok (.idiv, 1) := by decide +kernel
theorem dX2_becomeDigits_60 : decode prog_4_method_12_code 60 = .ok (.dup2, 1) := by decide +kernel
theorem dX2_becomeDigits_61 : decode prog_4_method_12_code 61 = .ok (.iaload, 1) := by decide +kernel
theorem dX2_becomeDigits_62 : decode prog_4_method_12_code 62 = .ok (.iload 7, 2) := by decide +kernel
theorem dX2_becomeDigits_64 : decode prog_4_method_12_code 64 = .ok (.bipush 48, 2) := by decide +kernel
theorem dX2_becomeDigits_66 : decode prog_4_method_12_code 66 = .ok (.isub, 1) := by decide +kernel
theorem dX2_becomeDigits_67 : decode prog_4_method_12_code 67 = .ok (.getstatic 19, 3) := by decide +kernel
theorem dX2_becomeDigits_70 : decode prog_4_method_12_code 70 = .ok (.iload 5, 2) := by decide +kernel
theorem dX2_becomeDigits_72 : decode prog_4_method_12_code 72 = .ok (.bipush 9, 2) := by decide +kernel
theorem dX2_becomeDigits_74 : decode prog_4_method_12_code 74 = .ok (.irem, 1) := by decide +kernel
theorem dX2_becomeDigits_75 : decode prog_4_method_12_code 75 = .ok (.iaload, 1) := by decide +kernel
theorem dX2_becomeDigits_76 : decode prog_4_method_12_code 76 = .ok (.imul, 1) := by decide +kernel
theorem dX2_becomeDigits_77 : decode prog_4_method_12_code 77 = .ok (.iadd, 1) := by decide +kernel
theorem dX2_becomeDigits_78 : decode prog_4_method_12_code 78 = .ok (.iastore, 1) := by decide +kernel
theorem dX2_becomeDigits_79 : decode prog_4_method_12_code 79 = .ok (.iinc 5 1, 3) := by decide +kernel
theorem dX2_becomeDigits_82 : decode prog_4_method_12_code 82 = .ok (.iinc 6 (-1), 3) := by decide +kernel
theorem dX2_becomeDigits_85 : decode prog_4_method_12_code 85 = .ok (.goto (-55), 3) := by decide +kernel
theorem dX2_becomeDigits_88 : decode prog_4_method_12_code 88 = .ok (.aload_n 0, 1) := by decide +kernel
theorem dX2_becomeDigits_89 : decode prog_4_method_12_code 89 = .ok (.iload 4, 2) := by decide +kernel
theorem dX2_becomeDigits_91 : decode prog_4_method_12_code 91 = .ok (.putfield 15, 3) := by decide +kernel
theorem dX2_becomeDigits_94 : decode prog_4_method_12_code 94 = .ok (.aload_n 0, 1) := by decide +kernel
theorem dX2_becomeDigits_95 : decode prog_4_method_12_code 95 = .ok (.invokevirtual 48, 3) := by decide +kernel
theorem dX2_becomeDigits_98 : decode prog_4_method_12_code 98 = .ok (.return_, 1) := by decide +kernel
theorem dX2_raise_0 : decode prog_4_method_13_code 0 = .ok (.aload_n 1, 1) := by decide +kernel
theorem dX2_raise_1 : decode prog_4_method_13_code 1 = .ok (.getfield 15, 3) := by decide +kernel
theorem dX2_raise_4 : decode prog_4_method_13_code 4 = .ok (.ifCond .eq 7, 3) := by decide +kernel
theorem dX2_raise_7 : decode prog_4_method_13_code 7 = .ok (.iload_n 2, 1) := by decide +kernel
theorem dX2_raise_8 : decode prog_4_method_13_code 8 = .ok (.ifCond .ge 9, 3) := by decide +kernel
theorem dX2_raise_11 : decode prog_4_method_13_code 11 = .ok (.aload_n 0, 1) := by decide +kernel
theorem dX2_raise_12 : decode prog_4_method_13_code 12 = .ok (.iconst 0, 1) := by decide +kernel
theorem dX2_raise_13 : decode prog_4_method_13_code 13 = .ok (.putfield 15, 3) := by decide +kernel
theorem dX2_raise_16 : decode prog_4_method_13_code 16 = .ok (.return_, 1) := by decide +kernel
theorem dX2_raise_17 : decode prog_4_method_13_code 17 = .ok (.iload_n 2, 1) := by decide +kernel
theorem dX2_raise_18 : decode prog_4_method_13_code 18 = .ok (.bipush 9, 2) := by decide +kernel
theorem dX2_raise_20 : decode prog_4_method_13_code 20 = .ok (.idiv, 1) := by decide +kernel
theorem dX2_raise_21 : decode prog_4_method_13_code 21 = .ok (.istore_n 3, 1) := by decide +kernel
theorem dX2_raise_22 : decode prog_4_method_13_code 22 = .ok (.getstatic 19, 3) := by decide +kernel
theorem dX2_raise_25 : decode prog_4_method_13_code 25 = .ok (.iload_n 2, 1) := by decide +kernel
theorem dX2_raise_26 : decode prog_4_method_13_code 26 = .ok (.bipush 9, 2) := by decide +kernel
theorem dX2_raise_28 : decode prog_4_method_13_code 28 = .ok (.irem, 1) := by decide +kernel
theorem dX2_raise_29 : decode prog_4_method_13_code 29 = .ok (.iaload, 1) := by decide +kernel
theorem dX2_raise_30 : decode prog_4_method_13_code 30 = .ok (.istore 4, 2) := by decide +kernel
theorem dX2_raise_32 : decode prog_4_method_13_code 32 = .ok (.aload_n 1, 1) := by decide +kernel
theorem dX2_raise_33 : decode prog_4_method_13_code 33 = .ok (.getfield 15, 3) := by decide +kernel
theorem dX2_raise_36 : decode prog_4_method_13_code 36 = .ok (.istore 5, 2) := by decide +kernel
theorem dX2_raise_38 : decode prog_4_method_13_code 38 = .ok (.aload_n 0, 1) := by decide +kernel
theorem dX2_raise_39 : decode prog_4_method_13_code 39 = .ok (.iload 5, 2) := by decide +kernel
theorem dX2_raise_41 : decode prog_4_method_13_code 41 = .ok (.iload_n 3, 1) := by decide +kernel
theorem dX2_raise_42 : decode prog_4_method_13_code 42 = .ok (.iadd, 1) := by decide +kernel
theorem dX2_raise_43 : decode prog_4_method_13_code 43 = .ok (.iconst 1, 1) := by decide +kernel
theorem dX2_raise_44 : decode prog_4_method_13_code 44 = .ok (.iadd, 1) := by decide +kernel
theorem dX2_raise_45 : decode prog_4_method_13_code 45 = .ok (.invokevirtual 22, 3) := by decide +kernel
theorem dX2_raise_48 : decode prog_4_method_13_code 48 = .ok (.iconst 0, 1) := by decide +kernel
theorem dX2_raise_49 : decode prog_4_method_13_code 49 = .ok (.istore 6, 2) := by decide +kernel
theorem dX2_raise_51 : decode prog_4_method_13_code 51 = .ok (.iload 5, 2) := by decide +kernel
theorem dX2_raise_53 : decode prog_4_method_13_code 53 = .ok (.iconst 1, 1) := by decide +kernel
theorem dX2_raise_54 : decode prog_4_method_13_code 54 = .ok (.isub, 1) := by decide +kernel
theorem dX2_raise_55 : decode prog_4_method_13_code 55 = .ok (.istore 7, 2) := by decide +kernel
theorem dX2_raise_57 : decode prog_4_method_13_code 57 = .ok (.iload 7, 2) := by decide +kernel
theorem dX2_raise_59 : decode prog_4_method_13_code 59 = .ok (.ifCond .lt 61, 3) := by decide +kernel
theorem dX2_raise_62 : decode prog_4_method_13_code 62 = .ok (.aload_n 1, 1) := by decide +kernel
theorem dX2_raise_63 : decode prog_4_method_13_code 63 = .ok (.getfield 9, 3) := by decide +kernel
theorem dX2_raise_66 : decode prog_4_method_13_code 66 = .ok (.iload 7, 2) := by decide +kernel
theorem dX2_raise_68 : decode prog_4_method_13_code 68 = .ok (.iaload, 1) := by decide +kernel
theorem dX2_raise_69 : decode prog_4_method_13_code 69 = .ok (.i2l, 1) := by decide +kernel
theorem dX2_raise_70 : decode prog_4_method_13_code 70 = .ok (.iload 4, 2) := by decide +kernel
theorem dX2_raise_72 : decode prog_4_method_13_code 72 = .ok (.i2l, 1) := by decide +kernel
theorem dX2_raise_73 : decode prog_4_method_13_code 73 = .ok (.lmul, 1) := by decide +kernel
theorem dX2_raise_74 : decode prog_4_method_13_code 74 = .ok (.lstore 8, 2) := by decide +kernel
theorem dX2_raise_76 : decode prog_4_method_13_code 76 = .ok (.lload 8, 2) := by decide +kernel
theorem dX2_raise_78 : decode prog_4_method_13_code 78 = .ok (.ldc2_w 32, 3) := by decide +kernel
theorem dX2_raise_81 : decode prog_4_method_13_code 81 = .ok (.ldiv, 1) := by decide +kernel
theorem dX2_raise_82 : decode prog_4_method_13_code 82 = .ok (.l2i, 1) := by decide +kernel
theorem dX2_raise_83 : decode prog_4_method_13_code 83 = .ok (.istore 10, 2) := by decide +kernel
theorem dX2_raise_85 : decode prog_4_method_13_code 85 = .ok (.aload_n 0, 1) := by decide +kernel
theorem dX2_raise_86 : decode prog_4_method_13_code 86 = .ok (.getfield 9, 3) := by decide +kernel
theorem dX2_raise_89 : decode prog_4_method_13_code 89 = .ok (.iload 7, 2) := by decide +kernel
theorem dX2_raise_91 : decode prog_4_method_13_code 91 = .ok (.iload_n 3, 1) := by decide +kernel
theorem dX2_raise_92 : decode prog_4_method_13_code 92 = .ok (.iadd, 1) := by decide +kernel
theorem dX2_raise_93 : decode prog_4_method_13_code 93 = .ok (.iconst 1, 1) := by decide +kernel
theorem dX2_raise_94 : decode prog_4_method_13_code 94 = .ok (.iadd, 1) := by decide +kernel
theorem dX2_raise_95 : decode prog_4_method_13_code 95 = .ok (.iload 6, 2) := by decide +kernel
theorem dX2_raise_97 : decode prog_4_method_13_code 97 = .ok (.iload 10, 2) := by decide +kernel
theorem dX2_raise_99 : decode prog_4_method_13_code 99 = .ok (.iadd, 1) := by decide +kernel
theorem dX2_raise_100 : decode prog_4_method_13_code 100 = .ok (.iastore, 1) := by decide +kernel
theorem dX2_raise_101 : decode prog_4_method_13_code 101 = .ok (.lload 8, 2) := by decide +kernel
theorem dX2_raise_103 : decode prog_4_method_13_code 103 = .ok (.iload 10, 2) := by decide +kernel
theorem dX2_raise_105 : decode prog_4_method_13_code 105 = .ok (.i2l, 1) := by decide +kernel
theorem dX2_raise_106 : decode prog_4_method_13_code 106 = .ok (.ldc2_w 32, 3) := by decide +kernel
theorem dX2_raise_109 : decode prog_4_method_13_code 109 = .ok (.lmul, 1) := by decide +kernel
theorem dX2_raise_110 : decode prog_4_method_13_code 110 = .ok (.lsub, 1) := by decide +kernel
theorem dX2_raise_111 : decode prog_4_method_13_code 111 = .ok (.l2i, 1) := by decide +kernel
theorem dX2_raise_112 : decode prog_4_method_13_code 112 = .ok (.istore 6, 2) := by decide +kernel
theorem dX2_raise_114 : decode prog_4_method_13_code 114 = .ok (.iinc 7 (-1), 3) := by decide +kernel
theorem dX2_raise_117 : decode prog_4_method_13_code 117 = .ok (.goto (-60), 3) := by decide +kernel
theorem dX2_raise_120 : decode prog_4_method_13_code 120 = .ok (.aload_n 0, 1) := by decide +kernel
theorem dX2_raise_121 : decode prog_4_method_13_code 121 = .ok (.getfield 9, 3) := by decide +kernel
theorem dX2_raise_124 : decode prog_4_method_13_code 124 = .ok (.iload_n 3, 1) := by decide +kernel
theorem dX2_raise_125 : decode prog_4_method_13_code 125 = .ok (.iload 6, 2) := by decide +kernel
theorem dX2_raise_127 : decode prog_4_method_13_code 127 = .ok (.iastore, 1) := by decide +kernel
theorem dX2_raise_128 : decode prog_4_method_13_code 128 = .ok (.aload_n 0, 1) := by decide +kernel
theorem dX2_raise_129 : decode prog_4_method_13_code 129 = .ok (.iload_n 3, 1) := by decide +kernel
theorem dX2_raise_130 : decode prog_4_method_13_code 130 = .ok (.invokevirtual 40, 3) := by decide +kernel
theorem dX2_raise_133 : decode prog_4_method_13_code 133 = .ok (.aload_n 0, 1) := by decide +kernel
theorem dX2_raise_134 : decode prog_4_method_13_code 134 = .ok (.iload 5, 2) := by decide +kernel
theorem dX2_raise_136 : decode prog_4_method_13_code 136 = .ok (.iload_n 3, 1) := by decide +kernel
theorem dX2_raise_137 : decode prog_4_method_13_code 137 = .ok (.iadd, 1) := by decide +kernel
theorem dX2_raise_138 : decode prog_4_method_13_code 138 = .ok (.iconst 1, 1) := by decide +kernel
theorem dX2_raise_139 : decode prog_4_method_13_code 139 = .ok (.iadd, 1) := by decide +kernel
theorem dX2_raise_140 : decode prog_4_method_13_code 140 = .ok (.putfield 15, 3) := by decide +kernel
theorem dX2_raise_143 : decode prog_4_method_13_code 143 = .ok (.aload_n 0, 1) := by decide +kernel
theorem dX2_raise_144 : decode prog_4_method_13_code 144 = .ok (.invokevirtual 48, 3) := by decide +kernel
theorem dX2_raise_147 : decode prog_4_method_13_code 147 = .ok (.return_, 1) := by decide +kernel
theorem dX2_drop_0 : decode prog_4_method_14_code 0 = .ok (.iload_n 1, 1) := by decide +kernel
theorem dX2_drop_1 : decode prog_4_method_14_code 1 = .ok (.ifCond .gt 4, 3) := by decide +kernel
theorem dX2_drop_4 : decode prog_4_method_14_code 4 = .ok (.return_, 1) := by decide +kernel
theorem dX2_drop_5 : decode prog_4_method_14_code 5 = .ok (.iload_n 1, 1) := by decide +kernel
theorem dX2_drop_6 : decode prog_4_method_14_code 6 = .ok (.bipush 9, 2) := by decide +kernel
theorem dX2_drop_8 : decode prog_4_method_14_code 8 = .ok (.idiv, 1) := by decide +kernel
theorem dX2_drop_9 : decode prog_4_method_14_code 9 = .ok (.istore_n 2, 1) := by decide +kernel
theorem dX2_drop_10 : decode prog_4_method_14_code 10 = .ok (.iload_n 2, 1) := by decide +kernel
theorem dX2_drop_11 : decode prog_4_method_14_code 11 = .ok (.aload_n 0, 1) := by decide +kernel
theorem dX2_drop_12 : decode prog_4_method_14_code 12 = .ok (.getfield 15, 3) := by decide +kernel
theorem dX2_drop_15 : decode prog_4_method_14_code 15 = .ok (.if_icmp .lt 9, 3) := by decide +kernel
theorem dX2_drop_18 : decode prog_4_method_14_code 18 = .ok (.aload_n 0, 1) := by decide +kernel
theorem dX2_drop_19 : decode prog_4_method_14_code 19 = .ok (.iconst 0, 1) := by decide +kernel
theorem dX2_drop_20 : decode prog_4_method_14_code 20 = .ok (.putfield 15, 3) := by decide +kernel
theorem dX2_drop_23 : decode prog_4_method_14_code 23 = .ok (.return_, 1) := by decide +kernel
theorem dX2_drop_24 : decode prog_4_method_14_code 24 = .ok (.getstatic 19, 3) := by decide +kernel
theorem dX2_drop_27 : decode prog_4_method_14_code 27 = .ok (.iload_n 1, 1) := by decide +kernel
theorem dX2_drop_28 : decode prog_4_method_14_code 28 = .ok (.bipush 9, 2) := by decide +kernel
theorem dX2_drop_30 : decode prog_4_method_14_code 30 = .ok (.irem, 1) := by decide +kernel
theorem dX2_drop_31 : decode prog_4_method_14_code 31 = .ok (.iaload, 1) := by decide +kernel
theorem dX2_drop_32 : decode prog_4_method_14_code 32 = .ok (.istore_n 3, 1) := by decide +kernel
theorem dX2_drop_33 : decode prog_4_method_14_code 33 = .ok (.getstatic 19, 3) := by decide +kernel
theorem dX2_drop_36 : decode prog_4_method_14_code 36 = .ok (.bipush 9, 2) := by decide +kernel
theorem dX2_drop_38 : decode prog_4_method_14_code 38 = .ok (.iload_n 1, 1) := by decide +kernel
theorem dX2_drop_39 : decode prog_4_method_14_code 39 = .ok (.bipush 9, 2) := by decide +kernel
theorem dX2_drop_41 : decode prog_4_method_14_code 41 = .ok (.irem, 1) := by decide +kernel
theorem dX2_drop_42 : decode prog_4_method_14_code 42 = .ok (.isub, 1) := by decide +kernel
theorem dX2_drop_43 : decode prog_4_method_14_code 43 = .ok (.iaload, 1) := by decide +kernel
theorem dX2_drop_44 : decode prog_4_method_14_code 44 = .ok (.istore 4, 2) := by decide +kernel
theorem dX2_drop_46 : decode prog_4_method_14_code 46 = .ok (.aload_n 0, 1) := by decide +kernel
theorem dX2_drop_47 : decode prog_4_method_14_code 47 = .ok (.getfield 15, 3) := by decide +kernel
theorem dX2_drop_50 : decode prog_4_method_14_code 50 = .ok (.iload_n 2, 1) := by decide +kernel
theorem dX2_drop_51 : decode prog_4_method_14_code 51 = .ok (.isub, 1) := by decide +kernel
theorem dX2_drop_52 : decode prog_4_method_14_code 52 = .ok (.istore 5, 2) := by decide +kernel
theorem dX2_drop_54 : decode prog_4_method_14_code 54 = .ok (.iconst 0, 1) := by decide +kernel
theorem dX2_drop_55 : decode prog_4_method_14_code 55 = .ok (.istore 6, 2) := by decide +kernel
theorem dX2_drop_57 : decode prog_4_method_14_code 57 = .ok (.iload 6, 2) := by decide +kernel
theorem dX2_drop_59 : decode prog_4_method_14_code 59 = .ok (.iload 5, 2) := by decide +kernel
theorem dX2_drop_61 : decode prog_4_method_14_code 61 = .ok (.iconst 1, 1) := by decide +kernel
theorem dX2_drop_62 : decode prog_4_method_14_code 62 = .ok (.isub, 1) := by decide +kernel
theorem dX2_drop_63 : decode prog_4_method_14_code 63 = .ok (.if_icmp .ge 44, 3) := by decide +kernel
theorem dX2_drop_66 : decode prog_4_method_14_code 66 = .ok (.aload_n 0, 1) := by decide +kernel
theorem dX2_drop_67 : decode prog_4_method_14_code 67 = .ok (.getfield 9, 3) := by decide +kernel
theorem dX2_drop_70 : decode prog_4_method_14_code 70 = .ok (.iload 6, 2) := by decide +kernel
theorem dX2_drop_72 : decode prog_4_method_14_code 72 = .ok (.aload_n 0, 1) := by decide +kernel
theorem dX2_drop_73 : decode prog_4_method_14_code 73 = .ok (.getfield 9, 3) := by decide +kernel
theorem dX2_drop_76 : decode prog_4_method_14_code 76 = .ok (.iload 6, 2) := by decide +kernel
theorem dX2_drop_78 : decode prog_4_method_14_code 78 = .ok (.iload_n 2, 1) := by decide +kernel
theorem dX2_drop_79 : decode prog_4_method_14_code 79 = .ok (.iadd, 1) := by decide +kernel
theorem dX2_drop_80 : decode prog_4_method_14_code 80 = .ok (.iaload, 1) := by decide +kernel
theorem dX2_drop_81 : decode prog_4_method_14_code 81 = .ok (.iload_n 3, 1) := by decide +kernel
theorem dX2_drop_82 : decode prog_4_method_14_code 82 = .ok (.idiv, 1) := by decide +kernel
theorem dX2_drop_83 : decode prog_4_method_14_code 83 = .ok (.aload_n 0, 1) := by decide +kernel
theorem dX2_drop_84 : decode prog_4_method_14_code 84 = .ok (.getfield 9, 3) := by decide +kernel
theorem dX2_drop_87 : decode prog_4_method_14_code 87 = .ok (.iload 6, 2) := by decide +kernel
theorem dX2_drop_89 : decode prog_4_method_14_code 89 = .ok (.iload_n 2, 1) := by decide +kernel
theorem dX2_drop_90 : decode prog_4_method_14_code 90 = .ok (.iadd, 1) := by decide +kernel
theorem dX2_drop_91 : decode prog_4_method_14_code 91 = .ok (.iconst 1, 1) := by decide +kernel
theorem dX2_drop_92 : decode prog_4_method_14_code 92 = .ok (.iadd, 1) := by decide +kernel
theorem dX2_drop_93 : decode prog_4_method_14_code 93 = .ok (.iaload, 1) := by decide +kernel
theorem dX2_drop_94 : decode prog_4_method_14_code 94 = .ok (.iload_n 3, 1) := by decide +kernel
theorem dX2_drop_95 : decode prog_4_method_14_code 95 = .ok (.irem, 1) := by decide +kernel
theorem dX2_drop_96 : decode prog_4_method_14_code 96 = .ok (.iload 4, 2) := by decide +kernel
theorem dX2_drop_98 : decode prog_4_method_14_code 98 = .ok (.imul, 1) := by decide +kernel
theorem dX2_drop_99 : decode prog_4_method_14_code 99 = .ok (.iadd, 1) := by decide +kernel
theorem dX2_drop_100 : decode prog_4_method_14_code 100 = .ok (.iastore, 1) := by decide +kernel
theorem dX2_drop_101 : decode prog_4_method_14_code 101 = .ok (.iinc 6 1, 3) := by decide +kernel
theorem dX2_drop_104 : decode prog_4_method_14_code 104 = .ok (.goto (-47), 3) := by decide +kernel
theorem dX2_drop_107 : decode prog_4_method_14_code 107 = .ok (.aload_n 0, 1) := by decide +kernel
theorem dX2_drop_108 : decode prog_4_method_14_code 108 = .ok (.getfield 9, 3) := by decide +kernel
theorem dX2_drop_111 : decode prog_4_method_14_code 111 = .ok (.iload 5, 2) := by decide +kernel
theorem dX2_drop_113 : decode prog_4_method_14_code 113 = .ok (.iconst 1, 1) := by decide +kernel
theorem dX2_drop_114 : decode prog_4_method_14_code 114 = .ok (.isub, 1) := by decide +kernel
theorem dX2_drop_115 : decode prog_4_method_14_code 115 = .ok (.aload_n 0, 1) := by decide +kernel
theorem dX2_drop_116 : decode prog_4_method_14_code 116 = .ok (.getfield 9, 3) := by decide +kernel
theorem dX2_drop_119 : decode prog_4_method_14_code 119 = .ok (.aload_n 0, 1) := by decide +kernel
theorem dX2_drop_120 : decode prog_4_method_14_code 120 = .ok (.getfield 15, 3) := by decide +kernel
theorem dX2_drop_123 : decode prog_4_method_14_code 123 = .ok (.iconst 1, 1) := by decide +kernel
theorem dX2_drop_124 : decode prog_4_method_14_code 124 = .ok (.isub, 1) := by decide +kernel
theorem dX2_drop_125 : decode prog_4_method_14_code 125 = .ok (.iaload, 1) := by decide +kernel
theorem dX2_drop_126 : decode prog_4_method_14_code 126 = .ok (.iload_n 3, 1) := by decide +kernel
theorem dX2_drop_127 : decode prog_4_method_14_code 127 = .ok (.idiv, 1) := by decide +kernel
theorem dX2_drop_128 : decode prog_4_method_14_code 128 = .ok (.iastore, 1) := by decide +kernel
theorem dX2_drop_129 : decode prog_4_method_14_code 129 = .ok (.aload_n 0, 1) := by decide +kernel
theorem dX2_drop_130 : decode prog_4_method_14_code 130 = .ok (.iload 5, 2) := by decide +kernel
theorem dX2_drop_132 : decode prog_4_method_14_code 132 = .ok (.putfield 15, 3) := by decide +kernel
theorem dX2_drop_135 : decode prog_4_method_14_code 135 = .ok (.aload_n 0, 1) := by decide +kernel
theorem dX2_drop_136 : decode prog_4_method_14_code 136 = .ok (.invokevirtual 48, 3) := by decide +kernel
theorem dX2_drop_139 : decode prog_4_method_14_code 139 = .ok (.return_, 1) := by decide +kernel
theorem dX2_cut_0 : decode prog_4_method_15_code 0 = .ok (.iload_n 1, 1) := by decide +kernel
theorem dX2_cut_1 : decode prog_4_method_15_code 1 = .ok (.ifCond .gt 13, 3) := by decide +kernel
theorem dX2_cut_4 : decode prog_4_method_15_code 4 = .ok (.iload_n 2, 1) := by decide +kernel
theorem dX2_cut_5 : decode prog_4_method_15_code 5 = .ok (.ifCond .eq 7, 3) := by decide +kernel
theorem dX2_cut_8 : decode prog_4_method_15_code 8 = .ok (.iconst 1, 1) := by decide +kernel
theorem dX2_cut_9 : decode prog_4_method_15_code 9 = .ok (.goto 4, 3) := by decide +kernel
theorem dX2_cut_12 : decode prog_4_method_15_code 12 = .ok (.iconst 0, 1) := by decide +kernel
theorem dX2_cut_13 : decode prog_4_method_15_code 13 = .ok (.ireturn, 1) := by decide +kernel
theorem dX2_cut_14 : decode prog_4_method_15_code 14 = .ok (.aload_n 0, 1) := by decide +kernel
theorem dX2_cut_15 : decode prog_4_method_15_code 15 = .ok (.iload_n 1, 1) := by decide +kernel
theorem dX2_cut_16 : decode prog_4_method_15_code 16 = .ok (.iconst 1, 1) := by decide +kernel
theorem dX2_cut_17 : decode prog_4_method_15_code 17 = .ok (.isub, 1) := by decide +kernel
theorem dX2_cut_18 : decode prog_4_method_15_code 18 = .ok (.invokevirtual 51, 3) := by decide +kernel
theorem dX2_cut_21 : decode prog_4_method_15_code 21 = .ok (.istore_n 3, 1) := by decide +kernel
theorem dX2_cut_22 : decode prog_4_method_15_code 22 = .ok (.iload_n 2, 1) := by decide +kernel
theorem dX2_cut_23 : decode prog_4_method_15_code 23 = .ok (.ifCond .ne 13, 3) := by decide +kernel
theorem dX2_cut_26 : decode prog_4_method_15_code 26 = .ok (.aload_n 0, 1) := by decide +kernel
theorem dX2_cut_27 : decode prog_4_method_15_code 27 = .ok (.iload_n 1, 1) := by decide +kernel
theorem dX2_cut_28 : decode prog_4_method_15_code 28 = .ok (.iconst 1, 1) := by decide +kernel
theorem dX2_cut_29 : decode prog_4_method_15_code 29 = .ok (.isub, 1) := by decide +kernel
theorem dX2_cut_30 : decode prog_4_method_15_code 30 = .ok (.invokevirtual 54, 3) := by decide +kernel
theorem dX2_cut_33 : decode prog_4_method_15_code 33 = .ok (.ifCond .eq 7, 3) := by decide +kernel
theorem dX2_cut_36 : decode prog_4_method_15_code 36 = .ok (.iconst 1, 1) := by decide +kernel
theorem dX2_cut_37 : decode prog_4_method_15_code 37 = .ok (.goto 4, 3) := by decide +kernel
theorem dX2_cut_40 : decode prog_4_method_15_code 40 = .ok (.iconst 0, 1) := by decide +kernel
theorem dX2_cut_41 : decode prog_4_method_15_code 41 = .ok (.istore 4, 2) := by decide +kernel
theorem dX2_cut_43 : decode prog_4_method_15_code 43 = .ok (.aload_n 0, 1) := by decide +kernel
theorem dX2_cut_44 : decode prog_4_method_15_code 44 = .ok (.iload_n 1, 1) := by decide +kernel
theorem dX2_cut_45 : decode prog_4_method_15_code 45 = .ok (.invokevirtual 58, 3) := by decide +kernel
theorem dX2_cut_48 : decode prog_4_method_15_code 48 = .ok (.iload_n 3, 1) := by decide +kernel
theorem dX2_cut_49 : decode prog_4_method_15_code 49 = .ok (.ifCond .ne 10, 3) := by decide +kernel
theorem dX2_cut_52 : decode prog_4_method_15_code 52 = .ok (.iload 4, 2) := by decide +kernel
theorem dX2_cut_54 : decode prog_4_method_15_code 54 = .ok (.ifCond .ne 5, 3) := by decide +kernel
theorem dX2_cut_57 : decode prog_4_method_15_code 57 = .ok (.iconst 0, 1) := by decide +kernel
theorem dX2_cut_58 : decode prog_4_method_15_code 58 = .ok (.ireturn, 1) := by decide +kernel
theorem dX2_cut_59 : decode prog_4_method_15_code 59 = .ok (.iload_n 3, 1) := by decide +kernel
theorem dX2_cut_60 : decode prog_4_method_15_code 60 = .ok (.iconst 5, 1) := by decide +kernel
theorem dX2_cut_61 : decode prog_4_method_15_code 61 = .ok (.if_icmp .ne 10, 3) := by decide +kernel
theorem dX2_cut_64 : decode prog_4_method_15_code 64 = .ok (.iload 4, 2) := by decide +kernel
theorem dX2_cut_66 : decode prog_4_method_15_code 66 = .ok (.ifCond .ne 5, 3) := by decide +kernel
theorem dX2_cut_69 : decode prog_4_method_15_code 69 = .ok (.iconst 2, 1) := by decide +kernel
theorem dX2_cut_70 : decode prog_4_method_15_code 70 = .ok (.ireturn, 1) := by decide +kernel
theorem dX2_cut_71 : decode prog_4_method_15_code 71 = .ok (.iload_n 3, 1) := by decide +kernel
theorem dX2_cut_72 : decode prog_4_method_15_code 72 = .ok (.iconst 5, 1) := by decide +kernel
theorem dX2_cut_73 : decode prog_4_method_15_code 73 = .ok (.if_icmp .ge 7, 3) := by decide +kernel
theorem dX2_cut_76 : decode prog_4_method_15_code 76 = .ok (.iconst 1, 1) := by decide +kernel
theorem dX2_cut_77 : decode prog_4_method_15_code 77 = .ok (.goto 4, 3) := by decide +kernel
theorem dX2_cut_80 : decode prog_4_method_15_code 80 = .ok (.iconst 3, 1) := by decide +kernel
theorem dX2_cut_81 : decode prog_4_method_15_code 81 = .ok (.ireturn, 1) := by decide +kernel
theorem dX2_addOne_0 : decode prog_4_method_16_code 0 = .ok (.iconst 0, 1) := by decide +kernel
theorem dX2_addOne_1 : decode prog_4_method_16_code 1 = .ok (.istore_n 1, 1) := by decide +kernel
theorem dX2_addOne_2 : decode prog_4_method_16_code 2 = .ok (.iload_n 1, 1) := by decide +kernel
theorem dX2_addOne_3 : decode prog_4_method_16_code 3 = .ok (.aload_n 0, 1) := by decide +kernel
theorem dX2_addOne_4 : decode prog_4_method_16_code 4 = .ok (.getfield 15, 3) := by decide +kernel
theorem dX2_addOne_7 : decode prog_4_method_16_code 7 = .ok (.if_icmp .ge 27, 3) := by decide +kernel
theorem dX2_addOne_10 : decode prog_4_method_16_code 10 = .ok (.aload_n 0, 1) := by decide +kernel
theorem dX2_addOne_11 : decode prog_4_method_16_code 11 = .ok (.getfield 9, 3) := by decide +kernel
theorem dX2_addOne_14 : decode prog_4_method_16_code 14 = .ok (.iload_n 1, 1) := by decide +kernel
theorem dX2_addOne_15 : decode prog_4_method_16_code 15 = .ok (.iaload, 1) := by decide +kernel
theorem dX2_addOne_16 : decode prog_4_method_16_code 16 = .ok (.ldc 61, 2) := by decide +kernel
theorem dX2_addOne_18 : decode prog_4_method_16_code 18 = .ok (.if_icmp .ne 16, 3) := by decide +kernel
theorem dX2_addOne_21 : decode prog_4_method_16_code 21 = .ok (.aload_n 0, 1) := by decide +kernel
theorem dX2_addOne_22 : decode prog_4_method_16_code 22 = .ok (.getfield 9, 3) := by decide +kernel
theorem dX2_addOne_25 : decode prog_4_method_16_code 25 = .ok (.iload_n 1, 1) := by decide +kernel
theorem dX2_addOne_26 : decode prog_4_method_16_code 26 = .ok (.iconst 0, 1) := by decide +kernel
theorem dX2_addOne_27 : decode prog_4_method_16_code 27 = .ok (.iastore, 1) := by decide +kernel
theorem dX2_addOne_28 : decode prog_4_method_16_code 28 = .ok (.iinc 1 1, 3) := by decide +kernel
theorem dX2_addOne_31 : decode prog_4_method_16_code 31 = .ok (.goto (-29), 3) := by decide +kernel
theorem dX2_addOne_34 : decode prog_4_method_16_code 34 = .ok (.iload_n 1, 1) := by decide +kernel
theorem dX2_addOne_35 : decode prog_4_method_16_code 35 = .ok (.aload_n 0, 1) := by decide +kernel
theorem dX2_addOne_36 : decode prog_4_method_16_code 36 = .ok (.getfield 15, 3) := by decide +kernel
theorem dX2_addOne_39 : decode prog_4_method_16_code 39 = .ok (.if_icmp .ge 14, 3) := by decide +kernel
theorem dX2_addOne_42 : decode prog_4_method_16_code 42 = .ok (.aload_n 0, 1) := by decide +kernel
theorem dX2_addOne_43 : decode prog_4_method_16_code 43 = .ok (.getfield 9, 3) := by decide +kernel
theorem dX2_addOne_46 : decode prog_4_method_16_code 46 = .ok (.iload_n 1, 1) := by decide +kernel
theorem dX2_addOne_47 : decode prog_4_method_16_code 47 = .ok (.dup2, 1) := by decide +kernel
theorem dX2_addOne_48 : decode prog_4_method_16_code 48 = .ok (.iaload, 1) := by decide +kernel
theorem dX2_addOne_49 : decode prog_4_method_16_code 49 = .ok (.iconst 1, 1) := by decide +kernel
theorem dX2_addOne_50 : decode prog_4_method_16_code 50 = .ok (.iadd, 1) := by decide +kernel
theorem dX2_addOne_51 : decode prog_4_method_16_code 51 = .ok (.iastore, 1) := by decide +kernel
theorem dX2_addOne_52 : decode prog_4_method_16_code 52 = .ok (.return_, 1) := by decide +kernel
theorem dX2_addOne_53 : decode prog_4_method_16_code 53 = .ok (.aload_n 0, 1) := by decide +kernel
theorem dX2_addOne_54 : decode prog_4_method_16_code 54 = .ok (.aload_n 0, 1) := by decide +kernel
theorem dX2_addOne_55 : decode prog_4_method_16_code 55 = .ok (.getfield 15, 3) := by decide +kernel
theorem dX2_addOne_58 : decode prog_4_method_16_code 58 = .ok (.iconst 1, 1) := by decide +kernel
theorem dX2_addOne_59 : decode prog_4_method_16_code 59 = .ok (.iadd, 1) := by decide +kernel
theorem dX2_addOne_60 : decode prog_4_method_16_code 60 = .ok (.invokevirtual 22, 3) := by decide +kernel
theorem dX2_addOne_63 : decode prog_4_method_16_code 63 = .ok (.aload_n 0, 1) := by decide +kernel
theorem dX2_addOne_64 : decode prog_4_method_16_code 64 = .ok (.getfield 9, 3) := by decide +kernel
theorem dX2_addOne_67 : decode prog_4_method_16_code 67 = .ok (.aload_n 0, 1) := by decide +kernel
theorem dX2_addOne_68 : decode prog_4_method_16_code 68 = .ok (.getfield 15, 3) := by decide +kernel
theorem dX2_addOne_71 : decode prog_4_method_16_code 71 = .ok (.iconst 1, 1) := by decide +kernel
theorem dX2_addOne_72 : decode prog_4_method_16_code 72 = .ok (.iastore, 1) := by decide +kernel
theorem dX2_addOne_73 : decode prog_4_method_16_code 73 = .ok (.aload_n 0, 1) := by decide +kernel
theorem dX2_addOne_74 : decode prog_4_method_16_code 74 = .ok (.dup, 1) := by decide +kernel
theorem dX2_addOne_75 : decode prog_4_method_16_code 75 = .ok (.getfield 15, 3) := by decide +kernel
theorem dX2_addOne_78 : decode prog_4_method_16_code 78 = .ok (.iconst 1, 1) := by decide +kernel
theorem dX2_addOne_79 : decode prog_4_method_16_code 79 = .ok (.iadd, 1) := by decide +kernel
theorem dX2_addOne_80 : decode prog_4_method_16_code 80 = .ok (.putfield 15, 3) := by decide +kernel
theorem dX2_addOne_83 : decode prog_4_method_16_code 83 = .ok (.return_, 1) := by decide +kernel
theorem dX2_order_0 : decode prog_4_method_17_code 0 = .ok (.aload_n 0, 1) := by decide +kernel
theorem dX2_order_1 : decode prog_4_method_17_code 1 = .ok (.getfield 15, 3) := by decide +kernel
theorem dX2_order_4 : decode prog_4_method_17_code 4 = .ok (.aload_n 1, 1) := by decide +kernel
theorem dX2_order_5 : decode prog_4_method_17_code 5 = .ok (.getfield 15, 3) := by decide +kernel
theorem dX2_order_8 : decode prog_4_method_17_code 8 = .ok (.if_icmp .eq 20, 3) := by decide +kernel
theorem dX2_order_11 : decode prog_4_method_17_code 11 = .ok (.aload_n 0, 1) := by decide +kernel
theorem dX2_order_12 : decode prog_4_method_17_code 12 = .ok (.getfield 15, 3) := by decide +kernel
theorem dX2_order_15 : decode prog_4_method_17_code 15 = .ok (.aload_n 1, 1) := by decide +kernel
theorem dX2_order_16 : decode prog_4_method_17_code 16 = .ok (.getfield 15, 3) := by decide +kernel
theorem dX2_order_19 : decode prog_4_method_17_code 19 = .ok (.if_icmp .le 7, 3) := by decide +kernel
theorem dX2_order_22 : decode prog_4_method_17_code 22 = .ok (.iconst 1, 1) := by decide +kernel
theorem dX2_order_23 : decode prog_4_method_17_code 23 = .ok (.goto 4, 3) := by decide +kernel
theorem dX2_order_26 : decode prog_4_method_17_code 26 = .ok (.iconst (-1), 1) := by decide +kernel
theorem dX2_order_27 : decode prog_4_method_17_code 27 = .ok (.ireturn, 1) := by decide +kernel
theorem dX2_order_28 : decode prog_4_method_17_code 28 = .ok (.aload_n 0, 1) := by decide +kernel
theorem dX2_order_29 : decode prog_4_method_17_code 29 = .ok (.getfield 15, 3) := by decide +kernel
theorem dX2_order_32 : decode prog_4_method_17_code 32 = .ok (.iconst 1, 1) := by decide +kernel
theorem dX2_order_33 : decode prog_4_method_17_code 33 = .ok (.isub, 1) := by decide +kernel
theorem dX2_order_34 : decode prog_4_method_17_code 34 = .ok (.istore_n 2, 1) := by decide +kernel
theorem dX2_order_35 : decode prog_4_method_17_code 35 = .ok (.iload_n 2, 1) := by decide +kernel
theorem dX2_order_36 : decode prog_4_method_17_code 36 = .ok (.ifCond .lt 45, 3) := by decide +kernel
theorem dX2_order_39 : decode prog_4_method_17_code 39 = .ok (.aload_n 0, 1) := by decide +kernel
theorem dX2_order_40 : decode prog_4_method_17_code 40 = .ok (.getfield 9, 3) := by decide +kernel
theorem dX2_order_43 : decode prog_4_method_17_code 43 = .ok (.iload_n 2, 1) := by decide +kernel
theorem dX2_order_44 : decode prog_4_method_17_code 44 = .ok (.iaload, 1) := by decide +kernel
theorem dX2_order_45 : decode prog_4_method_17_code 45 = .ok (.aload_n 1, 1) := by decide +kernel
theorem dX2_order_46 : decode prog_4_method_17_code 46 = .ok (.getfield 9, 3) := by decide +kernel
theorem dX2_order_49 : decode prog_4_method_17_code 49 = .ok (.iload_n 2, 1) := by decide +kernel
theorem dX2_order_50 : decode prog_4_method_17_code 50 = .ok (.iaload, 1) := by decide +kernel
theorem dX2_order_51 : decode prog_4_method_17_code 51 = .ok (.if_icmp .eq 24, 3) := by decide +kernel
theorem dX2_order_54 : decode prog_4_method_17_code 54 = .ok (.aload_n 0, 1) := by decide +kernel
theorem dX2_order_55 : decode prog_4_method_17_code 55 = .ok (.getfield 9, 3) := by decide +kernel
theorem dX2_order_58 : decode prog_4_method_17_code 58 = .ok (.iload_n 2, 1) := by decide +kernel
theorem dX2_order_59 : decode prog_4_method_17_code 59 = .ok (.iaload, 1) := by decide +kernel
theorem dX2_order_60 : decode prog_4_method_17_code 60 = .ok (.aload_n 1, 1) := by decide +kernel
theorem dX2_order_61 : decode prog_4_method_17_code 61 = .ok (.getfield 9, 3) := by decide +kernel
theorem dX2_order_64 : decode prog_4_method_17_code 64 = .ok (.iload_n 2, 1) := by decide +kernel
theorem dX2_order_65 : decode prog_4_method_17_code 65 = .ok (.iaload, 1) := by decide +kernel
theorem dX2_order_66 : decode prog_4_method_17_code 66 = .ok (.if_icmp .le 7, 3) := by decide +kernel
theorem dX2_order_69 : decode prog_4_method_17_code 69 = .ok (.iconst 1, 1) := by decide +kernel
theorem dX2_order_70 : decode prog_4_method_17_code 70 = .ok (.goto 4, 3) := by decide +kernel
theorem dX2_order_73 : decode prog_4_method_17_code 73 = .ok (.iconst (-1), 1) := by decide +kernel
theorem dX2_order_74 : decode prog_4_method_17_code 74 = .ok (.ireturn, 1) := by decide +kernel
theorem dX2_order_75 : decode prog_4_method_17_code 75 = .ok (.iinc 2 (-1), 3) := by decide +kernel
theorem dX2_order_78 : decode prog_4_method_17_code 78 = .ok (.goto (-43), 3) := by decide +kernel
theorem dX2_order_81 : decode prog_4_method_17_code 81 = .ok (.iconst 0, 1) := by decide +kernel
theorem dX2_order_82 : decode prog_4_method_17_code 82 = .ok (.ireturn, 1) := by decide +kernel
theorem dX2_becomeSum_0 : decode prog_4_method_18_code 0 = .ok (.aload_n 1, 1) := by decide +kernel
theorem dX2_becomeSum_1 : decode prog_4_method_18_code 1 = .ok (.getfield 15, 3) := by decide +kernel
theorem dX2_becomeSum_4 : decode prog_4_method_18_code 4 = .ok (.aload_n 2, 1) := by decide +kernel
theorem dX2_becomeSum_5 : decode prog_4_method_18_code 5 = .ok (.getfield 15, 3) := by decide +kernel
theorem dX2_becomeSum_8 : decode prog_4_method_18_code 8 = .ok (.invokestatic 62, 3) := by decide +kernel
theorem dX2_becomeSum_11 : decode prog_4_method_18_code 11 = .ok (.istore_n 3, 1) := by decide +kernel
theorem dX2_becomeSum_12 : decode prog_4_method_18_code 12 = .ok (.aload_n 0, 1) := by decide +kernel
theorem dX2_becomeSum_13 : decode prog_4_method_18_code 13 = .ok (.iload_n 3, 1) := by decide +kernel
theorem dX2_becomeSum_14 : decode prog_4_method_18_code 14 = .ok (.iconst 1, 1) := by decide +kernel
theorem dX2_becomeSum_15 : decode prog_4_method_18_code 15 = .ok (.iadd, 1) := by decide +kernel
theorem dX2_becomeSum_16 : decode prog_4_method_18_code 16 = .ok (.invokevirtual 22, 3) := by decide +kernel
theorem dX2_becomeSum_19 : decode prog_4_method_18_code 19 = .ok (.iconst 0, 1) := by decide +kernel
theorem dX2_becomeSum_20 : decode prog_4_method_18_code 20 = .ok (.istore 4, 2) := by decide +kernel
theorem dX2_becomeSum_22 : decode prog_4_method_18_code 22 = .ok (.iconst 0, 1) := by decide +kernel
theorem dX2_becomeSum_23 : decode prog_4_method_18_code 23 = .ok (.istore 5, 2) := by decide +kernel
theorem dX2_becomeSum_25 : decode prog_4_method_18_code 25 = .ok (.iload 5, 2) := by decide +kernel
theorem dX2_becomeSum_27 : decode prog_4_method_18_code 27 = .ok (.iload_n 3, 1) := by decide +kernel
theorem dX2_becomeSum_28 : decode prog_4_method_18_code 28 = .ok (.if_icmp .ge 99, 3) := by decide +kernel
theorem dX2_becomeSum_31 : decode prog_4_method_18_code 31 = .ok (.iload 4, 2) := by decide +kernel
theorem dX2_becomeSum_33 : decode prog_4_method_18_code 33 = .ok (.istore 6, 2) := by decide +kernel
theorem dX2_becomeSum_35 : decode prog_4_method_18_code 35 = .ok (.iload 6, 2) := by decide +kernel
theorem dX2_becomeSum_37 : decode prog_4_method_18_code 37 = .ok (.iload 5, 2) := by decide +kernel
theorem dX2_becomeSum_39 : decode prog_4_method_18_code 39 = .ok (.aload_n 1, 1) := by decide +kernel
theorem dX2_becomeSum_40 : decode prog_4_method_18_code 40 = .ok (.getfield 15, 3) := by decide +kernel
theorem dX2_becomeSum_43 : decode prog_4_method_18_code 43 = .ok (.if_icmp .ge 13, 3) := by decide +kernel
theorem dX2_becomeSum_46 : decode prog_4_method_18_code 46 = .ok (.aload_n 1, 1) := by decide +kernel
theorem dX2_becomeSum_47 : decode prog_4_method_18_code 47 = .ok (.getfield 9, 3) := by decide +kernel
theorem dX2_becomeSum_50 : decode prog_4_method_18_code 50 = .ok (.iload 5, 2) := by decide +kernel
theorem dX2_becomeSum_52 : decode prog_4_method_18_code 52 = .ok (.iaload, 1) := by decide +kernel
theorem dX2_becomeSum_53 : decode prog_4_method_18_code 53 = .ok (.goto 4, 3) := by decide +kernel
theorem dX2_becomeSum_56 : decode prog_4_method_18_code 56 = .ok (.iconst 0, 1) := by decide +kernel
theorem dX2_becomeSum_57 : decode prog_4_method_18_code 57 = .ok (.iadd, 1) := by decide +kernel
theorem dX2_becomeSum_58 : decode prog_4_method_18_code 58 = .ok (.istore 6, 2) := by decide +kernel
theorem dX2_becomeSum_60 : decode prog_4_method_18_code 60 = .ok (.iload 6, 2) := by decide +kernel
theorem dX2_becomeSum_62 : decode prog_4_method_18_code 62 = .ok (.iload 5, 2) := by decide +kernel
theorem dX2_becomeSum_64 : decode prog_4_method_18_code 64 = .ok (.aload_n 2, 1) := by decide +kernel
theorem dX2_becomeSum_65 : decode prog_4_method_18_code 65 = .ok (.getfield 15, 3) := by decide +kernel
theorem dX2_becomeSum_68 : decode prog_4_method_18_code 68 = .ok (.if_icmp .ge 13, 3) := by decide +kernel
theorem dX2_becomeSum_71 : decode prog_4_method_18_code 71 = .ok (.aload_n 2, 1) := by decide +kernel
theorem dX2_becomeSum_72 : decode prog_4_method_18_code 72 = .ok (.getfield 9, 3) := by decide +kernel
theorem dX2_becomeSum_75 : decode prog_4_method_18_code 75 = .ok (.iload 5, 2) := by decide +kernel
theorem dX2_becomeSum_77 : decode prog_4_method_18_code 77 = .ok (.iaload, 1) := by decide +kernel
theorem dX2_becomeSum_78 : decode prog_4_method_18_code 78 = .ok (.goto 4, 3) := by decide +kernel
theorem dX2_becomeSum_81 : decode prog_4_method_18_code 81 = .ok (.iconst 0, 1) := by decide +kernel
theorem dX2_becomeSum_82 : decode prog_4_method_18_code 82 = .ok (.iadd, 1) := by decide +kernel
theorem dX2_becomeSum_83 : decode prog_4_method_18_code 83 = .ok (.istore 6, 2) := by decide +kernel
theorem dX2_becomeSum_85 : decode prog_4_method_18_code 85 = .ok (.iload 6, 2) := by decide +kernel
theorem dX2_becomeSum_87 : decode prog_4_method_18_code 87 = .ok (.ldc 66, 2) := by decide +kernel
theorem dX2_becomeSum_89 : decode prog_4_method_18_code 89 = .ok (.if_icmp .lt 7, 3) := by decide +kernel
theorem dX2_becomeSum_92 : decode prog_4_method_18_code 92 = .ok (.iconst 1, 1) := by decide +kernel
theorem dX2_becomeSum_93 : decode prog_4_method_18_code 93 = .ok (.goto 4, 3) := by decide +kernel
theorem dX2_becomeSum_96 : decode prog_4_method_18_code 96 = .ok (.iconst 0, 1) := by decide +kernel
theorem dX2_becomeSum_97 : decode prog_4_method_18_code 97 = .ok (.istore 4, 2) := by decide +kernel
theorem dX2_becomeSum_99 : decode prog_4_method_18_code 99 = .ok (.aload_n 0, 1) := by decide +kernel
theorem dX2_becomeSum_100 : decode prog_4_method_18_code 100 = .ok (.getfield 9, 3) := by decide +kernel
theorem dX2_becomeSum_103 : decode prog_4_method_18_code 103 = .ok (.iload 5, 2) := by decide +kernel
theorem dX2_becomeSum_105 : decode prog_4_method_18_code 105 = .ok (.iload 4, 2) := by decide +kernel
theorem dX2_becomeSum_107 : decode prog_4_method_18_code 107 = .ok (.ifCond .ne 8, 3) := by decide +kernel
theorem dX2_becomeSum_110 : decode prog_4_method_18_code 110 = .ok (.iload 6, 2) := by decide +kernel
theorem dX2_becomeSum_112 : decode prog_4_method_18_code 112 = .ok (.goto 8, 3) := by decide +kernel
theorem dX2_becomeSum_115 : decode prog_4_method_18_code 115 = .ok (.iload 6, 2) := by decide +kernel
theorem dX2_becomeSum_117 : decode prog_4_method_18_code 117 = .ok (.ldc 66, 2) := by decide +kernel
theorem dX2_becomeSum_119 : decode prog_4_method_18_code 119 = .ok (.isub, 1) := by decide +kernel
theorem dX2_becomeSum_120 : decode prog_4_method_18_code 120 = .ok (.iastore, 1) := by decide +kernel
theorem dX2_becomeSum_121 : decode prog_4_method_18_code 121 = .ok (.iinc 5 1, 3) := by decide +kernel
theorem dX2_becomeSum_124 : decode prog_4_method_18_code 124 = .ok (.goto (-99), 3) := by decide +kernel
theorem dX2_becomeSum_127 : decode prog_4_method_18_code 127 = .ok (.aload_n 0, 1) := by decide +kernel
theorem dX2_becomeSum_128 : decode prog_4_method_18_code 128 = .ok (.getfield 9, 3) := by decide +kernel
theorem dX2_becomeSum_131 : decode prog_4_method_18_code 131 = .ok (.iload_n 3, 1) := by decide +kernel
theorem dX2_becomeSum_132 : decode prog_4_method_18_code 132 = .ok (.iload 4, 2) := by decide +kernel
theorem dX2_becomeSum_134 : decode prog_4_method_18_code 134 = .ok (.iastore, 1) := by decide +kernel
theorem dX2_becomeSum_135 : decode prog_4_method_18_code 135 = .ok (.aload_n 0, 1) := by decide +kernel
theorem dX2_becomeSum_136 : decode prog_4_method_18_code 136 = .ok (.iload_n 3, 1) := by decide +kernel
theorem dX2_becomeSum_137 : decode prog_4_method_18_code 137 = .ok (.iconst 1, 1) := by decide +kernel
theorem dX2_becomeSum_138 : decode prog_4_method_18_code 138 = .ok (.iadd, 1) := by decide +kernel
theorem dX2_becomeSum_139 : decode prog_4_method_18_code 139 = .ok (.putfield 15, 3) := by decide +kernel
theorem dX2_becomeSum_142 : decode prog_4_method_18_code 142 = .ok (.aload_n 0, 1) := by decide +kernel
theorem dX2_becomeSum_143 : decode prog_4_method_18_code 143 = .ok (.invokevirtual 48, 3) := by decide +kernel
theorem dX2_becomeSum_146 : decode prog_4_method_18_code 146 = .ok (.return_, 1) := by decide +kernel
theorem dX2_subtract_0 : decode prog_4_method_19_code 0 = .ok (.iconst 0, 1) := by decide +kernel
theorem dX2_subtract_1 : decode prog_4_method_19_code 1 = .ok (.istore_n 2, 1) := by decide +kernel
theorem dX2_subtract_2 : decode prog_4_method_19_code 2 = .ok (.iconst 0, 1) := by decide +kernel
theorem dX2_subtract_3 : decode prog_4_method_19_code 3 = .ok (.istore_n 3, 1) := by decide +kernel
theorem dX2_subtract_4 : decode prog_4_method_19_code 4 = .ok (.iload_n 3, 1) := by decide +kernel
theorem dX2_subtract_5 : decode prog_4_method_19_code 5 = .ok (.aload_n 0, 1) := by decide +kernel
theorem dX2_subtract_6 : decode prog_4_method_19_code 6 = .ok (.getfield 15, 3) := by decide +kernel
theorem dX2_subtract_9 : decode prog_4_method_19_code 9 = .ok (.if_icmp .ge 81, 3) := by decide +kernel
theorem dX2_subtract_12 : decode prog_4_method_19_code 12 = .ok (.iload_n 3, 1) := by decide +kernel
theorem dX2_subtract_13 : decode prog_4_method_19_code 13 = .ok (.aload_n 1, 1) := by decide +kernel
theorem dX2_subtract_14 : decode prog_4_method_19_code 14 = .ok (.getfield 15, 3) := by decide +kernel
theorem dX2_subtract_17 : decode prog_4_method_19_code 17 = .ok (.if_icmp .lt 7, 3) := by decide +kernel
theorem dX2_subtract_20 : decode prog_4_method_19_code 20 = .ok (.iload_n 2, 1) := by decide +kernel
theorem dX2_subtract_21 : decode prog_4_method_19_code 21 = .ok (.ifCond .eq 69, 3) := by decide +kernel
theorem dX2_subtract_24 : decode prog_4_method_19_code 24 = .ok (.aload_n 0, 1) := by decide +kernel
theorem dX2_subtract_25 : decode prog_4_method_19_code 25 = .ok (.getfield 9, 3) := by decide +kernel
theorem dX2_subtract_28 : decode prog_4_method_19_code 28 = .ok (.iload_n 3, 1) := by decide +kernel
theorem dX2_subtract_29 : decode prog_4_method_19_code 29 = .ok (.iaload, 1) := by decide +kernel
theorem dX2_subtract_30 : decode prog_4_method_19_code 30 = .ok (.iload_n 2, 1) := by decide +kernel
theorem dX2_subtract_31 : decode prog_4_method_19_code 31 = .ok (.isub, 1) := by decide +kernel
theorem dX2_subtract_32 : decode prog_4_method_19_code 32 = .ok (.iload_n 3, 1) := by decide +kernel
theorem dX2_subtract_33 : decode prog_4_method_19_code 33 = .ok (.aload_n 1, 1) := by decide +kernel
theorem dX2_subtract_34 : decode prog_4_method_19_code 34 = .ok (.getfield 15, 3) := by decide +kernel
theorem dX2_subtract_37 : decode prog_4_method_19_code 37 = .ok (.if_icmp .ge 12, 3) := by decide +kernel
theorem dX2_subtract_40 : decode prog_4_method_19_code 40 = .ok (.aload_n 1, 1) := by decide +kernel
theorem dX2_subtract_41 : decode prog_4_method_19_code 41 = .ok (.getfield 9, 3) := by decide +kernel
theorem dX2_subtract_44 : decode prog_4_method_19_code 44 = .ok (.iload_n 3, 1) := by decide +kernel
theorem dX2_subtract_45 : decode prog_4_method_19_code 45 = .ok (.iaload, 1) := by decide +kernel
theorem dX2_subtract_46 : decode prog_4_method_19_code 46 = .ok (.goto 4, 3) := by decide +kernel
theorem dX2_subtract_49 : decode prog_4_method_19_code 49 = .ok (.iconst 0, 1) := by decide +kernel
theorem dX2_subtract_50 : decode prog_4_method_19_code 50 = .ok (.isub, 1) := by decide +kernel
theorem dX2_subtract_51 : decode prog_4_method_19_code 51 = .ok (.istore 4, 2) := by decide +kernel
theorem dX2_subtract_53 : decode prog_4_method_19_code 53 = .ok (.iload 4, 2) := by decide +kernel
theorem dX2_subtract_55 : decode prog_4_method_19_code 55 = .ok (.ifCond .ge 7, 3) := by decide +kernel
theorem dX2_subtract_58 : decode prog_4_method_19_code 58 = .ok (.iconst 1, 1) := by decide +kernel
theorem dX2_subtract_59 : decode prog_4_method_19_code 59 = .ok (.goto 4, 3) := by decide +kernel
theorem dX2_subtract_62 : decode prog_4_method_19_code 62 = .ok (.iconst 0, 1) := by decide +kernel
theorem dX2_subtract_63 : decode prog_4_method_19_code 63 = .ok (.istore_n 2, 1) := by decide +kernel
theorem dX2_subtract_64 : decode prog_4_method_19_code 64 = .ok (.aload_n 0, 1) := by decide +kernel
theorem dX2_subtract_65 : decode prog_4_method_19_code 65 = .ok (.getfield 9, 3) := by decide +kernel
theorem dX2_subtract_68 : decode prog_4_method_19_code 68 = .ok (.iload_n 3, 1) := by decide +kernel
theorem dX2_subtract_69 : decode prog_4_method_19_code 69 = .ok (.iload_n 2, 1) := by decide +kernel
theorem dX2_subtract_70 : decode prog_4_method_19_code 70 = .ok (.ifCond .ne 8, 3) := by decide +kernel
theorem dX2_subtract_73 : decode prog_4_method_19_code 73 = .ok (.iload 4, 2) := by decide +kernel
theorem dX2_subtract_75 : decode prog_4_method_19_code 75 = .ok (.goto 8, 3) := by decide +kernel
theorem dX2_subtract_78 : decode prog_4_method_19_code 78 = .ok (.iload 4, 2) := by decide +kernel
theorem dX2_subtract_80 : decode prog_4_method_19_code 80 = .ok (.ldc 66, 2) := by decide +kernel
theorem dX2_subtract_82 : decode prog_4_method_19_code 82 = .ok (.iadd, 1) := by decide +kernel
theorem dX2_subtract_83 : decode prog_4_method_19_code 83 = .ok (.iastore, 1) := by decide +kernel
theorem dX2_subtract_84 : decode prog_4_method_19_code 84 = .ok (.iinc 3 1, 3) := by decide +kernel
theorem dX2_subtract_87 : decode prog_4_method_19_code 87 = .ok (.goto (-83), 3) := by decide +kernel
theorem dX2_subtract_90 : decode prog_4_method_19_code 90 = .ok (.aload_n 0, 1) := by decide +kernel
theorem dX2_subtract_91 : decode prog_4_method_19_code 91 = .ok (.invokevirtual 48, 3) := by decide +kernel
theorem dX2_subtract_94 : decode prog_4_method_19_code 94 = .ok (.return_, 1) := by decide +kernel
theorem dX2_becomeProduct_0 : decode prog_4_method_20_code 0 = .ok (.aload_n 1, 1) := by decide +kernel
theorem dX2_becomeProduct_1 : decode prog_4_method_20_code 1 = .ok (.getfield 15, 3) := by decide +kernel
theorem dX2_becomeProduct_4 : decode prog_4_method_20_code 4 = .ok (.aload_n 2, 1) := by decide +kernel
theorem dX2_becomeProduct_5 : decode prog_4_method_20_code 5 = .ok (.getfield 15, 3) := by decide +kernel
theorem dX2_becomeProduct_8 : decode prog_4_method_20_code 8 = .ok (.iadd, 1) := by decide +kernel
theorem dX2_becomeProduct_9 : decode prog_4_method_20_code 9 = .ok (.istore_n 3, 1) := by decide +kernel
theorem dX2_becomeProduct_10 : decode prog_4_method_20_code 10 = .ok (.aload_n 0, 1) := by decide +kernel
theorem dX2_becomeProduct_11 : decode prog_4_method_20_code 11 = .ok (.iload_n 3, 1) := by decide +kernel
theorem dX2_becomeProduct_12 : decode prog_4_method_20_code 12 = .ok (.invokevirtual 22, 3) := by decide +kernel
theorem dX2_becomeProduct_15 : decode prog_4_method_20_code 15 = .ok (.aload_n 0, 1) := by decide +kernel
theorem dX2_becomeProduct_16 : decode prog_4_method_20_code 16 = .ok (.iload_n 3, 1) := by decide +kernel
theorem dX2_becomeProduct_17 : decode prog_4_method_20_code 17 = .ok (.invokevirtual 40, 3) := by decide +kernel
theorem dX2_becomeProduct_20 : decode prog_4_method_20_code 20 = .ok (.iconst 0, 1) := by decide +kernel
theorem dX2_becomeProduct_21 : decode prog_4_method_20_code 21 = .ok (.istore 4, 2) := by decide +kernel
theorem dX2_becomeProduct_23 : decode prog_4_method_20_code 23 = .ok (.iload 4, 2) := by decide +kernel
theorem dX2_becomeProduct_25 : decode prog_4_method_20_code 25 = .ok (.aload_n 1, 1) := by decide +kernel
theorem dX2_becomeProduct_26 : decode prog_4_method_20_code 26 = .ok (.getfield 15, 3) := by decide +kernel
theorem dX2_becomeProduct_29 : decode prog_4_method_20_code 29 = .ok (.if_icmp .ge 41, 3) := by decide +kernel
theorem dX2_becomeProduct_32 : decode prog_4_method_20_code 32 = .ok (.aload_n 1, 1) := by decide +kernel
theorem dX2_becomeProduct_33 : decode prog_4_method_20_code 33 = .ok (.getfield 9, 3) := by decide +kernel
theorem dX2_becomeProduct_36 : decode prog_4_method_20_code 36 = .ok (.iload 4, 2) := by decide +kernel
theorem dX2_becomeProduct_38 : decode prog_4_method_20_code 38 = .ok (.iaload, 1) := by decide +kernel
theorem dX2_becomeProduct_39 : decode prog_4_method_20_code 39 = .ok (.ifCond .eq 25, 3) := by decide +kernel
theorem dX2_becomeProduct_42 : decode prog_4_method_20_code 42 = .ok (.aload_n 0, 1) := by decide +kernel
theorem dX2_becomeProduct_43 : decode prog_4_method_20_code 43 = .ok (.aload_n 2, 1) := by decide +kernel
theorem dX2_becomeProduct_44 : decode prog_4_method_20_code 44 = .ok (.getfield 9, 3) := by decide +kernel
theorem dX2_becomeProduct_47 : decode prog_4_method_20_code 47 = .ok (.aload_n 2, 1) := by decide +kernel
theorem dX2_becomeProduct_48 : decode prog_4_method_20_code 48 = .ok (.getfield 15, 3) := by decide +kernel
theorem dX2_becomeProduct_51 : decode prog_4_method_20_code 51 = .ok (.aload_n 1, 1) := by decide +kernel
theorem dX2_becomeProduct_52 : decode prog_4_method_20_code 52 = .ok (.getfield 9, 3) := by decide +kernel
theorem dX2_becomeProduct_55 : decode prog_4_method_20_code 55 = .ok (.iload 4, 2) := by decide +kernel
theorem dX2_becomeProduct_57 : decode prog_4_method_20_code 57 = .ok (.iaload, 1) := by decide +kernel
theorem dX2_becomeProduct_58 : decode prog_4_method_20_code 58 = .ok (.i2l, 1) := by decide +kernel
theorem dX2_becomeProduct_59 : decode prog_4_method_20_code 59 = .ok (.iload 4, 2) := by decide +kernel
theorem dX2_becomeProduct_61 : decode prog_4_method_20_code 61 = .ok (.invokevirtual 67, 3) := by decide +kernel
theorem dX2_becomeProduct_64 : decode prog_4_method_20_code 64 = .ok (.iinc 4 1, 3) := by decide +kernel
theorem dX2_becomeProduct_67 : decode prog_4_method_20_code 67 = .ok (.goto (-44), 3) := by decide +kernel
theorem dX2_becomeProduct_70 : decode prog_4_method_20_code 70 = .ok (.aload_n 0, 1) := by decide +kernel
theorem dX2_becomeProduct_71 : decode prog_4_method_20_code 71 = .ok (.iload_n 3, 1) := by decide +kernel
theorem dX2_becomeProduct_72 : decode prog_4_method_20_code 72 = .ok (.putfield 15, 3) := by decide +kernel
theorem dX2_becomeProduct_75 : decode prog_4_method_20_code 75 = .ok (.aload_n 0, 1) := by decide +kernel
theorem dX2_becomeProduct_76 : decode prog_4_method_20_code 76 = .ok (.invokevirtual 48, 3) := by decide +kernel
theorem dX2_becomeProduct_79 : decode prog_4_method_20_code 79 = .ok (.return_, 1) := by decide +kernel
theorem dX2_addTimes_0 : decode prog_4_method_21_code 0 = .ok (.aload_n 0, 1) := by decide +kernel
theorem dX2_addTimes_1 : decode prog_4_method_21_code 1 = .ok (.getfield 9, 3) := by decide +kernel
theorem dX2_addTimes_4 : decode prog_4_method_21_code 4 = .ok (.astore 6, 2) := by decide +kernel
theorem dX2_addTimes_6 : decode prog_4_method_21_code 6 = .ok (.lconst 0, 1) := by decide +kernel
theorem dX2_addTimes_7 : decode prog_4_method_21_code 7 = .ok (.lstore 7, 2) := by decide +kernel
theorem dX2_addTimes_9 : decode prog_4_method_21_code 9 = .ok (.iconst 0, 1) := by decide +kernel
theorem dX2_addTimes_10 : decode prog_4_method_21_code 10 = .ok (.istore 9, 2) := by decide +kernel
theorem dX2_addTimes_12 : decode prog_4_method_21_code 12 = .ok (.iload 9, 2) := by decide +kernel
theorem dX2_addTimes_14 : decode prog_4_method_21_code 14 = .ok (.iload_n 2, 1) := by decide +kernel
theorem dX2_addTimes_15 : decode prog_4_method_21_code 15 = .ok (.if_icmp .ge 57, 3) := by decide +kernel
theorem dX2_addTimes_18 : decode prog_4_method_21_code 18 = .ok (.aload_n 1, 1) := by decide +kernel
theorem dX2_addTimes_19 : decode prog_4_method_21_code 19 = .ok (.iload 9, 2) := by decide +kernel
theorem dX2_addTimes_21 : decode prog_4_method_21_code 21 = .ok (.iaload, 1) := by decide +kernel
theorem dX2_addTimes_22 : decode prog_4_method_21_code 22 = .ok (.i2l, 1) := by decide +kernel
theorem dX2_addTimes_23 : decode prog_4_method_21_code 23 = .ok (.lload_n 3, 1) := by decide +kernel
theorem dX2_addTimes_24 : decode prog_4_method_21_code 24 = .ok (.lmul, 1) := by decide +kernel
theorem dX2_addTimes_25 : decode prog_4_method_21_code 25 = .ok (.aload 6, 2) := by decide +kernel
theorem dX2_addTimes_27 : decode prog_4_method_21_code 27 = .ok (.iload 9, 2) := by decide +kernel
theorem dX2_addTimes_29 : decode prog_4_method_21_code 29 = .ok (.iload 5, 2) := by decide +kernel
theorem dX2_addTimes_31 : decode prog_4_method_21_code 31 = .ok (.iadd, 1) := by decide +kernel
theorem dX2_addTimes_32 : decode prog_4_method_21_code 32 = .ok (.iaload, 1) := by decide +kernel
theorem dX2_addTimes_33 : decode prog_4_method_21_code 33 = .ok (.i2l, 1) := by decide +kernel
theorem dX2_addTimes_34 : decode prog_4_method_21_code 34 = .ok (.ladd, 1) := by decide +kernel
theorem dX2_addTimes_35 : decode prog_4_method_21_code 35 = .ok (.lload 7, 2) := by decide +kernel
theorem dX2_addTimes_37 : decode prog_4_method_21_code 37 = .ok (.ladd, 1) := by decide +kernel
theorem dX2_addTimes_38 : decode prog_4_method_21_code 38 = .ok (.lstore 10, 2) := by decide +kernel
theorem dX2_addTimes_40 : decode prog_4_method_21_code 40 = .ok (.lload 10, 2) := by decide +kernel
theorem dX2_addTimes_42 : decode prog_4_method_21_code 42 = .ok (.ldc2_w 32, 3) := by decide +kernel
theorem dX2_addTimes_45 : decode prog_4_method_21_code 45 = .ok (.ldiv, 1) := by decide +kernel
theorem dX2_addTimes_46 : decode prog_4_method_21_code 46 = .ok (.lstore 7, 2) := by decide +kernel
theorem dX2_addTimes_48 : decode prog_4_method_21_code 48 = .ok (.aload 6, 2) := by decide +kernel
theorem dX2_addTimes_50 : decode prog_4_method_21_code 50 = .ok (.iload 9, 2) := by decide +kernel
theorem dX2_addTimes_52 : decode prog_4_method_21_code 52 = .ok (.iload 5, 2) := by decide +kernel
theorem dX2_addTimes_54 : decode prog_4_method_21_code 54 = .ok (.iadd, 1) := by decide +kernel
theorem dX2_addTimes_55 : decode prog_4_method_21_code 55 = .ok (.lload 10, 2) := by decide +kernel
theorem dX2_addTimes_57 : decode prog_4_method_21_code 57 = .ok (.lload 7, 2) := by decide +kernel
theorem dX2_addTimes_59 : decode prog_4_method_21_code 59 = .ok (.ldc2_w 32, 3) := by decide +kernel
theorem dX2_addTimes_62 : decode prog_4_method_21_code 62 = .ok (.lmul, 1) := by decide +kernel
theorem dX2_addTimes_63 : decode prog_4_method_21_code 63 = .ok (.lsub, 1) := by decide +kernel
theorem dX2_addTimes_64 : decode prog_4_method_21_code 64 = .ok (.l2i, 1) := by decide +kernel
theorem dX2_addTimes_65 : decode prog_4_method_21_code 65 = .ok (.iastore, 1) := by decide +kernel
theorem dX2_addTimes_66 : decode prog_4_method_21_code 66 = .ok (.iinc 9 1, 3) := by decide +kernel
theorem dX2_addTimes_69 : decode prog_4_method_21_code 69 = .ok (.goto (-57), 3) := by decide +kernel
theorem dX2_addTimes_72 : decode prog_4_method_21_code 72 = .ok (.aload 6, 2) := by decide +kernel
theorem dX2_addTimes_74 : decode prog_4_method_21_code 74 = .ok (.iload_n 2, 1) := by decide +kernel
theorem dX2_addTimes_75 : decode prog_4_method_21_code 75 = .ok (.iload 5, 2) := by decide +kernel
theorem dX2_addTimes_77 : decode prog_4_method_21_code 77 = .ok (.iadd, 1) := by decide +kernel
theorem dX2_addTimes_78 : decode prog_4_method_21_code 78 = .ok (.lload 7, 2) := by decide +kernel
theorem dX2_addTimes_80 : decode prog_4_method_21_code 80 = .ok (.l2i, 1) := by decide +kernel
theorem dX2_addTimes_81 : decode prog_4_method_21_code 81 = .ok (.iastore, 1) := by decide +kernel
theorem dX2_addTimes_82 : decode prog_4_method_21_code 82 = .ok (.return_, 1) := by decide +kernel
theorem dX2_reduce_0 : decode prog_4_method_22_code 0 = .ok (.aload_n 1, 1) := by decide +kernel
theorem dX2_reduce_1 : decode prog_4_method_22_code 1 = .ok (.iconst 0, 1) := by decide +kernel
theorem dX2_reduce_2 : decode prog_4_method_22_code 2 = .ok (.putfield 15, 3) := by decide +kernel
theorem dX2_reduce_5 : decode prog_4_method_22_code 5 = .ok (.aload_n 2, 1) := by decide +kernel
theorem dX2_reduce_6 : decode prog_4_method_22_code 6 = .ok (.getfield 15, 3) := by decide +kernel
theorem dX2_reduce_9 : decode prog_4_method_22_code 9 = .ok (.istore_n 3, 1) := by decide +kernel
theorem dX2_reduce_10 : decode prog_4_method_22_code 10 = .ok (.iload_n 3, 1) := by decide +kernel
theorem dX2_reduce_11 : decode prog_4_method_22_code 11 = .ok (.ifCond .eq 11, 3) := by decide +kernel
theorem dX2_reduce_14 : decode prog_4_method_22_code 14 = .ok (.aload_n 0, 1) := by decide +kernel
theorem dX2_reduce_15 : decode prog_4_method_22_code 15 = .ok (.getfield 15, 3) := by decide +kernel
theorem dX2_reduce_18 : decode prog_4_method_22_code 18 = .ok (.iload_n 3, 1) := by decide +kernel
theorem dX2_reduce_19 : decode prog_4_method_22_code 19 = .ok (.if_icmp .ge 4, 3) := by decide +kernel
theorem dX2_reduce_22 : decode prog_4_method_22_code 22 = .ok (.return_, 1) := by decide +kernel
theorem dX2_reduce_23 : decode prog_4_method_22_code 23 = .ok (.iload_n 3, 1) := by decide +kernel
theorem dX2_reduce_24 : decode prog_4_method_22_code 24 = .ok (.iconst 1, 1) := by decide +kernel
theorem dX2_reduce_25 : decode prog_4_method_22_code 25 = .ok (.if_icmp .ne 15, 3) := by decide +kernel
theorem dX2_reduce_28 : decode prog_4_method_22_code 28 = .ok (.aload_n 0, 1) := by decide +kernel
theorem dX2_reduce_29 : decode prog_4_method_22_code 29 = .ok (.aload_n 1, 1) := by decide +kernel
theorem dX2_reduce_30 : decode prog_4_method_22_code 30 = .ok (.aload_n 2, 1) := by decide +kernel
theorem dX2_reduce_31 : decode prog_4_method_22_code 31 = .ok (.getfield 9, 3) := by decide +kernel
theorem dX2_reduce_34 : decode prog_4_method_22_code 34 = .ok (.iconst 0, 1) := by decide +kernel
theorem dX2_reduce_35 : decode prog_4_method_22_code 35 = .ok (.iaload, 1) := by decide +kernel
theorem dX2_reduce_36 : decode prog_4_method_22_code 36 = .ok (.invokevirtual 71, 3) := by decide +kernel
theorem dX2_reduce_39 : decode prog_4_method_22_code 39 = .ok (.return_, 1) := by decide +kernel
theorem dX2_reduce_40 : decode prog_4_method_22_code 40 = .ok (.aload_n 0, 1) := by decide +kernel
theorem dX2_reduce_41 : decode prog_4_method_22_code 41 = .ok (.getfield 15, 3) := by decide +kernel
theorem dX2_reduce_44 : decode prog_4_method_22_code 44 = .ok (.iload_n 3, 1) := by decide +kernel
theorem dX2_reduce_45 : decode prog_4_method_22_code 45 = .ok (.isub, 1) := by decide +kernel
theorem dX2_reduce_46 : decode prog_4_method_22_code 46 = .ok (.iconst 1, 1) := by decide +kernel
theorem dX2_reduce_47 : decode prog_4_method_22_code 47 = .ok (.iadd, 1) := by decide +kernel
theorem dX2_reduce_48 : decode prog_4_method_22_code 48 = .ok (.istore 4, 2) := by decide +kernel
theorem dX2_reduce_50 : decode prog_4_method_22_code 50 = .ok (.aload_n 0, 1) := by decide +kernel
theorem dX2_reduce_51 : decode prog_4_method_22_code 51 = .ok (.aload_n 0, 1) := by decide +kernel
theorem dX2_reduce_52 : decode prog_4_method_22_code 52 = .ok (.getfield 15, 3) := by decide +kernel
theorem dX2_reduce_55 : decode prog_4_method_22_code 55 = .ok (.iconst 1, 1) := by decide +kernel
theorem dX2_reduce_56 : decode prog_4_method_22_code 56 = .ok (.iadd, 1) := by decide +kernel
theorem dX2_reduce_57 : decode prog_4_method_22_code 57 = .ok (.invokevirtual 22, 3) := by decide +kernel
theorem dX2_reduce_60 : decode prog_4_method_22_code 60 = .ok (.aload_n 0, 1) := by decide +kernel
theorem dX2_reduce_61 : decode prog_4_method_22_code 61 = .ok (.getfield 9, 3) := by decide +kernel
theorem dX2_reduce_64 : decode prog_4_method_22_code 64 = .ok (.aload_n 0, 1) := by decide +kernel
theorem dX2_reduce_65 : decode prog_4_method_22_code 65 = .ok (.getfield 15, 3) := by decide +kernel
theorem dX2_reduce_68 : decode prog_4_method_22_code 68 = .ok (.iconst 0, 1) := by decide +kernel
theorem dX2_reduce_69 : decode prog_4_method_22_code 69 = .ok (.iastore, 1) := by decide +kernel
theorem dX2_reduce_70 : decode prog_4_method_22_code 70 = .ok (.aload_n 1, 1) := by decide +kernel
theorem dX2_reduce_71 : decode prog_4_method_22_code 71 = .ok (.iload 4, 2) := by decide +kernel
theorem dX2_reduce_73 : decode prog_4_method_22_code 73 = .ok (.invokevirtual 22, 3) := by decide +kernel
theorem dX2_reduce_76 : decode prog_4_method_22_code 76 = .ok (.iload 4, 2) := by decide +kernel
theorem dX2_reduce_78 : decode prog_4_method_22_code 78 = .ok (.iconst 1, 1) := by decide +kernel
theorem dX2_reduce_79 : decode prog_4_method_22_code 79 = .ok (.isub, 1) := by decide +kernel
theorem dX2_reduce_80 : decode prog_4_method_22_code 80 = .ok (.istore 5, 2) := by decide +kernel
theorem dX2_reduce_82 : decode prog_4_method_22_code 82 = .ok (.iload 5, 2) := by decide +kernel
theorem dX2_reduce_84 : decode prog_4_method_22_code 84 = .ok (.ifCond .lt 44, 3) := by decide +kernel
theorem dX2_reduce_87 : decode prog_4_method_22_code 87 = .ok (.aload_n 0, 1) := by decide +kernel
theorem dX2_reduce_88 : decode prog_4_method_22_code 88 = .ok (.aload_n 2, 1) := by decide +kernel
theorem dX2_reduce_89 : decode prog_4_method_22_code 89 = .ok (.getfield 9, 3) := by decide +kernel
theorem dX2_reduce_92 : decode prog_4_method_22_code 92 = .ok (.iload_n 3, 1) := by decide +kernel
theorem dX2_reduce_93 : decode prog_4_method_22_code 93 = .ok (.iload 5, 2) := by decide +kernel
theorem dX2_reduce_95 : decode prog_4_method_22_code 95 = .ok (.iload_n 3, 1) := by decide +kernel
theorem dX2_reduce_96 : decode prog_4_method_22_code 96 = .ok (.iadd, 1) := by decide +kernel
theorem dX2_reduce_97 : decode prog_4_method_22_code 97 = .ok (.invokevirtual 75, 3) := by decide +kernel
theorem dX2_reduce_100 : decode prog_4_method_22_code 100 = .ok (.istore 6, 2) := by decide +kernel
theorem dX2_reduce_102 : decode prog_4_method_22_code 102 = .ok (.aload_n 1, 1) := by decide +kernel
theorem dX2_reduce_103 : decode prog_4_method_22_code 103 = .ok (.getfield 9, 3) := by decide +kernel
theorem dX2_reduce_106 : decode prog_4_method_22_code 106 = .ok (.iload 5, 2) := by decide +kernel
theorem dX2_reduce_108 : decode prog_4_method_22_code 108 = .ok (.aload_n 0, 1) := by decide +kernel
theorem dX2_reduce_109 : decode prog_4_method_22_code 109 = .ok (.aload_n 2, 1) := by decide +kernel
theorem dX2_reduce_110 : decode prog_4_method_22_code 110 = .ok (.getfield 9, 3) := by decide +kernel
theorem dX2_reduce_113 : decode prog_4_method_22_code 113 = .ok (.iload_n 3, 1) := by decide +kernel
theorem dX2_reduce_114 : decode prog_4_method_22_code 114 = .ok (.iload 5, 2) := by decide +kernel
theorem dX2_reduce_116 : decode prog_4_method_22_code 116 = .ok (.iload 6, 2) := by decide +kernel
theorem dX2_reduce_118 : decode prog_4_method_22_code 118 = .ok (.invokevirtual 79, 3) := by decide +kernel
theorem dX2_reduce_121 : decode prog_4_method_22_code 121 = .ok (.iastore, 1) := by decide +kernel
theorem dX2_reduce_122 : decode prog_4_method_22_code 122 = .ok (.iinc 5 (-1), 3) := by decide +kernel
theorem dX2_reduce_125 : decode prog_4_method_22_code 125 = .ok (.goto (-43), 3) := by decide +kernel
theorem dX2_reduce_128 : decode prog_4_method_22_code 128 = .ok (.aload_n 1, 1) := by decide +kernel
theorem dX2_reduce_129 : decode prog_4_method_22_code 129 = .ok (.iload 4, 2) := by decide +kernel
theorem dX2_reduce_131 : decode prog_4_method_22_code 131 = .ok (.putfield 15, 3) := by decide +kernel
theorem dX2_reduce_134 : decode prog_4_method_22_code 134 = .ok (.aload_n 1, 1) := by decide +kernel
theorem dX2_reduce_135 : decode prog_4_method_22_code 135 = .ok (.invokevirtual 48, 3) := by decide +kernel
theorem dX2_reduce_138 : decode prog_4_method_22_code 138 = .ok (.aload_n 0, 1) := by decide +kernel
theorem dX2_reduce_139 : decode prog_4_method_22_code 139 = .ok (.iload_n 3, 1) := by decide +kernel
theorem dX2_reduce_140 : decode prog_4_method_22_code 140 = .ok (.putfield 15, 3) := by decide +kernel
theorem dX2_reduce_143 : decode prog_4_method_22_code 143 = .ok (.aload_n 0, 1) := by decide +kernel
theorem dX2_reduce_144 : decode prog_4_method_22_code 144 = .ok (.invokevirtual 48, 3) := by decide +kernel
theorem dX2_reduce_147 : decode prog_4_method_22_code 147 = .ok (.return_, 1) := by decide +kernel
theorem dX2_reduceByLimb_0 : decode prog_4_method_23_code 0 = .ok (.iload_n 2, 1) := by decide +kernel
theorem dX2_reduceByLimb_1 : decode prog_4_method_23_code 1 = .ok (.ifCond .ne 4, 3) := by decide +kernel
theorem dX2_reduceByLimb_4 : decode prog_4_method_23_code 4 = .ok (.return_, 1) := by decide +kernel
theorem dX2_reduceByLimb_5 : decode prog_4_method_23_code 5 = .ok (.aload_n 1, 1) := by decide +kernel
theorem dX2_reduceByLimb_6 : decode prog_4_method_23_code 6 = .ok (.aload_n 0, 1) := by decide +kernel
theorem dX2_reduceByLimb_7 : decode prog_4_method_23_code 7 = .ok (.getfield 15, 3) := by decide +kernel
theorem dX2_reduceByLimb_10 : decode prog_4_method_23_code 10 = .ok (.invokevirtual 22, 3) := by decide +kernel
theorem dX2_reduceByLimb_13 : decode prog_4_method_23_code 13 = .ok (.lconst 0, 1) := by decide +kernel
theorem dX2_reduceByLimb_14 : decode prog_4_method_23_code 14 = .ok (.lstore_n 3, 1) := by decide +kernel
theorem dX2_reduceByLimb_15 : decode prog_4_method_23_code 15 = .ok (.aload_n 0, 1) := by decide +kernel
theorem dX2_reduceByLimb_16 : decode prog_4_method_23_code 16 = .ok (.getfield 15, 3) := by decide +kernel
theorem dX2_reduceByLimb_19 : decode prog_4_method_23_code 19 = .ok (.iconst 1, 1) := by decide +kernel
theorem dX2_reduceByLimb_20 : decode prog_4_method_23_code 20 = .ok (.isub, 1) := by decide +kernel
theorem dX2_reduceByLimb_21 : decode prog_4_method_23_code 21 = .ok (.istore 5, 2) := by decide +kernel
theorem dX2_reduceByLimb_23 : decode prog_4_method_23_code 23 = .ok (.iload 5, 2) := by decide +kernel
theorem dX2_reduceByLimb_25 : decode prog_4_method_23_code 25 = .ok (.ifCond .lt 51, 3) := by decide +kernel
theorem dX2_reduceByLimb_28 : decode prog_4_method_23_code 28 = .ok (.lload_n 3, 1) := by decide +kernel
theorem dX2_reduceByLimb_29 : decode prog_4_method_23_code 29 = .ok (.ldc2_w 32, 3) := by decide +kernel
theorem dX2_reduceByLimb_32 : decode prog_4_method_23_code 32 = .ok (.lmul, 1) := by decide +kernel
theorem dX2_reduceByLimb_33 : decode prog_4_method_23_code 33 = .ok (.aload_n 0, 1) := by decide +kernel
theorem dX2_reduceByLimb_34 : decode prog_4_method_23_code 34 = .ok (.getfield 9, 3) := by decide +kernel
theorem dX2_reduceByLimb_37 : decode prog_4_method_23_code 37 = .ok (.iload 5, 2) := by decide +kernel
theorem dX2_reduceByLimb_39 : decode prog_4_method_23_code 39 = .ok (.iaload, 1) := by decide +kernel
theorem dX2_reduceByLimb_40 : decode prog_4_method_23_code 40 = .ok (.i2l, 1) := by decide +kernel
theorem dX2_reduceByLimb_41 : decode prog_4_method_23_code 41 = .ok (.ladd, 1) := by decide +kernel
theorem dX2_reduceByLimb_42 : decode prog_4_method_23_code 42 = .ok (.lstore 6, 2) := by decide +kernel
theorem dX2_reduceByLimb_44 : decode prog_4_method_23_code 44 = .ok (.lload 6, 2) := by decide +kernel
theorem dX2_reduceByLimb_46 : decode prog_4_method_23_code 46 = .ok (.iload_n 2, 1) := by decide +kernel
theorem dX2_reduceByLimb_47 : decode prog_4_method_23_code 47 = .ok (.i2l, 1) := by decide +kernel
theorem dX2_reduceByLimb_48 : decode prog_4_method_23_code 48 = .ok (.ldiv, 1) := by decide +kernel
theorem dX2_reduceByLimb_49 : decode prog_4_method_23_code 49 = .ok (.lstore 8, 2) := by decide +kernel
theorem dX2_reduceByLimb_51 : decode prog_4_method_23_code 51 = .ok (.aload_n 1, 1) := by decide +kernel
theorem dX2_reduceByLimb_52 : decode prog_4_method_23_code 52 = .ok (.getfield 9, 3) := by decide +kernel
theorem dX2_reduceByLimb_55 : decode prog_4_method_23_code 55 = .ok (.iload 5, 2) := by decide +kernel
theorem dX2_reduceByLimb_57 : decode prog_4_method_23_code 57 = .ok (.lload 8, 2) := by decide +kernel
theorem dX2_reduceByLimb_59 : decode prog_4_method_23_code 59 = .ok (.l2i, 1) := by decide +kernel
theorem dX2_reduceByLimb_60 : decode prog_4_method_23_code 60 = .ok (.iastore, 1) := by decide +kernel
theorem dX2_reduceByLimb_61 : decode prog_4_method_23_code 61 = .ok (.lload 6, 2) := by decide +kernel
theorem dX2_reduceByLimb_63 : decode prog_4_method_23_code 63 = .ok (.lload 8, 2) := by decide +kernel
theorem dX2_reduceByLimb_65 : decode prog_4_method_23_code 65 = .ok (.iload_n 2, 1) := by decide +kernel
theorem dX2_reduceByLimb_66 : decode prog_4_method_23_code 66 = .ok (.i2l, 1) := by decide +kernel
theorem dX2_reduceByLimb_67 : decode prog_4_method_23_code 67 = .ok (.lmul, 1) := by decide +kernel
theorem dX2_reduceByLimb_68 : decode prog_4_method_23_code 68 = .ok (.lsub, 1) := by decide +kernel
theorem dX2_reduceByLimb_69 : decode prog_4_method_23_code 69 = .ok (.lstore_n 3, 1) := by decide +kernel
theorem dX2_reduceByLimb_70 : decode prog_4_method_23_code 70 = .ok (.iinc 5 (-1), 3) := by decide +kernel
theorem dX2_reduceByLimb_73 : decode prog_4_method_23_code 73 = .ok (.goto (-50), 3) := by decide +kernel
theorem dX2_reduceByLimb_76 : decode prog_4_method_23_code 76 = .ok (.aload_n 1, 1) := by decide +kernel
theorem dX2_reduceByLimb_77 : decode prog_4_method_23_code 77 = .ok (.aload_n 0, 1) := by decide +kernel
theorem dX2_reduceByLimb_78 : decode prog_4_method_23_code 78 = .ok (.getfield 15, 3) := by decide +kernel
theorem dX2_reduceByLimb_81 : decode prog_4_method_23_code 81 = .ok (.putfield 15, 3) := by decide +kernel
theorem dX2_reduceByLimb_84 : decode prog_4_method_23_code 84 = .ok (.aload_n 1, 1) := by decide +kernel
theorem dX2_reduceByLimb_85 : decode prog_4_method_23_code 85 = .ok (.invokevirtual 48, 3) := by decide +kernel
theorem dX2_reduceByLimb_88 : decode prog_4_method_23_code 88 = .ok (.aload_n 0, 1) := by decide +kernel
theorem dX2_reduceByLimb_89 : decode prog_4_method_23_code 89 = .ok (.getfield 9, 3) := by decide +kernel
theorem dX2_reduceByLimb_92 : decode prog_4_method_23_code 92 = .ok (.iconst 0, 1) := by decide +kernel
theorem dX2_reduceByLimb_93 : decode prog_4_method_23_code 93 = .ok (.lload_n 3, 1) := by decide +kernel
theorem dX2_reduceByLimb_94 : decode prog_4_method_23_code 94 = .ok (.l2i, 1) := by decide +kernel
theorem dX2_reduceByLimb_95 : decode prog_4_method_23_code 95 = .ok (.iastore, 1) := by decide +kernel
theorem dX2_reduceByLimb_96 : decode prog_4_method_23_code 96 = .ok (.aload_n 0, 1) := by decide +kernel
theorem dX2_reduceByLimb_97 : decode prog_4_method_23_code 97 = .ok (.iconst 1, 1) := by decide +kernel
theorem dX2_reduceByLimb_98 : decode prog_4_method_23_code 98 = .ok (.putfield 15, 3) := by decide +kernel
theorem dX2_reduceByLimb_101 : decode prog_4_method_23_code 101 = .ok (.aload_n 0, 1) := by decide +kernel
theorem dX2_reduceByLimb_102 : decode prog_4_method_23_code 102 = .ok (.invokevirtual 48, 3) := by decide +kernel
theorem dX2_reduceByLimb_105 : decode prog_4_method_23_code 105 = .ok (.return_, 1) := by decide +kernel
theorem dX2_guessLimb_0 : decode prog_4_method_24_code 0 = .ok (.aload_n 1, 1) := by decide +kernel
theorem dX2_guessLimb_1 : decode prog_4_method_24_code 1 = .ok (.iload_n 2, 1) := by decide +kernel
theorem dX2_guessLimb_2 : decode prog_4_method_24_code 2 = .ok (.iconst 1, 1) := by decide +kernel
theorem dX2_guessLimb_3 : decode prog_4_method_24_code 3 = .ok (.isub, 1) := by decide +kernel
theorem dX2_guessLimb_4 : decode prog_4_method_24_code 4 = .ok (.iaload, 1) := by decide +kernel
theorem dX2_guessLimb_5 : decode prog_4_method_24_code 5 = .ok (.i2l, 1) := by decide +kernel
theorem dX2_guessLimb_6 : decode prog_4_method_24_code 6 = .ok (.lstore 4, 2) := by decide +kernel
theorem dX2_guessLimb_8 : decode prog_4_method_24_code 8 = .ok (.lload 4, 2) := by decide +kernel
theorem dX2_guessLimb_10 : decode prog_4_method_24_code 10 = .ok (.lconst 0, 1) := by decide +kernel
theorem dX2_guessLimb_11 : decode prog_4_method_24_code 11 = .ok (.lcmp, 1) := by decide +kernel
theorem dX2_guessLimb_12 : decode prog_4_method_24_code 12 = .ok (.ifCond .ne 5, 3) := by decide +kernel
theorem dX2_guessLimb_15 : decode prog_4_method_24_code 15 = .ok (.iconst 0, 1) := by decide +kernel
theorem dX2_guessLimb_16 : decode prog_4_method_24_code 16 = .ok (.ireturn, 1) := by decide +kernel
theorem dX2_guessLimb_17 : decode prog_4_method_24_code 17 = .ok (.aload_n 0, 1) := by decide +kernel
theorem dX2_guessLimb_18 : decode prog_4_method_24_code 18 = .ok (.getfield 9, 3) := by decide +kernel
theorem dX2_guessLimb_21 : decode prog_4_method_24_code 21 = .ok (.iload_n 3, 1) := by decide +kernel
theorem dX2_guessLimb_22 : decode prog_4_method_24_code 22 = .ok (.iaload, 1) := by decide +kernel
theorem dX2_guessLimb_23 : decode prog_4_method_24_code 23 = .ok (.i2l, 1) := by decide +kernel
theorem dX2_guessLimb_24 : decode prog_4_method_24_code 24 = .ok (.ldc2_w 32, 3) := by decide +kernel
theorem dX2_guessLimb_27 : decode prog_4_method_24_code 27 = .ok (.lmul, 1) := by decide +kernel
theorem dX2_guessLimb_28 : decode prog_4_method_24_code 28 = .ok (.aload_n 0, 1) := by decide +kernel
theorem dX2_guessLimb_29 : decode prog_4_method_24_code 29 = .ok (.getfield 9, 3) := by decide +kernel
theorem dX2_guessLimb_32 : decode prog_4_method_24_code 32 = .ok (.iload_n 3, 1) := by decide +kernel
theorem dX2_guessLimb_33 : decode prog_4_method_24_code 33 = .ok (.iconst 1, 1) := by decide +kernel
theorem dX2_guessLimb_34 : decode prog_4_method_24_code 34 = .ok (.isub, 1) := by decide +kernel
theorem dX2_guessLimb_35 : decode prog_4_method_24_code 35 = .ok (.iaload, 1) := by decide +kernel
theorem dX2_guessLimb_36 : decode prog_4_method_24_code 36 = .ok (.i2l, 1) := by decide +kernel
theorem dX2_guessLimb_37 : decode prog_4_method_24_code 37 = .ok (.ladd, 1) := by decide +kernel
theorem dX2_guessLimb_38 : decode prog_4_method_24_code 38 = .ok (.lstore 6, 2) := by decide +kernel
theorem dX2_guessLimb_40 : decode prog_4_method_24_code 40 = .ok (.lload 6, 2) := by decide +kernel
theorem dX2_guessLimb_42 : decode prog_4_method_24_code 42 = .ok (.lload 4, 2) := by decide +kernel
theorem dX2_guessLimb_44 : decode prog_4_method_24_code 44 = .ok (.ldiv, 1) := by decide +kernel
theorem dX2_guessLimb_45 : decode prog_4_method_24_code 45 = .ok (.lload 6, 2) := by decide +kernel
theorem dX2_guessLimb_47 : decode prog_4_method_24_code 47 = .ok (.lload 4, 2) := by decide +kernel
theorem dX2_guessLimb_49 : decode prog_4_method_24_code 49 = .ok (.lrem, 1) := by decide +kernel
theorem dX2_guessLimb_50 : decode prog_4_method_24_code 50 = .ok (.lload 4, 2) := by decide +kernel
theorem dX2_guessLimb_52 : decode prog_4_method_24_code 52 = .ok (.aload_n 1, 1) := by decide +kernel
theorem dX2_guessLimb_53 : decode prog_4_method_24_code 53 = .ok (.iload_n 2, 1) := by decide +kernel
theorem dX2_guessLimb_54 : decode prog_4_method_24_code 54 = .ok (.iconst 2, 1) := by decide +kernel
theorem dX2_guessLimb_55 : decode prog_4_method_24_code 55 = .ok (.isub, 1) := by decide +kernel
theorem dX2_guessLimb_56 : decode prog_4_method_24_code 56 = .ok (.iaload, 1) := by decide +kernel
theorem dX2_guessLimb_57 : decode prog_4_method_24_code 57 = .ok (.i2l, 1) := by decide +kernel
theorem dX2_guessLimb_58 : decode prog_4_method_24_code 58 = .ok (.aload_n 0, 1) := by decide +kernel
theorem dX2_guessLimb_59 : decode prog_4_method_24_code 59 = .ok (.getfield 9, 3) := by decide +kernel
theorem dX2_guessLimb_62 : decode prog_4_method_24_code 62 = .ok (.iload_n 3, 1) := by decide +kernel
theorem dX2_guessLimb_63 : decode prog_4_method_24_code 63 = .ok (.iconst 2, 1) := by decide +kernel
theorem dX2_guessLimb_64 : decode prog_4_method_24_code 64 = .ok (.isub, 1) := by decide +kernel
theorem dX2_guessLimb_65 : decode prog_4_method_24_code 65 = .ok (.iaload, 1) := by decide +kernel
theorem dX2_guessLimb_66 : decode prog_4_method_24_code 66 = .ok (.i2l, 1) := by decide +kernel
theorem dX2_guessLimb_67 : decode prog_4_method_24_code 67 = .ok (.invokestatic 83, 3) := by decide +kernel
theorem dX2_guessLimb_70 : decode prog_4_method_24_code 70 = .ok (.ireturn, 1) := by decide +kernel
theorem dX2_refine_0 : decode prog_4_method_25_code 0 = .ok (.lload_n 0, 1) := by decide +kernel
theorem dX2_refine_1 : decode prog_4_method_25_code 1 = .ok (.lload 6, 2) := by decide +kernel
theorem dX2_refine_3 : decode prog_4_method_25_code 3 = .ok (.lmul, 1) := by decide +kernel
theorem dX2_refine_4 : decode prog_4_method_25_code 4 = .ok (.lload_n 2, 1) := by decide +kernel
theorem dX2_refine_5 : decode prog_4_method_25_code 5 = .ok (.ldc2_w 32, 3) := by decide +kernel
theorem dX2_refine_8 : decode prog_4_method_25_code 8 = .ok (.lmul, 1) := by decide +kernel
theorem dX2_refine_9 : decode prog_4_method_25_code 9 = .ok (.lsub, 1) := by decide +kernel
theorem dX2_refine_10 : decode prog_4_method_25_code 10 = .ok (.lload 8, 2) := by decide +kernel
theorem dX2_refine_12 : decode prog_4_method_25_code 12 = .ok (.lsub, 1) := by decide +kernel
theorem dX2_refine_13 : decode prog_4_method_25_code 13 = .ok (.lstore 10, 2) := by decide +kernel
theorem dX2_refine_15 : decode prog_4_method_25_code 15 = .ok (.lload 4, 2) := by decide +kernel
theorem dX2_refine_17 : decode prog_4_method_25_code 17 = .ok (.ldc2_w 32, 3) := by decide +kernel
theorem dX2_refine_20 : decode prog_4_method_25_code 20 = .ok (.lmul, 1) := by decide +kernel
theorem dX2_refine_21 : decode prog_4_method_25_code 21 = .ok (.lload 6, 2) := by decide +kernel
theorem dX2_refine_23 : decode prog_4_method_25_code 23 = .ok (.ladd, 1) := by decide +kernel
theorem dX2_refine_24 : decode prog_4_method_25_code 24 = .ok (.lstore 12, 2) := by decide +kernel
theorem dX2_refine_26 : decode prog_4_method_25_code 26 = .ok (.lload_n 0, 1) := by decide +kernel
theorem dX2_refine_27 : decode prog_4_method_25_code 27 = .ok (.lstore 14, 2) := by decide +kernel
theorem dX2_refine_29 : decode prog_4_method_25_code 29 = .ok (.lload 10, 2) := by decide +kernel
theorem dX2_refine_31 : decode prog_4_method_25_code 31 = .ok (.lconst 0, 1) := by decide +kernel
theorem dX2_refine_32 : decode prog_4_method_25_code 32 = .ok (.lcmp, 1) := by decide +kernel
theorem dX2_refine_33 : decode prog_4_method_25_code 33 = .ok (.ifCond .le 25, 3) := by decide +kernel
theorem dX2_refine_36 : decode prog_4_method_25_code 36 = .ok (.lload 12, 2) := by decide +kernel
theorem dX2_refine_38 : decode prog_4_method_25_code 38 = .ok (.lconst 0, 1) := by decide +kernel
theorem dX2_refine_39 : decode prog_4_method_25_code 39 = .ok (.lcmp, 1) := by decide +kernel
theorem dX2_refine_40 : decode prog_4_method_25_code 40 = .ok (.ifCond .le 18, 3) := by decide +kernel
theorem dX2_refine_43 : decode prog_4_method_25_code 43 = .ok (.lload 14, 2) := by decide +kernel
theorem dX2_refine_45 : decode prog_4_method_25_code 45 = .ok (.lload 10, 2) := by decide +kernel
theorem dX2_refine_47 : decode prog_4_method_25_code 47 = .ok (.lload 12, 2) := by decide +kernel
theorem dX2_refine_49 : decode prog_4_method_25_code 49 = .ok (.ladd, 1) := by decide +kernel
theorem dX2_refine_50 : decode prog_4_method_25_code 50 = .ok (.lconst 1, 1) := by decide +kernel
theorem dX2_refine_51 : decode prog_4_method_25_code 51 = .ok (.lsub, 1) := by decide +kernel
theorem dX2_refine_52 : decode prog_4_method_25_code 52 = .ok (.lload 12, 2) := by decide +kernel
theorem dX2_refine_54 : decode prog_4_method_25_code 54 = .ok (.ldiv, 1) := by decide +kernel
theorem dX2_refine_55 : decode prog_4_method_25_code 55 = .ok (.lsub, 1) := by decide +kernel
theorem dX2_refine_56 : decode prog_4_method_25_code 56 = .ok (.lstore 14, 2) := by decide +kernel
theorem dX2_refine_58 : decode prog_4_method_25_code 58 = .ok (.lload 14, 2) := by decide +kernel
theorem dX2_refine_60 : decode prog_4_method_25_code 60 = .ok (.ldc2_w 87, 3) := by decide +kernel
theorem dX2_refine_63 : decode prog_4_method_25_code 63 = .ok (.invokestatic 89, 3) := by decide +kernel
theorem dX2_refine_66 : decode prog_4_method_25_code 66 = .ok (.l2i, 1) := by decide +kernel
theorem dX2_refine_67 : decode prog_4_method_25_code 67 = .ok (.ireturn, 1) := by decide +kernel
theorem dX2_takeLimb_0 : decode prog_4_method_26_code 0 = .ok (.iload 4, 2) := by decide +kernel
theorem dX2_takeLimb_2 : decode prog_4_method_26_code 2 = .ok (.istore 5, 2) := by decide +kernel
theorem dX2_takeLimb_4 : decode prog_4_method_26_code 4 = .ok (.aload_n 0, 1) := by decide +kernel
theorem dX2_takeLimb_5 : decode prog_4_method_26_code 5 = .ok (.getfield 9, 3) := by decide +kernel
theorem dX2_takeLimb_8 : decode prog_4_method_26_code 8 = .ok (.iload_n 3, 1) := by decide +kernel
theorem dX2_takeLimb_9 : decode prog_4_method_26_code 9 = .ok (.iload_n 2, 1) := by decide +kernel
theorem dX2_takeLimb_10 : decode prog_4_method_26_code 10 = .ok (.iadd, 1) := by decide +kernel
theorem dX2_takeLimb_11 : decode prog_4_method_26_code 11 = .ok (.iaload, 1) := by decide +kernel
theorem dX2_takeLimb_12 : decode prog_4_method_26_code 12 = .ok (.i2l, 1) := by decide +kernel
theorem dX2_takeLimb_13 : decode prog_4_method_26_code 13 = .ok (.aload_n 0, 1) := by decide +kernel
theorem dX2_takeLimb_14 : decode prog_4_method_26_code 14 = .ok (.aload_n 1, 1) := by decide +kernel
theorem dX2_takeLimb_15 : decode prog_4_method_26_code 15 = .ok (.iconst 0, 1) := by decide +kernel
theorem dX2_takeLimb_16 : decode prog_4_method_26_code 16 = .ok (.iload_n 2, 1) := by decide +kernel
theorem dX2_takeLimb_17 : decode prog_4_method_26_code 17 = .ok (.iload 5, 2) := by decide +kernel
theorem dX2_takeLimb_19 : decode prog_4_method_26_code 19 = .ok (.i2l, 1) := by decide +kernel
theorem dX2_takeLimb_20 : decode prog_4_method_26_code 20 = .ok (.iload_n 3, 1) := by decide +kernel
theorem dX2_takeLimb_21 : decode prog_4_method_26_code 21 = .ok (.invokevirtual 93, 3) := by decide +kernel
theorem dX2_takeLimb_24 : decode prog_4_method_26_code 24 = .ok (.lsub, 1) := by decide +kernel
theorem dX2_takeLimb_25 : decode prog_4_method_26_code 25 = .ok (.lstore 6, 2) := by decide +kernel
theorem dX2_takeLimb_27 : decode prog_4_method_26_code 27 = .ok (.lload 6, 2) := by decide +kernel
theorem dX2_takeLimb_29 : decode prog_4_method_26_code 29 = .ok (.lconst 0, 1) := by decide +kernel
theorem dX2_takeLimb_30 : decode prog_4_method_26_code 30 = .ok (.lcmp, 1) := by decide +kernel
theorem dX2_takeLimb_31 : decode prog_4_method_26_code 31 = .ok (.ifCond .ge 19, 3) := by decide +kernel
theorem dX2_takeLimb_34 : decode prog_4_method_26_code 34 = .ok (.iinc 5 (-1), 3) := by decide +kernel
theorem dX2_takeLimb_37 : decode prog_4_method_26_code 37 = .ok (.lload 6, 2) := by decide +kernel
theorem dX2_takeLimb_39 : decode prog_4_method_26_code 39 = .ok (.aload_n 0, 1) := by decide +kernel
theorem dX2_takeLimb_40 : decode prog_4_method_26_code 40 = .ok (.aload_n 1, 1) := by decide +kernel
theorem dX2_takeLimb_41 : decode prog_4_method_26_code 41 = .ok (.iconst 0, 1) := by decide +kernel
theorem dX2_takeLimb_42 : decode prog_4_method_26_code 42 = .ok (.iload_n 2, 1) := by decide +kernel
theorem dX2_takeLimb_43 : decode prog_4_method_26_code 43 = .ok (.iload_n 3, 1) := by decide +kernel
theorem dX2_takeLimb_44 : decode prog_4_method_26_code 44 = .ok (.invokevirtual 97, 3) := by decide +kernel
theorem dX2_takeLimb_47 : decode prog_4_method_26_code 47 = .ok (.ladd, 1) := by decide +kernel
theorem dX2_takeLimb_48 : decode prog_4_method_26_code 48 = .ok (.lstore 6, 2) := by decide +kernel
theorem dX2_takeLimb_50 : decode prog_4_method_26_code 50 = .ok (.aload_n 0, 1) := by decide +kernel
theorem dX2_takeLimb_51 : decode prog_4_method_26_code 51 = .ok (.getfield 9, 3) := by decide +kernel
theorem dX2_takeLimb_54 : decode prog_4_method_26_code 54 = .ok (.iload_n 3, 1) := by decide +kernel
theorem dX2_takeLimb_55 : decode prog_4_method_26_code 55 = .ok (.iload_n 2, 1) := by decide +kernel
theorem dX2_takeLimb_56 : decode prog_4_method_26_code 56 = .ok (.iadd, 1) := by decide +kernel
theorem dX2_takeLimb_57 : decode prog_4_method_26_code 57 = .ok (.lload 6, 2) := by decide +kernel
theorem dX2_takeLimb_59 : decode prog_4_method_26_code 59 = .ok (.l2i, 1) := by decide +kernel
theorem dX2_takeLimb_60 : decode prog_4_method_26_code 60 = .ok (.iastore, 1) := by decide +kernel
theorem dX2_takeLimb_61 : decode prog_4_method_26_code 61 = .ok (.iload 5, 2) := by decide +kernel
theorem dX2_takeLimb_63 : decode prog_4_method_26_code 63 = .ok (.ireturn, 1) := by decide +kernel
theorem dX2_subtractTimes_0 : decode prog_4_method_27_code 0 = .ok (.aload_n 0, 1) := by decide +kernel
theorem dX2_subtractTimes_1 : decode prog_4_method_27_code 1 = .ok (.getfield 9, 3) := by decide +kernel
theorem dX2_subtractTimes_4 : decode prog_4_method_27_code 4 = .ok (.astore 7, 2) := by decide +kernel
theorem dX2_subtractTimes_6 : decode prog_4_method_27_code 6 = .ok (.lconst 0, 1) := by decide +kernel
theorem dX2_subtractTimes_7 : decode prog_4_method_27_code 7 = .ok (.lstore 8, 2) := by decide +kernel
theorem dX2_subtractTimes_9 : decode prog_4_method_27_code 9 = .ok (.iload_n 2, 1) := by decide +kernel
theorem dX2_subtractTimes_10 : decode prog_4_method_27_code 10 = .ok (.istore 10, 2) := by decide +kernel
theorem dX2_subtractTimes_12 : decode prog_4_method_27_code 12 = .ok (.iload 10, 2) := by decide +kernel
theorem dX2_subtractTimes_14 : decode prog_4_method_27_code 14 = .ok (.iload_n 3, 1) := by decide +kernel
theorem dX2_subtractTimes_15 : decode prog_4_method_27_code 15 = .ok (.if_icmp .ge 79, 3) := by decide +kernel
theorem dX2_subtractTimes_18 : decode prog_4_method_27_code 18 = .ok (.aload_n 1, 1) := by decide +kernel
theorem dX2_subtractTimes_19 : decode prog_4_method_27_code 19 = .ok (.iload 10, 2) := by decide +kernel
theorem dX2_subtractTimes_21 : decode prog_4_method_27_code 21 = .ok (.iaload, 1) := by decide +kernel
theorem dX2_subtractTimes_22 : decode prog_4_method_27_code 22 = .ok (.i2l, 1) := by decide +kernel
theorem dX2_subtractTimes_23 : decode prog_4_method_27_code 23 = .ok (.lload 4, 2) := by decide +kernel
theorem dX2_subtractTimes_25 : decode prog_4_method_27_code 25 = .ok (.lmul, 1) := by decide +kernel
theorem dX2_subtractTimes_26 : decode prog_4_method_27_code 26 = .ok (.lload 8, 2) := by decide +kernel
theorem dX2_subtractTimes_28 : decode prog_4_method_27_code 28 = .ok (.ladd, 1) := by decide +kernel
theorem dX2_subtractTimes_29 : decode prog_4_method_27_code 29 = .ok (.lstore 11, 2) := by decide +kernel
theorem dX2_subtractTimes_31 : decode prog_4_method_27_code 31 = .ok (.lload 11, 2) := by decide +kernel
theorem dX2_subtractTimes_33 : decode prog_4_method_27_code 33 = .ok (.ldc2_w 32, 3) := by decide +kernel
theorem dX2_subtractTimes_36 : decode prog_4_method_27_code 36 = .ok (.ldiv, 1) := by decide +kernel
theorem dX2_subtractTimes_37 : decode prog_4_method_27_code 37 = .ok (.lstore 8, 2) := by decide +kernel
theorem dX2_subtractTimes_39 : decode prog_4_method_27_code 39 = .ok (.aload 7, 2) := by decide +kernel
theorem dX2_subtractTimes_41 : decode prog_4_method_27_code 41 = .ok (.iload 10, 2) := by decide +kernel
theorem dX2_subtractTimes_43 : decode prog_4_method_27_code 43 = .ok (.iload 6, 2) := by decide +kernel
theorem dX2_subtractTimes_45 : decode prog_4_method_27_code 45 = .ok (.iadd, 1) := by decide +kernel
theorem dX2_subtractTimes_46 : decode prog_4_method_27_code 46 = .ok (.iaload, 1) := by decide +kernel
theorem dX2_subtractTimes_47 : decode prog_4_method_27_code 47 = .ok (.lload 11, 2) := by decide +kernel
theorem dX2_subtractTimes_49 : decode prog_4_method_27_code 49 = .ok (.lload 8, 2) := by decide +kernel
theorem dX2_subtractTimes_51 : decode prog_4_method_27_code 51 = .ok (.ldc2_w 32, 3) := by decide +kernel
theorem dX2_subtractTimes_54 : decode prog_4_method_27_code 54 = .ok (.lmul, 1) := by decide +kernel
theorem dX2_subtractTimes_55 : decode prog_4_method_27_code 55 = .ok (.lsub, 1) := by decide +kernel
theorem dX2_subtractTimes_56 : decode prog_4_method_27_code 56 = .ok (.l2i, 1) := by decide +kernel
theorem dX2_subtractTimes_57 : decode prog_4_method_27_code 57 = .ok (.isub, 1) := by decide +kernel
theorem dX2_subtractTimes_58 : decode prog_4_method_27_code 58 = .ok (.istore 13, 2) := by decide +kernel
theorem dX2_subtractTimes_60 : decode prog_4_method_27_code 60 = .ok (.iload 13, 2) := by decide +kernel
theorem dX2_subtractTimes_62 : decode prog_4_method_27_code 62 = .ok (.ifCond .ge 16, 3) := by decide +kernel
theorem dX2_subtractTimes_65 : decode prog_4_method_27_code 65 = .ok (.iload 13, 2) := by decide +kernel
theorem dX2_subtractTimes_67 : decode prog_4_method_27_code 67 = .ok (.ldc 66, 2) := by decide +kernel
theorem dX2_subtractTimes_69 : decode prog_4_method_27_code 69 = .ok (.iadd, 1) := by decide +kernel
theorem dX2_subtractTimes_70 : decode prog_4_method_27_code 70 = .ok (.istore 13, 2) := by decide +kernel
theorem dX2_subtractTimes_72 : decode prog_4_method_27_code 72 = .ok (.lload 8, 2) := by decide +kernel
theorem dX2_subtractTimes_74 : decode prog_4_method_27_code 74 = .ok (.lconst 1, 1) := by decide +kernel
theorem dX2_subtractTimes_75 : decode prog_4_method_27_code 75 = .ok (.ladd, 1) := by decide +kernel
theorem dX2_subtractTimes_76 : decode prog_4_method_27_code 76 = .ok (.lstore 8, 2) := by decide +kernel
theorem dX2_subtractTimes_78 : decode prog_4_method_27_code 78 = .ok (.aload 7, 2) := by decide +kernel
theorem dX2_subtractTimes_80 : decode prog_4_method_27_code 80 = .ok (.iload 10, 2) := by decide +kernel
theorem dX2_subtractTimes_82 : decode prog_4_method_27_code 82 = .ok (.iload 6, 2) := by decide +kernel
theorem dX2_subtractTimes_84 : decode prog_4_method_27_code 84 = .ok (.iadd, 1) := by decide +kernel
theorem dX2_subtractTimes_85 : decode prog_4_method_27_code 85 = .ok (.iload 13, 2) := by decide +kernel
theorem dX2_subtractTimes_87 : decode prog_4_method_27_code 87 = .ok (.iastore, 1) := by decide +kernel
theorem dX2_subtractTimes_88 : decode prog_4_method_27_code 88 = .ok (.iinc 10 1, 3) := by decide +kernel
theorem dX2_subtractTimes_91 : decode prog_4_method_27_code 91 = .ok (.goto (-79), 3) := by decide +kernel
theorem dX2_subtractTimes_94 : decode prog_4_method_27_code 94 = .ok (.lload 8, 2) := by decide +kernel
theorem dX2_subtractTimes_96 : decode prog_4_method_27_code 96 = .ok (.lreturn, 1) := by decide +kernel
theorem dX2_addBack_0 : decode prog_4_method_28_code 0 = .ok (.aload_n 0, 1) := by decide +kernel
theorem dX2_addBack_1 : decode prog_4_method_28_code 1 = .ok (.getfield 9, 3) := by decide +kernel
theorem dX2_addBack_4 : decode prog_4_method_28_code 4 = .ok (.astore 5, 2) := by decide +kernel
theorem dX2_addBack_6 : decode prog_4_method_28_code 6 = .ok (.lconst 0, 1) := by decide +kernel
theorem dX2_addBack_7 : decode prog_4_method_28_code 7 = .ok (.lstore 6, 2) := by decide +kernel
theorem dX2_addBack_9 : decode prog_4_method_28_code 9 = .ok (.iload_n 2, 1) := by decide +kernel
theorem dX2_addBack_10 : decode prog_4_method_28_code 10 = .ok (.istore 8, 2) := by decide +kernel
theorem dX2_addBack_12 : decode prog_4_method_28_code 12 = .ok (.iload 8, 2) := by decide +kernel
theorem dX2_addBack_14 : decode prog_4_method_28_code 14 = .ok (.iload_n 3, 1) := by decide +kernel
theorem dX2_addBack_15 : decode prog_4_method_28_code 15 = .ok (.if_icmp .ge 55, 3) := by decide +kernel
theorem dX2_addBack_18 : decode prog_4_method_28_code 18 = .ok (.aload 5, 2) := by decide +kernel
theorem dX2_addBack_20 : decode prog_4_method_28_code 20 = .ok (.iload 8, 2) := by decide +kernel
theorem dX2_addBack_22 : decode prog_4_method_28_code 22 = .ok (.iload 4, 2) := by decide +kernel
theorem dX2_addBack_24 : decode prog_4_method_28_code 24 = .ok (.iadd, 1) := by decide +kernel
theorem dX2_addBack_25 : decode prog_4_method_28_code 25 = .ok (.iaload, 1) := by decide +kernel
theorem dX2_addBack_26 : decode prog_4_method_28_code 26 = .ok (.i2l, 1) := by decide +kernel
theorem dX2_addBack_27 : decode prog_4_method_28_code 27 = .ok (.aload_n 1, 1) := by decide +kernel
theorem dX2_addBack_28 : decode prog_4_method_28_code 28 = .ok (.iload 8, 2) := by decide +kernel
theorem dX2_addBack_30 : decode prog_4_method_28_code 30 = .ok (.iaload, 1) := by decide +kernel
theorem dX2_addBack_31 : decode prog_4_method_28_code 31 = .ok (.i2l, 1) := by decide +kernel
theorem dX2_addBack_32 : decode prog_4_method_28_code 32 = .ok (.ladd, 1) := by decide +kernel
