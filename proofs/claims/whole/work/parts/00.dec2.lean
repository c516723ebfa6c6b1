theorem dX5_strip_82 : decode prog_1_method_14_code 82 = .ok (.iload 4, 2) := by decide +kernel
theorem dX5_strip_84 : decode prog_1_method_14_code 84 = .ok (.i2l, 1) := by decide +kernel
theorem dX5_strip_85 : decode prog_1_method_14_code 85 = .ok (.lsub, 1) := by decide +kernel
theorem dX5_strip_86 : decode prog_1_method_14_code 86 = .ok (.invokevirtual 57, 3) := by decide +kernel
theorem dX5_strip_89 : decode prog_1_method_14_code 89 = .ok (.ireturn, 1) := by decide +kernel
theorem dX5_move_0 : decode prog_1_method_15_code 0 = .ok (.iload_n 2, 1) := by decide +kernel
theorem dX5_move_1 : decode prog_1_method_15_code 1 = .ok (.invokestatic 61, 3) := by decide +kernel
theorem dX5_move_4 : decode prog_1_method_15_code 4 = .ok (.ifCond .ne 5, 3) := by decide +kernel
theorem dX5_move_7 : decode prog_1_method_15_code 7 = .ok (.iconst 0, 1) := by decide +kernel
theorem dX5_move_8 : decode prog_1_method_15_code 8 = .ok (.ireturn, 1) := by decide +kernel
theorem dX5_move_9 : decode prog_1_method_15_code 9 = .ok (.aload_n 0, 1) := by decide +kernel
theorem dX5_move_10 : decode prog_1_method_15_code 10 = .ok (.getfield 11, 3) := by decide +kernel
theorem dX5_move_13 : decode prog_1_method_15_code 13 = .ok (.iload_n 2, 1) := by decide +kernel
theorem dX5_move_14 : decode prog_1_method_15_code 14 = .ok (.aaload, 1) := by decide +kernel
theorem dX5_move_15 : decode prog_1_method_15_code 15 = .ok (.astore 4, 2) := by decide +kernel
theorem dX5_move_17 : decode prog_1_method_15_code 17 = .ok (.aload_n 0, 1) := by decide +kernel
theorem dX5_move_18 : decode prog_1_method_15_code 18 = .ok (.iload_n 1, 1) := by decide +kernel
theorem dX5_move_19 : decode prog_1_method_15_code 19 = .ok (.aload 4, 2) := by decide +kernel
theorem dX5_move_21 : decode prog_1_method_15_code 21 = .ok (.getfield 65, 3) := by decide +kernel
theorem dX5_move_24 : decode prog_1_method_15_code 24 = .ok (.aload 4, 2) := by decide +kernel
theorem dX5_move_26 : decode prog_1_method_15_code 26 = .ok (.getfield 68, 3) := by decide +kernel
theorem dX5_move_29 : decode prog_1_method_15_code 29 = .ok (.aload 4, 2) := by decide +kernel
theorem dX5_move_31 : decode prog_1_method_15_code 31 = .ok (.getfield 72, 3) := by decide +kernel
theorem dX5_move_34 : decode prog_1_method_15_code 34 = .ok (.i2l, 1) := by decide +kernel
theorem dX5_move_35 : decode prog_1_method_15_code 35 = .ok (.iload_n 3, 1) := by decide +kernel
theorem dX5_move_36 : decode prog_1_method_15_code 36 = .ok (.i2l, 1) := by decide +kernel
theorem dX5_move_37 : decode prog_1_method_15_code 37 = .ok (.lsub, 1) := by decide +kernel
theorem dX5_move_38 : decode prog_1_method_15_code 38 = .ok (.invokevirtual 57, 3) := by decide +kernel
theorem dX5_move_41 : decode prog_1_method_15_code 41 = .ok (.ireturn, 1) := by decide +kernel
theorem dX5_compare_0 : decode prog_1_method_16_code 0 = .ok (.iload_n 1, 1) := by decide +kernel
theorem dX5_compare_1 : decode prog_1_method_16_code 1 = .ok (.invokestatic 61, 3) := by decide +kernel
theorem dX5_compare_4 : decode prog_1_method_16_code 4 = .ok (.ifCond .eq 10, 3) := by decide +kernel
theorem dX5_compare_7 : decode prog_1_method_16_code 7 = .ok (.iload_n 2, 1) := by decide +kernel
theorem dX5_compare_8 : decode prog_1_method_16_code 8 = .ok (.invokestatic 61, 3) := by decide +kernel
theorem dX5_compare_11 : decode prog_1_method_16_code 11 = .ok (.ifCond .ne 6, 3) := by decide +kernel
theorem dX5_compare_14 : decode prog_1_method_16_code 14 = .ok (.bipush (-2), 2) := by decide +kernel
theorem dX5_compare_16 : decode prog_1_method_16_code 16 = .ok (.ireturn, 1) := by decide +kernel
theorem dX5_compare_17 : decode prog_1_method_16_code 17 = .ok (.aload_n 0, 1) := by decide +kernel
theorem dX5_compare_18 : decode prog_1_method_16_code 18 = .ok (.getfield 11, 3) := by decide +kernel
theorem dX5_compare_21 : decode prog_1_method_16_code 21 = .ok (.iload_n 1, 1) := by decide +kernel
theorem dX5_compare_22 : decode prog_1_method_16_code 22 = .ok (.aaload, 1) := by decide +kernel
theorem dX5_compare_23 : decode prog_1_method_16_code 23 = .ok (.astore_n 3, 1) := by decide +kernel
theorem dX5_compare_24 : decode prog_1_method_16_code 24 = .ok (.aload_n 0, 1) := by decide +kernel
theorem dX5_compare_25 : decode prog_1_method_16_code 25 = .ok (.getfield 11, 3) := by decide +kernel
theorem dX5_compare_28 : decode prog_1_method_16_code 28 = .ok (.iload_n 2, 1) := by decide +kernel
theorem dX5_compare_29 : decode prog_1_method_16_code 29 = .ok (.aaload, 1) := by decide +kernel
theorem dX5_compare_30 : decode prog_1_method_16_code 30 = .ok (.astore 4, 2) := by decide +kernel
theorem dX5_compare_32 : decode prog_1_method_16_code 32 = .ok (.aload_n 3, 1) := by decide +kernel
theorem dX5_compare_33 : decode prog_1_method_16_code 33 = .ok (.invokevirtual 177, 3) := by decide +kernel
theorem dX5_compare_36 : decode prog_1_method_16_code 36 = .ok (.aload 4, 2) := by decide +kernel
theorem dX5_compare_38 : decode prog_1_method_16_code 38 = .ok (.invokevirtual 177, 3) := by decide +kernel
theorem dX5_compare_41 : decode prog_1_method_16_code 41 = .ok (.isub, 1) := by decide +kernel
theorem dX5_compare_42 : decode prog_1_method_16_code 42 = .ok (.istore 5, 2) := by decide +kernel
theorem dX5_compare_44 : decode prog_1_method_16_code 44 = .ok (.iload 5, 2) := by decide +kernel
theorem dX5_compare_46 : decode prog_1_method_16_code 46 = .ok (.ifCond .eq 14, 3) := by decide +kernel
theorem dX5_compare_49 : decode prog_1_method_16_code 49 = .ok (.iload 5, 2) := by decide +kernel
theorem dX5_compare_51 : decode prog_1_method_16_code 51 = .ok (.ifCond .le 7, 3) := by decide +kernel
theorem dX5_compare_54 : decode prog_1_method_16_code 54 = .ok (.iconst 1, 1) := by decide +kernel
theorem dX5_compare_55 : decode prog_1_method_16_code 55 = .ok (.goto 4, 3) := by decide +kernel
theorem dX5_compare_58 : decode prog_1_method_16_code 58 = .ok (.iconst (-1), 1) := by decide +kernel
theorem dX5_compare_59 : decode prog_1_method_16_code 59 = .ok (.ireturn, 1) := by decide +kernel
theorem dX5_compare_60 : decode prog_1_method_16_code 60 = .ok (.aload_n 3, 1) := by decide +kernel
theorem dX5_compare_61 : decode prog_1_method_16_code 61 = .ok (.getfield 68, 3) := by decide +kernel
theorem dX5_compare_64 : decode prog_1_method_16_code 64 = .ok (.ifCond .eq 14, 3) := by decide +kernel
theorem dX5_compare_67 : decode prog_1_method_16_code 67 = .ok (.aload_n 0, 1) := by decide +kernel
theorem dX5_compare_68 : decode prog_1_method_16_code 68 = .ok (.aload_n 3, 1) := by decide +kernel
theorem dX5_compare_69 : decode prog_1_method_16_code 69 = .ok (.aload 4, 2) := by decide +kernel
theorem dX5_compare_71 : decode prog_1_method_16_code 71 = .ok (.invokevirtual 180, 3) := by decide +kernel
theorem dX5_compare_74 : decode prog_1_method_16_code 74 = .ok (.ineg, 1) := by decide +kernel
theorem dX5_compare_75 : decode prog_1_method_16_code 75 = .ok (.goto 10, 3) := by decide +kernel
theorem dX5_compare_78 : decode prog_1_method_16_code 78 = .ok (.aload_n 0, 1) := by decide +kernel
theorem dX5_compare_79 : decode prog_1_method_16_code 79 = .ok (.aload_n 3, 1) := by decide +kernel
theorem dX5_compare_80 : decode prog_1_method_16_code 80 = .ok (.aload 4, 2) := by decide +kernel
theorem dX5_compare_82 : decode prog_1_method_16_code 82 = .ok (.invokevirtual 180, 3) := by decide +kernel
theorem dX5_compare_85 : decode prog_1_method_16_code 85 = .ok (.ireturn, 1) := by decide +kernel
theorem dX5_sign_0 : decode prog_1_method_17_code 0 = .ok (.iload_n 1, 1) := by decide +kernel
theorem dX5_sign_1 : decode prog_1_method_17_code 1 = .ok (.invokestatic 61, 3) := by decide +kernel
theorem dX5_sign_4 : decode prog_1_method_17_code 4 = .ok (.ifCond .eq 15, 3) := by decide +kernel
theorem dX5_sign_7 : decode prog_1_method_17_code 7 = .ok (.aload_n 0, 1) := by decide +kernel
theorem dX5_sign_8 : decode prog_1_method_17_code 8 = .ok (.getfield 11, 3) := by decide +kernel
theorem dX5_sign_11 : decode prog_1_method_17_code 11 = .ok (.iload_n 1, 1) := by decide +kernel
theorem dX5_sign_12 : decode prog_1_method_17_code 12 = .ok (.aaload, 1) := by decide +kernel
theorem dX5_sign_13 : decode prog_1_method_17_code 13 = .ok (.invokevirtual 177, 3) := by decide +kernel
theorem dX5_sign_16 : decode prog_1_method_17_code 16 = .ok (.goto 5, 3) := by decide +kernel
theorem dX5_sign_19 : decode prog_1_method_17_code 19 = .ok (.bipush (-2), 2) := by decide +kernel
theorem dX5_sign_21 : decode prog_1_method_17_code 21 = .ok (.ireturn, 1) := by decide +kernel
theorem dX5_precision_0 : decode prog_1_method_18_code 0 = .ok (.iload_n 1, 1) := by decide +kernel
theorem dX5_precision_1 : decode prog_1_method_18_code 1 = .ok (.invokestatic 61, 3) := by decide +kernel
theorem dX5_precision_4 : decode prog_1_method_18_code 4 = .ok (.ifCond .eq 18, 3) := by decide +kernel
theorem dX5_precision_7 : decode prog_1_method_18_code 7 = .ok (.aload_n 0, 1) := by decide +kernel
theorem dX5_precision_8 : decode prog_1_method_18_code 8 = .ok (.getfield 11, 3) := by decide +kernel
theorem dX5_precision_11 : decode prog_1_method_18_code 11 = .ok (.iload_n 1, 1) := by decide +kernel
theorem dX5_precision_12 : decode prog_1_method_18_code 12 = .ok (.aaload, 1) := by decide +kernel
theorem dX5_precision_13 : decode prog_1_method_18_code 13 = .ok (.getfield 65, 3) := by decide +kernel
theorem dX5_precision_16 : decode prog_1_method_18_code 16 = .ok (.invokevirtual 98, 3) := by decide +kernel
theorem dX5_precision_19 : decode prog_1_method_18_code 19 = .ok (.goto 4, 3) := by decide +kernel
theorem dX5_precision_22 : decode prog_1_method_18_code 22 = .ok (.iconst (-1), 1) := by decide +kernel
theorem dX5_precision_23 : decode prog_1_method_18_code 23 = .ok (.ireturn, 1) := by decide +kernel
theorem dX5_scale_0 : decode prog_1_method_19_code 0 = .ok (.iload_n 1, 1) := by decide +kernel
theorem dX5_scale_1 : decode prog_1_method_19_code 1 = .ok (.invokestatic 61, 3) := by decide +kernel
theorem dX5_scale_4 : decode prog_1_method_19_code 4 = .ok (.ifCond .eq 15, 3) := by decide +kernel
theorem dX5_scale_7 : decode prog_1_method_19_code 7 = .ok (.aload_n 0, 1) := by decide +kernel
theorem dX5_scale_8 : decode prog_1_method_19_code 8 = .ok (.getfield 11, 3) := by decide +kernel
theorem dX5_scale_11 : decode prog_1_method_19_code 11 = .ok (.iload_n 1, 1) := by decide +kernel
theorem dX5_scale_12 : decode prog_1_method_19_code 12 = .ok (.aaload, 1) := by decide +kernel
theorem dX5_scale_13 : decode prog_1_method_19_code 13 = .ok (.getfield 72, 3) := by decide +kernel
theorem dX5_scale_16 : decode prog_1_method_19_code 16 = .ok (.goto 4, 3) := by decide +kernel
theorem dX5_scale_19 : decode prog_1_method_19_code 19 = .ok (.iconst 0, 1) := by decide +kernel
theorem dX5_scale_20 : decode prog_1_method_19_code 20 = .ok (.ireturn, 1) := by decide +kernel
theorem dX5_digit_0 : decode prog_1_method_20_code 0 = .ok (.iload_n 1, 1) := by decide +kernel
theorem dX5_digit_1 : decode prog_1_method_20_code 1 = .ok (.invokestatic 61, 3) := by decide +kernel
theorem dX5_digit_4 : decode prog_1_method_20_code 4 = .ok (.ifCond .eq 23, 3) := by decide +kernel
theorem dX5_digit_7 : decode prog_1_method_20_code 7 = .ok (.iload_n 2, 1) := by decide +kernel
theorem dX5_digit_8 : decode prog_1_method_20_code 8 = .ok (.ifCond .lt 19, 3) := by decide +kernel
theorem dX5_digit_11 : decode prog_1_method_20_code 11 = .ok (.iload_n 2, 1) := by decide +kernel
theorem dX5_digit_12 : decode prog_1_method_20_code 12 = .ok (.aload_n 0, 1) := by decide +kernel
theorem dX5_digit_13 : decode prog_1_method_20_code 13 = .ok (.getfield 11, 3) := by decide +kernel
theorem dX5_digit_16 : decode prog_1_method_20_code 16 = .ok (.iload_n 1, 1) := by decide +kernel
theorem dX5_digit_17 : decode prog_1_method_20_code 17 = .ok (.aaload, 1) := by decide +kernel
theorem dX5_digit_18 : decode prog_1_method_20_code 18 = .ok (.getfield 65, 3) := by decide +kernel
theorem dX5_digit_21 : decode prog_1_method_20_code 21 = .ok (.invokevirtual 98, 3) := by decide +kernel
theorem dX5_digit_24 : decode prog_1_method_20_code 24 = .ok (.if_icmp .lt 5, 3) := by decide +kernel
theorem dX5_digit_27 : decode prog_1_method_20_code 27 = .ok (.iconst (-1), 1) := by decide +kernel
theorem dX5_digit_28 : decode prog_1_method_20_code 28 = .ok (.ireturn, 1) := by decide +kernel
theorem dX5_digit_29 : decode prog_1_method_20_code 29 = .ok (.aload_n 0, 1) := by decide +kernel
theorem dX5_digit_30 : decode prog_1_method_20_code 30 = .ok (.getfield 11, 3) := by decide +kernel
theorem dX5_digit_33 : decode prog_1_method_20_code 33 = .ok (.iload_n 1, 1) := by decide +kernel
theorem dX5_digit_34 : decode prog_1_method_20_code 34 = .ok (.aaload, 1) := by decide +kernel
theorem dX5_digit_35 : decode prog_1_method_20_code 35 = .ok (.getfield 65, 3) := by decide +kernel
theorem dX5_digit_38 : decode prog_1_method_20_code 38 = .ok (.iload_n 2, 1) := by decide +kernel
theorem dX5_digit_39 : decode prog_1_method_20_code 39 = .ok (.invokevirtual 184, 3) := by decide +kernel
theorem dX5_digit_42 : decode prog_1_method_20_code 42 = .ok (.ireturn, 1) := by decide +kernel
theorem dX5_type_0 : decode prog_1_method_21_code 0 = .ok (.iconst 0, 1) := by decide +kernel
theorem dX5_type_1 : decode prog_1_method_21_code 1 = .ok (.istore_n 3, 1) := by decide +kernel
theorem dX5_type_2 : decode prog_1_method_21_code 2 = .ok (.bipush 56, 2) := by decide +kernel
theorem dX5_type_4 : decode prog_1_method_21_code 4 = .ok (.istore 4, 2) := by decide +kernel
theorem dX5_type_6 : decode prog_1_method_21_code 6 = .ok (.iload 4, 2) := by decide +kernel
theorem dX5_type_8 : decode prog_1_method_21_code 8 = .ok (.ifCond .lt 37, 3) := by decide +kernel
theorem dX5_type_11 : decode prog_1_method_21_code 11 = .ok (.lload_n 1, 1) := by decide +kernel
theorem dX5_type_12 : decode prog_1_method_21_code 12 = .ok (.iload 4, 2) := by decide +kernel
theorem dX5_type_14 : decode prog_1_method_21_code 14 = .ok (.lushr, 1) := by decide +kernel
theorem dX5_type_15 : decode prog_1_method_21_code 15 = .ok (.l2i, 1) := by decide +kernel
theorem dX5_type_16 : decode prog_1_method_21_code 16 = .ok (.sipush 255, 3) := by decide +kernel
theorem dX5_type_19 : decode prog_1_method_21_code 19 = .ok (.iand, 1) := by decide +kernel
theorem dX5_type_20 : decode prog_1_method_21_code 20 = .ok (.istore 5, 2) := by decide +kernel
theorem dX5_type_22 : decode prog_1_method_21_code 22 = .ok (.iload 5, 2) := by decide +kernel
theorem dX5_type_24 : decode prog_1_method_21_code 24 = .ok (.bipush 126, 2) := by decide +kernel
theorem dX5_type_26 : decode prog_1_method_21_code 26 = .ok (.if_icmp .le 5, 3) := by decide +kernel
theorem dX5_type_29 : decode prog_1_method_21_code 29 = .ok (.iconst 0, 1) := by decide +kernel
theorem dX5_type_30 : decode prog_1_method_21_code 30 = .ok (.ireturn, 1) := by decide +kernel
theorem dX5_type_31 : decode prog_1_method_21_code 31 = .ok (.iload 5, 2) := by decide +kernel
theorem dX5_type_33 : decode prog_1_method_21_code 33 = .ok (.ifCond .eq 6, 3) := by decide +kernel
theorem dX5_type_36 : decode prog_1_method_21_code 36 = .ok (.iinc 3 1, 3) := by decide +kernel
theorem dX5_type_39 : decode prog_1_method_21_code 39 = .ok (.iinc 4 (-8), 3) := by decide +kernel
theorem dX5_type_42 : decode prog_1_method_21_code 42 = .ok (.goto (-36), 3) := by decide +kernel
theorem dX5_type_45 : decode prog_1_method_21_code 45 = .ok (.aload_n 0, 1) := by decide +kernel
theorem dX5_type_46 : decode prog_1_method_21_code 46 = .ok (.getfield 31, 3) := by decide +kernel
theorem dX5_type_49 : decode prog_1_method_21_code 49 = .ok (.getfield 188, 3) := by decide +kernel
theorem dX5_type_52 : decode prog_1_method_21_code 52 = .ok (.iload_n 3, 1) := by decide +kernel
theorem dX5_type_53 : decode prog_1_method_21_code 53 = .ok (.iadd, 1) := by decide +kernel
theorem dX5_type_54 : decode prog_1_method_21_code 54 = .ok (.sipush 6000, 3) := by decide +kernel
theorem dX5_type_57 : decode prog_1_method_21_code 57 = .ok (.if_icmp .le 5, 3) := by decide +kernel
theorem dX5_type_60 : decode prog_1_method_21_code 60 = .ok (.iconst 0, 1) := by decide +kernel
theorem dX5_type_61 : decode prog_1_method_21_code 61 = .ok (.ireturn, 1) := by decide +kernel
theorem dX5_type_62 : decode prog_1_method_21_code 62 = .ok (.aload_n 0, 1) := by decide +kernel
theorem dX5_type_63 : decode prog_1_method_21_code 63 = .ok (.getfield 31, 3) := by decide +kernel
theorem dX5_type_66 : decode prog_1_method_21_code 66 = .ok (.aload_n 0, 1) := by decide +kernel
theorem dX5_type_67 : decode prog_1_method_21_code 67 = .ok (.getfield 31, 3) := by decide +kernel
theorem dX5_type_70 : decode prog_1_method_21_code 70 = .ok (.getfield 188, 3) := by decide +kernel
theorem dX5_type_73 : decode prog_1_method_21_code 73 = .ok (.iload_n 3, 1) := by decide +kernel
theorem dX5_type_74 : decode prog_1_method_21_code 74 = .ok (.iadd, 1) := by decide +kernel
theorem dX5_type_75 : decode prog_1_method_21_code 75 = .ok (.invokevirtual 191, 3) := by decide +kernel
theorem dX5_type_78 : decode prog_1_method_21_code 78 = .ok (.bipush 56, 2) := by decide +kernel
theorem dX5_type_80 : decode prog_1_method_21_code 80 = .ok (.istore 4, 2) := by decide +kernel
theorem dX5_type_82 : decode prog_1_method_21_code 82 = .ok (.iload 4, 2) := by decide +kernel
theorem dX5_type_84 : decode prog_1_method_21_code 84 = .ok (.ifCond .lt 34, 3) := by decide +kernel
theorem dX5_type_87 : decode prog_1_method_21_code 87 = .ok (.lload_n 1, 1) := by decide +kernel
theorem dX5_type_88 : decode prog_1_method_21_code 88 = .ok (.iload 4, 2) := by decide +kernel
theorem dX5_type_90 : decode prog_1_method_21_code 90 = .ok (.lushr, 1) := by decide +kernel
theorem dX5_type_91 : decode prog_1_method_21_code 91 = .ok (.l2i, 1) := by decide +kernel
theorem dX5_type_92 : decode prog_1_method_21_code 92 = .ok (.sipush 255, 3) := by decide +kernel
theorem dX5_type_95 : decode prog_1_method_21_code 95 = .ok (.iand, 1) := by decide +kernel
theorem dX5_type_96 : decode prog_1_method_21_code 96 = .ok (.istore 5, 2) := by decide +kernel
theorem dX5_type_98 : decode prog_1_method_21_code 98 = .ok (.iload 5, 2) := by decide +kernel
theorem dX5_type_100 : decode prog_1_method_21_code 100 = .ok (.ifCond .eq 12, 3) := by decide +kernel
theorem dX5_type_103 : decode prog_1_method_21_code 103 = .ok (.aload_n 0, 1) := by decide +kernel
theorem dX5_type_104 : decode prog_1_method_21_code 104 = .ok (.getfield 31, 3) := by decide +kernel
theorem dX5_type_107 : decode prog_1_method_21_code 107 = .ok (.iload 5, 2) := by decide +kernel
theorem dX5_type_109 : decode prog_1_method_21_code 109 = .ok (.invokevirtual 194, 3) := by decide +kernel
theorem dX5_type_112 : decode prog_1_method_21_code 112 = .ok (.iinc 4 (-8), 3) := by decide +kernel
theorem dX5_type_115 : decode prog_1_method_21_code 115 = .ok (.goto (-33), 3) := by decide +kernel
theorem dX5_type_118 : decode prog_1_method_21_code 118 = .ok (.iconst 1, 1) := by decide +kernel
theorem dX5_type_119 : decode prog_1_method_21_code 119 = .ok (.ireturn, 1) := by decide +kernel
theorem dX5_read_0 : decode prog_1_method_22_code 0 = .ok (.aload_n 0, 1) := by decide +kernel
theorem dX5_read_1 : decode prog_1_method_22_code 1 = .ok (.getfield 41, 3) := by decide +kernel
theorem dX5_read_4 : decode prog_1_method_22_code 4 = .ok (.aload_n 0, 1) := by decide +kernel
theorem dX5_read_5 : decode prog_1_method_22_code 5 = .ok (.getfield 31, 3) := by decide +kernel
theorem dX5_read_8 : decode prog_1_method_22_code 8 = .ok (.invokevirtual 197, 3) := by decide +kernel
theorem dX5_read_11 : decode prog_1_method_22_code 11 = .ok (.istore_n 2, 1) := by decide +kernel
theorem dX5_read_12 : decode prog_1_method_22_code 12 = .ok (.iload_n 2, 1) := by decide +kernel
theorem dX5_read_13 : decode prog_1_method_22_code 13 = .ok (.ifCond .eq 28, 3) := by decide +kernel
theorem dX5_read_16 : decode prog_1_method_22_code 16 = .ok (.aload_n 0, 1) := by decide +kernel
theorem dX5_read_17 : decode prog_1_method_22_code 17 = .ok (.getfield 18, 3) := by decide +kernel
theorem dX5_read_20 : decode prog_1_method_22_code 20 = .ok (.aload_n 0, 1) := by decide +kernel
theorem dX5_read_21 : decode prog_1_method_22_code 21 = .ok (.getfield 31, 3) := by decide +kernel
theorem dX5_read_24 : decode prog_1_method_22_code 24 = .ok (.aload_n 0, 1) := by decide +kernel
theorem dX5_read_25 : decode prog_1_method_22_code 25 = .ok (.getfield 41, 3) := by decide +kernel
theorem dX5_read_28 : decode prog_1_method_22_code 28 = .ok (.getfield 201, 3) := by decide +kernel
theorem dX5_read_31 : decode prog_1_method_22_code 31 = .ok (.aload_n 0, 1) := by decide +kernel
theorem dX5_read_32 : decode prog_1_method_22_code 32 = .ok (.getfield 41, 3) := by decide +kernel
theorem dX5_read_35 : decode prog_1_method_22_code 35 = .ok (.getfield 204, 3) := by decide +kernel
theorem dX5_read_38 : decode prog_1_method_22_code 38 = .ok (.invokevirtual 207, 3) := by decide +kernel
theorem dX5_read_41 : decode prog_1_method_22_code 41 = .ok (.aload_n 0, 1) := by decide +kernel
theorem dX5_read_42 : decode prog_1_method_22_code 42 = .ok (.getfield 31, 3) := by decide +kernel
theorem dX5_read_45 : decode prog_1_method_22_code 45 = .ok (.iconst 0, 1) := by decide +kernel
theorem dX5_read_46 : decode prog_1_method_22_code 46 = .ok (.putfield 188, 3) := by decide +kernel
theorem dX5_read_49 : decode prog_1_method_22_code 49 = .ok (.iload_n 2, 1) := by decide +kernel
theorem dX5_read_50 : decode prog_1_method_22_code 50 = .ok (.ifCond .eq 42, 3) := by decide +kernel
theorem dX5_read_53 : decode prog_1_method_22_code 53 = .ok (.aload_n 0, 1) := by decide +kernel
theorem dX5_read_54 : decode prog_1_method_22_code 54 = .ok (.iload_n 1, 1) := by decide +kernel
theorem dX5_read_55 : decode prog_1_method_22_code 55 = .ok (.aload_n 0, 1) := by decide +kernel
theorem dX5_read_56 : decode prog_1_method_22_code 56 = .ok (.getfield 18, 3) := by decide +kernel
theorem dX5_read_59 : decode prog_1_method_22_code 59 = .ok (.aload_n 0, 1) := by decide +kernel
theorem dX5_read_60 : decode prog_1_method_22_code 60 = .ok (.getfield 41, 3) := by decide +kernel
theorem dX5_read_63 : decode prog_1_method_22_code 63 = .ok (.getfield 211, 3) := by decide +kernel
theorem dX5_read_66 : decode prog_1_method_22_code 66 = .ok (.aload_n 0, 1) := by decide +kernel
theorem dX5_read_67 : decode prog_1_method_22_code 67 = .ok (.getfield 41, 3) := by decide +kernel
theorem dX5_read_70 : decode prog_1_method_22_code 70 = .ok (.getfield 212, 3) := by decide +kernel
theorem dX5_read_73 : decode prog_1_method_22_code 73 = .ok (.i2l, 1) := by decide +kernel
theorem dX5_read_74 : decode prog_1_method_22_code 74 = .ok (.aload_n 0, 1) := by decide +kernel
theorem dX5_read_75 : decode prog_1_method_22_code 75 = .ok (.getfield 41, 3) := by decide +kernel
theorem dX5_read_78 : decode prog_1_method_22_code 78 = .ok (.getfield 215, 3) := by decide +kernel
theorem dX5_read_81 : decode prog_1_method_22_code 81 = .ok (.lsub, 1) := by decide +kernel
theorem dX5_read_82 : decode prog_1_method_22_code 82 = .ok (.invokevirtual 57, 3) := by decide +kernel
theorem dX5_read_85 : decode prog_1_method_22_code 85 = .ok (.ifCond .eq 7, 3) := by decide +kernel
theorem dX5_read_88 : decode prog_1_method_22_code 88 = .ok (.iconst 1, 1) := by decide +kernel
theorem dX5_read_89 : decode prog_1_method_22_code 89 = .ok (.goto 4, 3) := by decide +kernel
theorem dX5_read_92 : decode prog_1_method_22_code 92 = .ok (.iconst 0, 1) := by decide +kernel
theorem dX5_read_93 : decode prog_1_method_22_code 93 = .ok (.ireturn, 1) := by decide +kernel
theorem dX5_write_0 : decode prog_1_method_23_code 0 = .ok (.iload_n 1, 1) := by decide +kernel
theorem dX5_write_1 : decode prog_1_method_23_code 1 = .ok (.invokestatic 61, 3) := by decide +kernel
theorem dX5_write_4 : decode prog_1_method_23_code 4 = .ok (.ifCond .eq 12, 3) := by decide +kernel
theorem dX5_write_7 : decode prog_1_method_23_code 7 = .ok (.iload_n 2, 1) := by decide +kernel
theorem dX5_write_8 : decode prog_1_method_23_code 8 = .ok (.ifCond .lt 8, 3) := by decide +kernel
theorem dX5_write_11 : decode prog_1_method_23_code 11 = .ok (.iload_n 2, 1) := by decide +kernel
theorem dX5_write_12 : decode prog_1_method_23_code 12 = .ok (.iconst 2, 1) := by decide +kernel
theorem dX5_write_13 : decode prog_1_method_23_code 13 = .ok (.if_icmp .le 5, 3) := by decide +kernel
theorem dX5_write_16 : decode prog_1_method_23_code 16 = .ok (.iconst (-1), 1) := by decide +kernel
theorem dX5_write_17 : decode prog_1_method_23_code 17 = .ok (.ireturn, 1) := by decide +kernel
theorem dX5_write_18 : decode prog_1_method_23_code 18 = .ok (.aload_n 0, 1) := by decide +kernel
theorem dX5_write_19 : decode prog_1_method_23_code 19 = .ok (.getfield 11, 3) := by decide +kernel
theorem dX5_write_22 : decode prog_1_method_23_code 22 = .ok (.iload_n 1, 1) := by decide +kernel
theorem dX5_write_23 : decode prog_1_method_23_code 23 = .ok (.aaload, 1) := by decide +kernel
theorem dX5_write_24 : decode prog_1_method_23_code 24 = .ok (.astore_n 3, 1) := by decide +kernel
theorem dX5_write_25 : decode prog_1_method_23_code 25 = .ok (.aload_n 0, 1) := by decide +kernel
theorem dX5_write_26 : decode prog_1_method_23_code 26 = .ok (.getfield 48, 3) := by decide +kernel
theorem dX5_write_29 : decode prog_1_method_23_code 29 = .ok (.aload_n 3, 1) := by decide +kernel
theorem dX5_write_30 : decode prog_1_method_23_code 30 = .ok (.iload_n 2, 1) := by decide +kernel
theorem dX5_write_31 : decode prog_1_method_23_code 31 = .ok (.invokevirtual 219, 3) := by decide +kernel
theorem dX5_write_34 : decode prog_1_method_23_code 34 = .ok (.aload_n 0, 1) := by decide +kernel
theorem dX5_write_35 : decode prog_1_method_23_code 35 = .ok (.getfield 48, 3) := by decide +kernel
theorem dX5_write_38 : decode prog_1_method_23_code 38 = .ok (.invokevirtual 223, 3) := by decide +kernel
theorem dX5_write_41 : decode prog_1_method_23_code 41 = .ok (.ldc2_w 226, 3) := by decide +kernel
theorem dX5_write_44 : decode prog_1_method_23_code 44 = .ok (.lcmp, 1) := by decide +kernel
theorem dX5_write_45 : decode prog_1_method_23_code 45 = .ok (.ifCond .le 5, 3) := by decide +kernel
theorem dX5_write_48 : decode prog_1_method_23_code 48 = .ok (.iconst (-1), 1) := by decide +kernel
theorem dX5_write_49 : decode prog_1_method_23_code 49 = .ok (.ireturn, 1) := by decide +kernel
theorem dX5_write_50 : decode prog_1_method_23_code 50 = .ok (.aload_n 0, 1) := by decide +kernel
theorem dX5_write_51 : decode prog_1_method_23_code 51 = .ok (.getfield 48, 3) := by decide +kernel
theorem dX5_write_54 : decode prog_1_method_23_code 54 = .ok (.aload_n 3, 1) := by decide +kernel
theorem dX5_write_55 : decode prog_1_method_23_code 55 = .ok (.getfield 65, 3) := by decide +kernel
theorem dX5_write_58 : decode prog_1_method_23_code 58 = .ok (.aload_n 0, 1) := by decide +kernel
theorem dX5_write_59 : decode prog_1_method_23_code 59 = .ok (.getfield 35, 3) := by decide +kernel
theorem dX5_write_62 : decode prog_1_method_23_code 62 = .ok (.invokevirtual 228, 3) := by decide +kernel
theorem dX5_write_65 : decode prog_1_method_23_code 65 = .ok (.aload_n 0, 1) := by decide +kernel
theorem dX5_write_66 : decode prog_1_method_23_code 66 = .ok (.getfield 35, 3) := by decide +kernel
theorem dX5_write_69 : decode prog_1_method_23_code 69 = .ok (.getfield 188, 3) := by decide +kernel
theorem dX5_write_72 : decode prog_1_method_23_code 72 = .ok (.ireturn, 1) := by decide +kernel
theorem dX5_characterAt_0 : decode prog_1_method_24_code 0 = .ok (.aload_n 0, 1) := by decide +kernel
theorem dX5_characterAt_1 : decode prog_1_method_24_code 1 = .ok (.getfield 35, 3) := by decide +kernel
theorem dX5_characterAt_4 : decode prog_1_method_24_code 4 = .ok (.iload_n 1, 1) := by decide +kernel
theorem dX5_characterAt_5 : decode prog_1_method_24_code 5 = .ok (.invokevirtual 232, 3) := by decide +kernel
theorem dX5_characterAt_8 : decode prog_1_method_24_code 8 = .ok (.ireturn, 1) := by decide +kernel
theorem dX5_isRegister_0 : decode prog_1_method_25_code 0 = .ok (.iload_n 0, 1) := by decide +kernel
theorem dX5_isRegister_1 : decode prog_1_method_25_code 1 = .ok (.ifCond .lt 13, 3) := by decide +kernel
theorem dX5_isRegister_4 : decode prog_1_method_25_code 4 = .ok (.iload_n 0, 1) := by decide +kernel
theorem dX5_isRegister_5 : decode prog_1_method_25_code 5 = .ok (.bipush 8, 2) := by decide +kernel
theorem dX5_isRegister_7 : decode prog_1_method_25_code 7 = .ok (.if_icmp .ge 7, 3) := by decide +kernel
theorem dX5_isRegister_10 : decode prog_1_method_25_code 10 = .ok (.iconst 1, 1) := by decide +kernel
theorem dX5_isRegister_11 : decode prog_1_method_25_code 11 = .ok (.goto 4, 3) := by decide +kernel
theorem dX5_isRegister_14 : decode prog_1_method_25_code 14 = .ok (.iconst 0, 1) := by decide +kernel
theorem dX5_isRegister_15 : decode prog_1_method_25_code 15 = .ok (.ireturn, 1) := by decide +kernel
theorem dX5_isRounding_0 : decode prog_1_method_26_code 0 = .ok (.iload_n 0, 1) := by decide +kernel
theorem dX5_isRounding_1 : decode prog_1_method_26_code 1 = .ok (.ifCond .lt 13, 3) := by decide +kernel
theorem dX5_isRounding_4 : decode prog_1_method_26_code 4 = .ok (.iload_n 0, 1) := by decide +kernel
theorem dX5_isRounding_5 : decode prog_1_method_26_code 5 = .ok (.bipush 7, 2) := by decide +kernel
theorem dX5_isRounding_7 : decode prog_1_method_26_code 7 = .ok (.if_icmp .gt 7, 3) := by decide +kernel
theorem dX5_isRounding_10 : decode prog_1_method_26_code 10 = .ok (.iconst 1, 1) := by decide +kernel
theorem dX5_isRounding_11 : decode prog_1_method_26_code 11 = .ok (.goto 4, 3) := by decide +kernel
theorem dX5_isRounding_14 : decode prog_1_method_26_code 14 = .ok (.iconst 0, 1) := by decide +kernel
theorem dX5_isRounding_15 : decode prog_1_method_26_code 15 = .ok (.ireturn, 1) := by decide +kernel
theorem dX5_isPrecision_0 : decode prog_1_method_27_code 0 = .ok (.iload_n 0, 1) := by decide +kernel
theorem dX5_isPrecision_1 : decode prog_1_method_27_code 1 = .ok (.ifCond .lt 14, 3) := by decide +kernel
theorem dX5_isPrecision_4 : decode prog_1_method_27_code 4 = .ok (.iload_n 0, 1) := by decide +kernel
theorem dX5_isPrecision_5 : decode prog_1_method_27_code 5 = .ok (.sipush 4096, 3) := by decide +kernel
theorem dX5_isPrecision_8 : decode prog_1_method_27_code 8 = .ok (.if_icmp .gt 7, 3) := by decide +kernel
theorem dX5_isPrecision_11 : decode prog_1_method_27_code 11 = .ok (.iconst 1, 1) := by decide +kernel
theorem dX5_isPrecision_12 : decode prog_1_method_27_code 12 = .ok (.goto 4, 3) := by decide +kernel
theorem dX5_isPrecision_15 : decode prog_1_method_27_code 15 = .ok (.iconst 0, 1) := by decide +kernel
theorem dX5_isPrecision_16 : decode prog_1_method_27_code 16 = .ok (.ireturn, 1) := by decide +kernel
theorem dX5_fits_0 : decode prog_1_method_28_code 0 = .ok (.aload_n 0, 1) := by decide +kernel
theorem dX5_fits_1 : decode prog_1_method_28_code 1 = .ok (.invokevirtual 98, 3) := by decide +kernel
theorem dX5_fits_4 : decode prog_1_method_28_code 4 = .ok (.sipush 4096, 3) := by decide +kernel
theorem dX5_fits_7 : decode prog_1_method_28_code 7 = .ok (.if_icmp .gt 15, 3) := by decide +kernel
theorem dX5_fits_10 : decode prog_1_method_28_code 10 = .ok (.lload_n 1, 1) := by decide +kernel
theorem dX5_fits_11 : decode prog_1_method_28_code 11 = .ok (.lload_n 1, 1) := by decide +kernel
theorem dX5_fits_12 : decode prog_1_method_28_code 12 = .ok (.l2i, 1) := by decide +kernel
theorem dX5_fits_13 : decode prog_1_method_28_code 13 = .ok (.i2l, 1) := by decide +kernel
theorem dX5_fits_14 : decode prog_1_method_28_code 14 = .ok (.lcmp, 1) := by decide +kernel
theorem dX5_fits_15 : decode prog_1_method_28_code 15 = .ok (.ifCond .ne 7, 3) := by decide +kernel
theorem dX5_fits_18 : decode prog_1_method_28_code 18 = .ok (.iconst 1, 1) := by decide +kernel
theorem dX5_fits_19 : decode prog_1_method_28_code 19 = .ok (.goto 4, 3) := by decide +kernel
theorem dX5_fits_22 : decode prog_1_method_28_code 22 = .ok (.iconst 0, 1) := by decide +kernel
theorem dX5_fits_23 : decode prog_1_method_28_code 23 = .ok (.ireturn, 1) := by decide +kernel
theorem dX5_keep_0 : decode prog_1_method_29_code 0 = .ok (.iload_n 1, 1) := by decide +kernel
theorem dX5_keep_1 : decode prog_1_method_29_code 1 = .ok (.invokestatic 61, 3) := by decide +kernel
theorem dX5_keep_4 : decode prog_1_method_29_code 4 = .ok (.ifCond .eq 12, 3) := by decide +kernel
theorem dX5_keep_7 : decode prog_1_method_29_code 7 = .ok (.aload_n 2, 1) := by decide +kernel
theorem dX5_keep_8 : decode prog_1_method_29_code 8 = .ok (.lload 4, 2) := by decide +kernel
theorem dX5_keep_10 : decode prog_1_method_29_code 10 = .ok (.invokestatic 235, 3) := by decide +kernel
theorem dX5_keep_13 : decode prog_1_method_29_code 13 = .ok (.ifCond .ne 5, 3) := by decide +kernel
theorem dX5_keep_16 : decode prog_1_method_29_code 16 = .ok (.iconst 0, 1) := by decide +kernel
theorem dX5_keep_17 : decode prog_1_method_29_code 17 = .ok (.ireturn, 1) := by decide +kernel
theorem dX5_keep_18 : decode prog_1_method_29_code 18 = .ok (.aload_n 0, 1) := by decide +kernel
theorem dX5_keep_19 : decode prog_1_method_29_code 19 = .ok (.getfield 11, 3) := by decide +kernel
theorem dX5_keep_22 : decode prog_1_method_29_code 22 = .ok (.iload_n 1, 1) := by decide +kernel
theorem dX5_keep_23 : decode prog_1_method_29_code 23 = .ok (.aaload, 1) := by decide +kernel
theorem dX5_keep_24 : decode prog_1_method_29_code 24 = .ok (.aload_n 2, 1) := by decide +kernel
theorem dX5_keep_25 : decode prog_1_method_29_code 25 = .ok (.iload_n 3, 1) := by decide +kernel
theorem dX5_keep_26 : decode prog_1_method_29_code 26 = .ok (.lload 4, 2) := by decide +kernel
theorem dX5_keep_28 : decode prog_1_method_29_code 28 = .ok (.l2i, 1) := by decide +kernel
theorem dX5_keep_29 : decode prog_1_method_29_code 29 = .ok (.invokevirtual 239, 3) := by decide +kernel
theorem dX5_keep_32 : decode prog_1_method_29_code 32 = .ok (.iconst 1, 1) := by decide +kernel
theorem dX5_keep_33 : decode prog_1_method_29_code 33 = .ok (.ireturn, 1) := by decide +kernel
theorem dX5_sumUp_0 : decode prog_1_method_30_code 0 = .ok (.iload_n 2, 1) := by decide +kernel
theorem dX5_sumUp_1 : decode prog_1_method_30_code 1 = .ok (.invokestatic 61, 3) := by decide +kernel
theorem dX5_sumUp_4 : decode prog_1_method_30_code 4 = .ok (.ifCond .eq 10, 3) := by decide +kernel
theorem dX5_sumUp_7 : decode prog_1_method_30_code 7 = .ok (.iload_n 3, 1) := by decide +kernel
theorem dX5_sumUp_8 : decode prog_1_method_30_code 8 = .ok (.invokestatic 61, 3) := by decide +kernel
theorem dX5_sumUp_11 : decode prog_1_method_30_code 11 = .ok (.ifCond .ne 5, 3) := by decide +kernel
theorem dX5_sumUp_14 : decode prog_1_method_30_code 14 = .ok (.iconst 0, 1) := by decide +kernel
theorem dX5_sumUp_15 : decode prog_1_method_30_code 15 = .ok (.ireturn, 1) := by decide +kernel
theorem dX5_sumUp_16 : decode prog_1_method_30_code 16 = .ok (.aload_n 0, 1) := by decide +kernel
theorem dX5_sumUp_17 : decode prog_1_method_30_code 17 = .ok (.getfield 11, 3) := by decide +kernel
theorem dX5_sumUp_20 : decode prog_1_method_30_code 20 = .ok (.iload_n 2, 1) := by decide +kernel
theorem dX5_sumUp_21 : decode prog_1_method_30_code 21 = .ok (.aaload, 1) := by decide +kernel
theorem dX5_sumUp_22 : decode prog_1_method_30_code 22 = .ok (.astore 5, 2) := by decide +kernel
theorem dX5_sumUp_24 : decode prog_1_method_30_code 24 = .ok (.aload_n 0, 1) := by decide +kernel
theorem dX5_sumUp_25 : decode prog_1_method_30_code 25 = .ok (.getfield 11, 3) := by decide +kernel
theorem dX5_sumUp_28 : decode prog_1_method_30_code 28 = .ok (.iload_n 3, 1) := by decide +kernel
theorem dX5_sumUp_29 : decode prog_1_method_30_code 29 = .ok (.aaload, 1) := by decide +kernel
theorem dX5_sumUp_30 : decode prog_1_method_30_code 30 = .ok (.astore 6, 2) := by decide +kernel
theorem dX5_sumUp_32 : decode prog_1_method_30_code 32 = .ok (.aload 5, 2) := by decide +kernel
theorem dX5_sumUp_34 : decode prog_1_method_30_code 34 = .ok (.getfield 72, 3) := by decide +kernel
theorem dX5_sumUp_37 : decode prog_1_method_30_code 37 = .ok (.aload 6, 2) := by decide +kernel
theorem dX5_sumUp_39 : decode prog_1_method_30_code 39 = .ok (.getfield 72, 3) := by decide +kernel
theorem dX5_sumUp_42 : decode prog_1_method_30_code 42 = .ok (.invokestatic 130, 3) := by decide +kernel
theorem dX5_sumUp_45 : decode prog_1_method_30_code 45 = .ok (.istore 7, 2) := by decide +kernel
theorem dX5_sumUp_47 : decode prog_1_method_30_code 47 = .ok (.aload_n 0, 1) := by decide +kernel
theorem dX5_sumUp_48 : decode prog_1_method_30_code 48 = .ok (.getfield 18, 3) := by decide +kernel
theorem dX5_sumUp_51 : decode prog_1_method_30_code 51 = .ok (.aload 5, 2) := by decide +kernel
theorem dX5_sumUp_53 : decode prog_1_method_30_code 53 = .ok (.iload 7, 2) := by decide +kernel
theorem dX5_sumUp_55 : decode prog_1_method_30_code 55 = .ok (.invokestatic 242, 3) := by decide +kernel
theorem dX5_sumUp_58 : decode prog_1_method_30_code 58 = .ok (.ifCond .eq 17, 3) := by decide +kernel
theorem dX5_sumUp_61 : decode prog_1_method_30_code 61 = .ok (.aload_n 0, 1) := by decide +kernel
theorem dX5_sumUp_62 : decode prog_1_method_30_code 62 = .ok (.getfield 25, 3) := by decide +kernel
theorem dX5_sumUp_65 : decode prog_1_method_30_code 65 = .ok (.aload 6, 2) := by decide +kernel
theorem dX5_sumUp_67 : decode prog_1_method_30_code 67 = .ok (.iload 7, 2) := by decide +kernel
theorem dX5_sumUp_69 : decode prog_1_method_30_code 69 = .ok (.invokestatic 242, 3) := by decide +kernel
theorem dX5_sumUp_72 : decode prog_1_method_30_code 72 = .ok (.ifCond .ne 5, 3) := by decide +kernel
theorem dX5_sumUp_75 : decode prog_1_method_30_code 75 = .ok (.iconst 0, 1) := by decide +kernel
theorem dX5_sumUp_76 : decode prog_1_method_30_code 76 = .ok (.ireturn, 1) := by decide +kernel
theorem dX5_sumUp_77 : decode prog_1_method_30_code 77 = .ok (.aload 6, 2) := by decide +kernel
theorem dX5_sumUp_79 : decode prog_1_method_30_code 79 = .ok (.getfield 68, 3) := by decide +kernel
theorem dX5_sumUp_82 : decode prog_1_method_30_code 82 = .ok (.iload 4, 2) := by decide +kernel
theorem dX5_sumUp_84 : decode prog_1_method_30_code 84 = .ok (.if_icmp .eq 7, 3) := by decide +kernel
theorem dX5_sumUp_87 : decode prog_1_method_30_code 87 = .ok (.iconst 1, 1) := by decide +kernel
theorem dX5_sumUp_88 : decode prog_1_method_30_code 88 = .ok (.goto 4, 3) := by decide +kernel
theorem dX5_sumUp_91 : decode prog_1_method_30_code 91 = .ok (.iconst 0, 1) := by decide +kernel
theorem dX5_sumUp_92 : decode prog_1_method_30_code 92 = .ok (.istore 8, 2) := by decide +kernel
theorem dX5_sumUp_94 : decode prog_1_method_30_code 94 = .ok (.aload 5, 2) := by decide +kernel
theorem dX5_sumUp_96 : decode prog_1_method_30_code 96 = .ok (.getfield 68, 3) := by decide +kernel
theorem dX5_sumUp_99 : decode prog_1_method_30_code 99 = .ok (.iload 8, 2) := by decide +kernel
theorem dX5_sumUp_101 : decode prog_1_method_30_code 101 = .ok (.if_icmp .ne 36, 3) := by decide +kernel
theorem dX5_sumUp_104 : decode prog_1_method_30_code 104 = .ok (.aload_n 0, 1) := by decide +kernel
theorem dX5_sumUp_105 : decode prog_1_method_30_code 105 = .ok (.getfield 22, 3) := by decide +kernel
theorem dX5_sumUp_108 : decode prog_1_method_30_code 108 = .ok (.aload_n 0, 1) := by decide +kernel
theorem dX5_sumUp_109 : decode prog_1_method_30_code 109 = .ok (.getfield 18, 3) := by decide +kernel
theorem dX5_sumUp_112 : decode prog_1_method_30_code 112 = .ok (.aload_n 0, 1) := by decide +kernel
theorem dX5_sumUp_113 : decode prog_1_method_30_code 113 = .ok (.getfield 25, 3) := by decide +kernel
theorem dX5_sumUp_116 : decode prog_1_method_30_code 116 = .ok (.invokevirtual 246, 3) := by decide +kernel
theorem dX5_sumUp_119 : decode prog_1_method_30_code 119 = .ok (.aload_n 0, 1) := by decide +kernel
theorem dX5_sumUp_120 : decode prog_1_method_30_code 120 = .ok (.iload_n 1, 1) := by decide +kernel
theorem dX5_sumUp_121 : decode prog_1_method_30_code 121 = .ok (.aload_n 0, 1) := by decide +kernel
theorem dX5_sumUp_122 : decode prog_1_method_30_code 122 = .ok (.getfield 22, 3) := by decide +kernel
theorem dX5_sumUp_125 : decode prog_1_method_30_code 125 = .ok (.aload 5, 2) := by decide +kernel
theorem dX5_sumUp_127 : decode prog_1_method_30_code 127 = .ok (.getfield 68, 3) := by decide +kernel
theorem dX5_sumUp_130 : decode prog_1_method_30_code 130 = .ok (.iload 7, 2) := by decide +kernel
theorem dX5_sumUp_132 : decode prog_1_method_30_code 132 = .ok (.i2l, 1) := by decide +kernel
theorem dX5_sumUp_133 : decode prog_1_method_30_code 133 = .ok (.invokevirtual 57, 3) := by decide +kernel
theorem dX5_sumUp_136 : decode prog_1_method_30_code 136 = .ok (.ireturn, 1) := by decide +kernel
theorem dX5_sumUp_137 : decode prog_1_method_30_code 137 = .ok (.aload_n 0, 1) := by decide +kernel
theorem dX5_sumUp_138 : decode prog_1_method_30_code 138 = .ok (.getfield 18, 3) := by decide +kernel
theorem dX5_sumUp_141 : decode prog_1_method_30_code 141 = .ok (.aload_n 0, 1) := by decide +kernel
theorem dX5_sumUp_142 : decode prog_1_method_30_code 142 = .ok (.getfield 25, 3) := by decide +kernel
theorem dX5_sumUp_145 : decode prog_1_method_30_code 145 = .ok (.invokestatic 249, 3) := by decide +kernel
theorem dX5_sumUp_148 : decode prog_1_method_30_code 148 = .ok (.ifCond .lt 32, 3) := by decide +kernel
theorem dX5_sumUp_151 : decode prog_1_method_30_code 151 = .ok (.aload_n 0, 1) := by decide +kernel
theorem dX5_sumUp_152 : decode prog_1_method_30_code 152 = .ok (.getfield 18, 3) := by decide +kernel
theorem dX5_sumUp_155 : decode prog_1_method_30_code 155 = .ok (.aload_n 0, 1) := by decide +kernel
theorem dX5_sumUp_156 : decode prog_1_method_30_code 156 = .ok (.getfield 25, 3) := by decide +kernel
theorem dX5_sumUp_159 : decode prog_1_method_30_code 159 = .ok (.invokevirtual 253, 3) := by decide +kernel
theorem dX5_sumUp_162 : decode prog_1_method_30_code 162 = .ok (.aload_n 0, 1) := by decide +kernel
theorem dX5_sumUp_163 : decode prog_1_method_30_code 163 = .ok (.iload_n 1, 1) := by decide +kernel
theorem dX5_sumUp_164 : decode prog_1_method_30_code 164 = .ok (.aload_n 0, 1) := by decide +kernel
theorem dX5_sumUp_165 : decode prog_1_method_30_code 165 = .ok (.getfield 18, 3) := by decide +kernel
theorem dX5_sumUp_168 : decode prog_1_method_30_code 168 = .ok (.aload 5, 2) := by decide +kernel
theorem dX5_sumUp_170 : decode prog_1_method_30_code 170 = .ok (.getfield 68, 3) := by decide +kernel
theorem dX5_sumUp_173 : decode prog_1_method_30_code 173 = .ok (.iload 7, 2) := by decide +kernel
theorem dX5_sumUp_175 : decode prog_1_method_30_code 175 = .ok (.i2l, 1) := by decide +kernel
theorem dX5_sumUp_176 : decode prog_1_method_30_code 176 = .ok (.invokevirtual 57, 3) := by decide +kernel
theorem dX5_sumUp_179 : decode prog_1_method_30_code 179 = .ok (.ireturn, 1) := by decide +kernel
theorem dX5_sumUp_180 : decode prog_1_method_30_code 180 = .ok (.aload_n 0, 1) := by decide +kernel
theorem dX5_sumUp_181 : decode prog_1_method_30_code 181 = .ok (.getfield 25, 3) := by decide +kernel
theorem dX5_sumUp_184 : decode prog_1_method_30_code 184 = .ok (.aload_n 0, 1) := by decide +kernel
theorem dX5_sumUp_185 : decode prog_1_method_30_code 185 = .ok (.getfield 18, 3) := by decide +kernel
theorem dX5_sumUp_188 : decode prog_1_method_30_code 188 = .ok (.invokevirtual 253, 3) := by decide +kernel
theorem dX5_sumUp_191 : decode prog_1_method_30_code 191 = .ok (.aload_n 0, 1) := by decide +kernel
theorem dX5_sumUp_192 : decode prog_1_method_30_code 192 = .ok (.iload_n 1, 1) := by decide +kernel
theorem dX5_sumUp_193 : decode prog_1_method_30_code 193 = .ok (.aload_n 0, 1) := by decide +kernel
theorem dX5_sumUp_194 : decode prog_1_method_30_code 194 = .ok (.getfield 25, 3) := by decide +kernel
theorem dX5_sumUp_197 : decode prog_1_method_30_code 197 = .ok (.iload 8, 2) := by decide +kernel
theorem dX5_sumUp_199 : decode prog_1_method_30_code 199 = .ok (.iload 7, 2) := by decide +kernel
theorem dX5_sumUp_201 : decode prog_1_method_30_code 201 = .ok (.i2l, 1) := by decide +kernel
theorem dX5_sumUp_202 : decode prog_1_method_30_code 202 = .ok (.invokevirtual 57, 3) := by decide +kernel
theorem dX5_sumUp_205 : decode prog_1_method_30_code 205 = .ok (.ireturn, 1) := by decide +kernel
theorem dX5_align_0 : decode prog_1_method_31_code 0 = .ok (.aload_n 1, 1) := by decide +kernel
theorem dX5_align_1 : decode prog_1_method_31_code 1 = .ok (.getfield 65, 3) := by decide +kernel
theorem dX5_align_4 : decode prog_1_method_31_code 4 = .ok (.invokevirtual 84, 3) := by decide +kernel
theorem dX5_align_7 : decode prog_1_method_31_code 7 = .ok (.ifCond .eq 9, 3) := by decide +kernel
theorem dX5_align_10 : decode prog_1_method_31_code 10 = .ok (.aload_n 0, 1) := by decide +kernel
theorem dX5_align_11 : decode prog_1_method_31_code 11 = .ok (.invokevirtual 137, 3) := by decide +kernel
theorem dX5_align_14 : decode prog_1_method_31_code 14 = .ok (.iconst 1, 1) := by decide +kernel
theorem dX5_align_15 : decode prog_1_method_31_code 15 = .ok (.ireturn, 1) := by decide +kernel
theorem dX5_align_16 : decode prog_1_method_31_code 16 = .ok (.iload_n 2, 1) := by decide +kernel
theorem dX5_align_17 : decode prog_1_method_31_code 17 = .ok (.i2l, 1) := by decide +kernel
theorem dX5_align_18 : decode prog_1_method_31_code 18 = .ok (.aload_n 1, 1) := by decide +kernel
theorem dX5_align_19 : decode prog_1_method_31_code 19 = .ok (.getfield 72, 3) := by decide +kernel
theorem dX5_align_22 : decode prog_1_method_31_code 22 = .ok (.i2l, 1) := by decide +kernel
theorem dX5_align_23 : decode prog_1_method_31_code 23 = .ok (.lsub, 1) := by decide +kernel
theorem dX5_align_24 : decode prog_1_method_31_code 24 = .ok (.lstore_n 3, 1) := by decide +kernel
theorem dX5_align_25 : decode prog_1_method_31_code 25 = .ok (.aload_n 1, 1) := by decide +kernel
theorem dX5_align_26 : decode prog_1_method_31_code 26 = .ok (.getfield 65, 3) := by decide +kernel
theorem dX5_align_29 : decode prog_1_method_31_code 29 = .ok (.invokevirtual 98, 3) := by decide +kernel
theorem dX5_align_32 : decode prog_1_method_31_code 32 = .ok (.i2l, 1) := by decide +kernel
theorem dX5_align_33 : decode prog_1_method_31_code 33 = .ok (.lload_n 3, 1) := by decide +kernel
theorem dX5_align_34 : decode prog_1_method_31_code 34 = .ok (.ladd, 1) := by decide +kernel
theorem dX5_align_35 : decode prog_1_method_31_code 35 = .ok (.ldc2_w 256, 3) := by decide +kernel
theorem dX5_align_38 : decode prog_1_method_31_code 38 = .ok (.lcmp, 1) := by decide +kernel
theorem dX5_align_39 : decode prog_1_method_31_code 39 = .ok (.ifCond .le 5, 3) := by decide +kernel
theorem dX5_align_42 : decode prog_1_method_31_code 42 = .ok (.iconst 0, 1) := by decide +kernel
theorem dX5_align_43 : decode prog_1_method_31_code 43 = .ok (.ireturn, 1) := by decide +kernel
theorem dX5_align_44 : decode prog_1_method_31_code 44 = .ok (.aload_n 0, 1) := by decide +kernel
theorem dX5_align_45 : decode prog_1_method_31_code 45 = .ok (.aload_n 1, 1) := by decide +kernel
theorem dX5_align_46 : decode prog_1_method_31_code 46 = .ok (.getfield 65, 3) := by decide +kernel
theorem dX5_align_49 : decode prog_1_method_31_code 49 = .ok (.lload_n 3, 1) := by decide +kernel
theorem dX5_align_50 : decode prog_1_method_31_code 50 = .ok (.l2i, 1) := by decide +kernel
theorem dX5_align_51 : decode prog_1_method_31_code 51 = .ok (.invokevirtual 148, 3) := by decide +kernel
theorem dX5_align_54 : decode prog_1_method_31_code 54 = .ok (.iconst 1, 1) := by decide +kernel
theorem dX5_align_55 : decode prog_1_method_31_code 55 = .ok (.ireturn, 1) := by decide +kernel
theorem dX5_multiply_0 : decode prog_1_method_32_code 0 = .ok (.aload_n 1, 1) := by decide +kernel
theorem dX5_multiply_1 : decode prog_1_method_32_code 1 = .ok (.invokevirtual 84, 3) := by decide +kernel
theorem dX5_multiply_4 : decode prog_1_method_32_code 4 = .ok (.ifCond .ne 29, 3) := by decide +kernel
theorem dX5_multiply_7 : decode prog_1_method_32_code 7 = .ok (.aload_n 2, 1) := by decide +kernel
theorem dX5_multiply_8 : decode prog_1_method_32_code 8 = .ok (.invokevirtual 84, 3) := by decide +kernel
theorem dX5_multiply_11 : decode prog_1_method_32_code 11 = .ok (.ifCond .ne 22, 3) := by decide +kernel
theorem dX5_multiply_14 : decode prog_1_method_32_code 14 = .ok (.aload_n 1, 1) := by decide +kernel
theorem dX5_multiply_15 : decode prog_1_method_32_code 15 = .ok (.invokevirtual 98, 3) := by decide +kernel
theorem dX5_multiply_18 : decode prog_1_method_32_code 18 = .ok (.aload_n 2, 1) := by decide +kernel
theorem dX5_multiply_19 : decode prog_1_method_32_code 19 = .ok (.invokevirtual 98, 3) := by decide +kernel
theorem dX5_multiply_22 : decode prog_1_method_32_code 22 = .ok (.iadd, 1) := by decide +kernel
theorem dX5_multiply_23 : decode prog_1_method_32_code 23 = .ok (.iconst 1, 1) := by decide +kernel
theorem dX5_multiply_24 : decode prog_1_method_32_code 24 = .ok (.isub, 1) := by decide +kernel
theorem dX5_multiply_25 : decode prog_1_method_32_code 25 = .ok (.sipush 4096, 3) := by decide +kernel
theorem dX5_multiply_28 : decode prog_1_method_32_code 28 = .ok (.if_icmp .le 5, 3) := by decide +kernel
theorem dX5_multiply_31 : decode prog_1_method_32_code 31 = .ok (.iconst 0, 1) := by decide +kernel
theorem dX5_multiply_32 : decode prog_1_method_32_code 32 = .ok (.ireturn, 1) := by decide +kernel
theorem dX5_multiply_33 : decode prog_1_method_32_code 33 = .ok (.aload_n 0, 1) := by decide +kernel
theorem dX5_multiply_34 : decode prog_1_method_32_code 34 = .ok (.aload_n 1, 1) := by decide +kernel
theorem dX5_multiply_35 : decode prog_1_method_32_code 35 = .ok (.aload_n 2, 1) := by decide +kernel
theorem dX5_multiply_36 : decode prog_1_method_32_code 36 = .ok (.invokevirtual 258, 3) := by decide +kernel
theorem dX5_multiply_39 : decode prog_1_method_32_code 39 = .ok (.iconst 1, 1) := by decide +kernel
theorem dX5_multiply_40 : decode prog_1_method_32_code 40 = .ok (.ireturn, 1) := by decide +kernel
theorem dX5_keepPower_0 : decode prog_1_method_33_code 0 = .ok (.aload_n 2, 1) := by decide +kernel
theorem dX5_keepPower_1 : decode prog_1_method_33_code 1 = .ok (.invokevirtual 98, 3) := by decide +kernel
theorem dX5_keepPower_4 : decode prog_1_method_33_code 4 = .ok (.i2l, 1) := by decide +kernel
theorem dX5_keepPower_5 : decode prog_1_method_33_code 5 = .ok (.lconst 1, 1) := by decide +kernel
theorem dX5_keepPower_6 : decode prog_1_method_33_code 6 = .ok (.lsub, 1) := by decide +kernel
theorem dX5_keepPower_7 : decode prog_1_method_33_code 7 = .ok (.iload_n 3, 1) := by decide +kernel
theorem dX5_keepPower_8 : decode prog_1_method_33_code 8 = .ok (.i2l, 1) := by decide +kernel
theorem dX5_keepPower_9 : decode prog_1_method_33_code 9 = .ok (.lmul, 1) := by decide +kernel
theorem dX5_keepPower_10 : decode prog_1_method_33_code 10 = .ok (.ldc2_w 102, 3) := by decide +kernel
theorem dX5_keepPower_13 : decode prog_1_method_33_code 13 = .ok (.lcmp, 1) := by decide +kernel
theorem dX5_keepPower_14 : decode prog_1_method_33_code 14 = .ok (.ifCond .lt 5, 3) := by decide +kernel
theorem dX5_keepPower_17 : decode prog_1_method_33_code 17 = .ok (.iconst 0, 1) := by decide +kernel
theorem dX5_keepPower_18 : decode prog_1_method_33_code 18 = .ok (.ireturn, 1) := by decide +kernel
theorem dX5_keepPower_19 : decode prog_1_method_33_code 19 = .ok (.aload_n 0, 1) := by decide +kernel
theorem dX5_keepPower_20 : decode prog_1_method_33_code 20 = .ok (.getfield 18, 3) := by decide +kernel
theorem dX5_keepPower_23 : decode prog_1_method_33_code 23 = .ok (.astore 7, 2) := by decide +kernel
theorem dX5_keepPower_25 : decode prog_1_method_33_code 25 = .ok (.aload_n 0, 1) := by decide +kernel
theorem dX5_keepPower_26 : decode prog_1_method_33_code 26 = .ok (.getfield 22, 3) := by decide +kernel
theorem dX5_keepPower_29 : decode prog_1_method_33_code 29 = .ok (.astore 8, 2) := by decide +kernel
theorem dX5_keepPower_31 : decode prog_1_method_33_code 31 = .ok (.aload 7, 2) := by decide +kernel
theorem dX5_keepPower_33 : decode prog_1_method_33_code 33 = .ok (.aload_n 2, 1) := by decide +kernel
theorem dX5_keepPower_34 : decode prog_1_method_33_code 34 = .ok (.invokevirtual 140, 3) := by decide +kernel
theorem dX5_keepPower_37 : decode prog_1_method_33_code 37 = .ok (.bipush 30, 2) := by decide +kernel
theorem dX5_keepPower_39 : decode prog_1_method_33_code 39 = .ok (.iload_n 3, 1) := by decide +kernel
theorem dX5_keepPower_40 : decode prog_1_method_33_code 40 = .ok (.invokestatic 261, 3) := by decide +kernel
theorem dX5_keepPower_43 : decode prog_1_method_33_code 43 = .ok (.isub, 1) := by decide +kernel
theorem dX5_keepPower_44 : decode prog_1_method_33_code 44 = .ok (.istore 9, 2) := by decide +kernel
theorem dX5_keepPower_46 : decode prog_1_method_33_code 46 = .ok (.iload 9, 2) := by decide +kernel
theorem dX5_keepPower_48 : decode prog_1_method_33_code 48 = .ok (.ifCond .lt 69, 3) := by decide +kernel
theorem dX5_keepPower_51 : decode prog_1_method_33_code 51 = .ok (.aload 8, 2) := by decide +kernel
theorem dX5_keepPower_53 : decode prog_1_method_33_code 53 = .ok (.aload 7, 2) := by decide +kernel
theorem dX5_keepPower_55 : decode prog_1_method_33_code 55 = .ok (.aload 7, 2) := by decide +kernel
theorem dX5_keepPower_57 : decode prog_1_method_33_code 57 = .ok (.invokestatic 80, 3) := by decide +kernel
theorem dX5_keepPower_60 : decode prog_1_method_33_code 60 = .ok (.ifCond .ne 5, 3) := by decide +kernel
theorem dX5_keepPower_63 : decode prog_1_method_33_code 63 = .ok (.iconst 0, 1) := by decide +kernel
theorem dX5_keepPower_64 : decode prog_1_method_33_code 64 = .ok (.ireturn, 1) := by decide +kernel
theorem dX5_keepPower_65 : decode prog_1_method_33_code 65 = .ok (.aload 8, 2) := by decide +kernel
theorem dX5_keepPower_67 : decode prog_1_method_33_code 67 = .ok (.astore 10, 2) := by decide +kernel
theorem dX5_keepPower_69 : decode prog_1_method_33_code 69 = .ok (.aload 7, 2) := by decide +kernel
theorem dX5_keepPower_71 : decode prog_1_method_33_code 71 = .ok (.astore 8, 2) := by decide +kernel
theorem dX5_keepPower_73 : decode prog_1_method_33_code 73 = .ok (.aload 10, 2) := by decide +kernel
theorem dX5_keepPower_75 : decode prog_1_method_33_code 75 = .ok (.astore 7, 2) := by decide +kernel
theorem dX5_keepPower_77 : decode prog_1_method_33_code 77 = .ok (.iload_n 3, 1) := by decide +kernel
theorem dX5_keepPower_78 : decode prog_1_method_33_code 78 = .ok (.iload 9, 2) := by decide +kernel
theorem dX5_keepPower_80 : decode prog_1_method_33_code 80 = .ok (.ishr, 1) := by decide +kernel
theorem dX5_keepPower_81 : decode prog_1_method_33_code 81 = .ok (.iconst 1, 1) := by decide +kernel
theorem dX5_keepPower_82 : decode prog_1_method_33_code 82 = .ok (.iand, 1) := by decide +kernel
theorem dX5_keepPower_83 : decode prog_1_method_33_code 83 = .ok (.ifCond .eq 28, 3) := by decide +kernel
theorem dX5_keepPower_86 : decode prog_1_method_33_code 86 = .ok (.aload 8, 2) := by decide +kernel
theorem dX5_keepPower_88 : decode prog_1_method_33_code 88 = .ok (.aload 7, 2) := by decide +kernel
theorem dX5_keepPower_90 : decode prog_1_method_33_code 90 = .ok (.aload_n 2, 1) := by decide +kernel
theorem dX5_keepPower_91 : decode prog_1_method_33_code 91 = .ok (.invokestatic 80, 3) := by decide +kernel
theorem dX5_keepPower_94 : decode prog_1_method_33_code 94 = .ok (.ifCond .ne 5, 3) := by decide +kernel
theorem dX5_keepPower_97 : decode prog_1_method_33_code 97 = .ok (.iconst 0, 1) := by decide +kernel
theorem dX5_keepPower_98 : decode prog_1_method_33_code 98 = .ok (.ireturn, 1) := by decide +kernel
theorem dX5_keepPower_99 : decode prog_1_method_33_code 99 = .ok (.aload 8, 2) := by decide +kernel
theorem dX5_keepPower_101 : decode prog_1_method_33_code 101 = .ok (.astore 11, 2) := by decide +kernel
theorem dX5_keepPower_103 : decode prog_1_method_33_code 103 = .ok (.aload 7, 2) := by decide +kernel
theorem dX5_keepPower_105 : decode prog_1_method_33_code 105 = .ok (.astore 8, 2) := by decide +kernel
theorem dX5_keepPower_107 : decode prog_1_method_33_code 107 = .ok (.aload 11, 2) := by decide +kernel
theorem dX5_keepPower_109 : decode prog_1_method_33_code 109 = .ok (.astore 7, 2) := by decide +kernel
theorem dX5_keepPower_111 : decode prog_1_method_33_code 111 = .ok (.iinc 9 (-1), 3) := by decide +kernel
theorem dX5_keepPower_114 : decode prog_1_method_33_code 114 = .ok (.goto (-68), 3) := by decide +kernel
theorem dX5_keepPower_117 : decode prog_1_method_33_code 117 = .ok (.aload_n 0, 1) := by decide +kernel
theorem dX5_keepPower_118 : decode prog_1_method_33_code 118 = .ok (.iload_n 1, 1) := by decide +kernel
theorem dX5_keepPower_119 : decode prog_1_method_33_code 119 = .ok (.aload 7, 2) := by decide +kernel
theorem dX5_keepPower_121 : decode prog_1_method_33_code 121 = .ok (.iload 4, 2) := by decide +kernel
theorem dX5_keepPower_123 : decode prog_1_method_33_code 123 = .ok (.lload 5, 2) := by decide +kernel
theorem dX5_keepPower_125 : decode prog_1_method_33_code 125 = .ok (.invokevirtual 57, 3) := by decide +kernel
theorem dX5_keepPower_128 : decode prog_1_method_33_code 128 = .ok (.ireturn, 1) := by decide +kernel
theorem dX5_divideRaised_0 : decode prog_1_method_34_code 0 = .ok (.aload_n 0, 1) := by decide +kernel
theorem dX5_divideRaised_1 : decode prog_1_method_34_code 1 = .ok (.getfield 18, 3) := by decide +kernel
theorem dX5_divideRaised_4 : decode prog_1_method_34_code 4 = .ok (.aload_n 1, 1) := by decide +kernel
theorem dX5_divideRaised_5 : decode prog_1_method_34_code 5 = .ok (.iload_n 2, 1) := by decide +kernel
theorem dX5_divideRaised_6 : decode prog_1_method_34_code 6 = .ok (.invokevirtual 148, 3) := by decide +kernel
theorem dX5_divideRaised_9 : decode prog_1_method_34_code 9 = .ok (.aload_n 0, 1) := by decide +kernel
theorem dX5_divideRaised_10 : decode prog_1_method_34_code 10 = .ok (.getfield 18, 3) := by decide +kernel
theorem dX5_divideRaised_13 : decode prog_1_method_34_code 13 = .ok (.aload_n 0, 1) := by decide +kernel
theorem dX5_divideRaised_14 : decode prog_1_method_34_code 14 = .ok (.getfield 22, 3) := by decide +kernel
theorem dX5_divideRaised_17 : decode prog_1_method_34_code 17 = .ok (.aload_n 3, 1) := by decide +kernel
theorem dX5_divideRaised_18 : decode prog_1_method_34_code 18 = .ok (.invokevirtual 266, 3) := by decide +kernel
theorem dX5_divideRaised_21 : decode prog_1_method_34_code 21 = .ok (.aload_n 0, 1) := by decide +kernel
theorem dX5_divideRaised_22 : decode prog_1_method_34_code 22 = .ok (.getfield 18, 3) := by decide +kernel
theorem dX5_divideRaised_25 : decode prog_1_method_34_code 25 = .ok (.invokevirtual 84, 3) := by decide +kernel
theorem dX5_divideRaised_28 : decode prog_1_method_34_code 28 = .ok (.ifCond .ne 7, 3) := by decide +kernel
theorem dX5_divideRaised_31 : decode prog_1_method_34_code 31 = .ok (.iconst 1, 1) := by decide +kernel
theorem dX5_divideRaised_32 : decode prog_1_method_34_code 32 = .ok (.goto 4, 3) := by decide +kernel
theorem dX5_divideRaised_35 : decode prog_1_method_34_code 35 = .ok (.iconst 0, 1) := by decide +kernel
theorem dX5_divideRaised_36 : decode prog_1_method_34_code 36 = .ok (.ireturn, 1) := by decide +kernel
theorem dX5_cutQuotient_0 : decode prog_1_method_35_code 0 = .ok (.aload_n 0, 1) := by decide +kernel
theorem dX5_cutQuotient_1 : decode prog_1_method_35_code 1 = .ok (.getfield 22, 3) := by decide +kernel
theorem dX5_cutQuotient_4 : decode prog_1_method_35_code 4 = .ok (.iload_n 1, 1) := by decide +kernel
theorem dX5_cutQuotient_5 : decode prog_1_method_35_code 5 = .ok (.iload_n 2, 1) := by decide +kernel
theorem dX5_cutQuotient_6 : decode prog_1_method_35_code 6 = .ok (.invokevirtual 156, 3) := by decide +kernel
theorem dX5_cutQuotient_9 : decode prog_1_method_35_code 9 = .ok (.istore 5, 2) := by decide +kernel
theorem dX5_cutQuotient_11 : decode prog_1_method_35_code 11 = .ok (.iload 5, 2) := by decide +kernel
theorem dX5_cutQuotient_13 : decode prog_1_method_35_code 13 = .ok (.ifCond .eq 12, 3) := by decide +kernel
theorem dX5_cutQuotient_16 : decode prog_1_method_35_code 16 = .ok (.iload 4, 2) := by decide +kernel
theorem dX5_cutQuotient_18 : decode prog_1_method_35_code 18 = .ok (.bipush 7, 2) := by decide +kernel
theorem dX5_cutQuotient_20 : decode prog_1_method_35_code 20 = .ok (.if_icmp .ne 5, 3) := by decide +kernel
theorem dX5_cutQuotient_23 : decode prog_1_method_35_code 23 = .ok (.iconst 0, 1) := by decide +kernel
theorem dX5_cutQuotient_24 : decode prog_1_method_35_code 24 = .ok (.ireturn, 1) := by decide +kernel
theorem dX5_cutQuotient_25 : decode prog_1_method_35_code 25 = .ok (.iload 4, 2) := by decide +kernel
theorem dX5_cutQuotient_27 : decode prog_1_method_35_code 27 = .ok (.iload 5, 2) := by decide +kernel
theorem dX5_cutQuotient_29 : decode prog_1_method_35_code 29 = .ok (.iload_n 3, 1) := by decide +kernel
theorem dX5_cutQuotient_30 : decode prog_1_method_35_code 30 = .ok (.aload_n 0, 1) := by decide +kernel
theorem dX5_cutQuotient_31 : decode prog_1_method_35_code 31 = .ok (.getfield 22, 3) := by decide +kernel
theorem dX5_cutQuotient_34 : decode prog_1_method_35_code 34 = .ok (.invokevirtual 269, 3) := by decide +kernel
theorem dX5_cutQuotient_37 : decode prog_1_method_35_code 37 = .ok (.invokestatic 272, 3) := by decide +kernel
theorem dX5_cutQuotient_40 : decode prog_1_method_35_code 40 = .ok (.ifCond .eq 10, 3) := by decide +kernel
theorem dX5_cutQuotient_43 : decode prog_1_method_35_code 43 = .ok (.aload_n 0, 1) := by decide +kernel
theorem dX5_cutQuotient_44 : decode prog_1_method_35_code 44 = .ok (.getfield 22, 3) := by decide +kernel
theorem dX5_cutQuotient_47 : decode prog_1_method_35_code 47 = .ok (.invokevirtual 276, 3) := by decide +kernel
theorem dX5_cutQuotient_50 : decode prog_1_method_35_code 50 = .ok (.iconst 1, 1) := by decide +kernel
theorem dX5_cutQuotient_51 : decode prog_1_method_35_code 51 = .ok (.ireturn, 1) := by decide +kernel
theorem dX5_goesFarther_0 : decode prog_1_method_36_code 0 = .ok (.iload_n 1, 1) := by decide +kernel
theorem dX5_goesFarther_1 : decode prog_1_method_36_code 1 = .ok (.ifCond .ne 5, 3) := by decide +kernel
theorem dX5_goesFarther_4 : decode prog_1_method_36_code 4 = .ok (.iconst 0, 1) := by decide +kernel
theorem dX5_goesFarther_5 : decode prog_1_method_36_code 5 = .ok (.ireturn, 1) := by decide +kernel
theorem dX5_goesFarther_6 : decode prog_1_method_36_code 6 = .ok (.iload_n 0, 1) := by decide +kernel
theorem dX5_goesFarther_7 : decode prog_1_method_36_code 7 = .ok (.tableswitch 97 0 6 #[41, 97, 43, 53, 55, 66, 77], 41) := by decide +kernel
theorem dX5_goesFarther_48 : decode prog_1_method_36_code 48 = .ok (.iconst 1, 1) := by decide +kernel
theorem dX5_goesFarther_49 : decode prog_1_method_36_code 49 = .ok (.ireturn, 1) := by decide +kernel
theorem dX5_goesFarther_50 : decode prog_1_method_36_code 50 = .ok (.iload_n 2, 1) := by decide +kernel
theorem dX5_goesFarther_51 : decode prog_1_method_36_code 51 = .ok (.ifCond .ne 7, 3) := by decide +kernel
theorem dX5_goesFarther_54 : decode prog_1_method_36_code 54 = .ok (.iconst 1, 1) := by decide +kernel
theorem dX5_goesFarther_55 : decode prog_1_method_36_code 55 = .ok (.goto 4, 3) := by decide +kernel
theorem dX5_goesFarther_58 : decode prog_1_method_36_code 58 = .ok (.iconst 0, 1) := by decide +kernel
theorem dX5_goesFarther_59 : decode prog_1_method_36_code 59 = .ok (.ireturn, 1) := by decide +kernel
theorem dX5_goesFarther_60 : decode prog_1_method_36_code 60 = .ok (.iload_n 2, 1) := by decide +kernel
theorem dX5_goesFarther_61 : decode prog_1_method_36_code 61 = .ok (.ireturn, 1) := by decide +kernel
theorem dX5_goesFarther_62 : decode prog_1_method_36_code 62 = .ok (.iload_n 1, 1) := by decide +kernel
theorem dX5_goesFarther_63 : decode prog_1_method_36_code 63 = .ok (.iconst 2, 1) := by decide +kernel
theorem dX5_goesFarther_64 : decode prog_1_method_36_code 64 = .ok (.if_icmp .lt 7, 3) := by decide +kernel
theorem dX5_goesFarther_67 : decode prog_1_method_36_code 67 = .ok (.iconst 1, 1) := by decide +kernel
theorem dX5_goesFarther_68 : decode prog_1_method_36_code 68 = .ok (.goto 4, 3) := by decide +kernel
theorem dX5_goesFarther_71 : decode prog_1_method_36_code 71 = .ok (.iconst 0, 1) := by decide +kernel
theorem dX5_goesFarther_72 : decode prog_1_method_36_code 72 = .ok (.ireturn, 1) := by decide +kernel
theorem dX5_goesFarther_73 : decode prog_1_method_36_code 73 = .ok (.iload_n 1, 1) := by decide +kernel
theorem dX5_goesFarther_74 : decode prog_1_method_36_code 74 = .ok (.iconst 3, 1) := by decide +kernel
theorem dX5_goesFarther_75 : decode prog_1_method_36_code 75 = .ok (.if_icmp .ne 7, 3) := by decide +kernel
theorem dX5_goesFarther_78 : decode prog_1_method_36_code 78 = .ok (.iconst 1, 1) := by decide +kernel
theorem dX5_goesFarther_79 : decode prog_1_method_36_code 79 = .ok (.goto 4, 3) := by decide +kernel
theorem dX5_goesFarther_82 : decode prog_1_method_36_code 82 = .ok (.iconst 0, 1) := by decide +kernel
theorem dX5_goesFarther_83 : decode prog_1_method_36_code 83 = .ok (.ireturn, 1) := by decide +kernel
theorem dX5_goesFarther_84 : decode prog_1_method_36_code 84 = .ok (.iload_n 1, 1) := by decide +kernel
theorem dX5_goesFarther_85 : decode prog_1_method_36_code 85 = .ok (.iconst 3, 1) := by decide +kernel
theorem dX5_goesFarther_86 : decode prog_1_method_36_code 86 = .ok (.if_icmp .eq 12, 3) := by decide +kernel
theorem dX5_goesFarther_89 : decode prog_1_method_36_code 89 = .ok (.iload_n 1, 1) := by decide +kernel
theorem dX5_goesFarther_90 : decode prog_1_method_36_code 90 = .ok (.iconst 2, 1) := by decide +kernel
theorem dX5_goesFarther_91 : decode prog_1_method_36_code 91 = .ok (.if_icmp .ne 11, 3) := by decide +kernel
theorem dX5_goesFarther_94 : decode prog_1_method_36_code 94 = .ok (.iload_n 3, 1) := by decide +kernel
theorem dX5_goesFarther_95 : decode prog_1_method_36_code 95 = .ok (.ifCond .eq 7, 3) := by decide +kernel
theorem dX5_goesFarther_98 : decode prog_1_method_36_code 98 = .ok (.iconst 1, 1) := by decide +kernel
theorem dX5_goesFarther_99 : decode prog_1_method_36_code 99 = .ok (.goto 4, 3) := by decide +kernel
theorem dX5_goesFarther_102 : decode prog_1_method_36_code 102 = .ok (.iconst 0, 1) := by decide +kernel
theorem dX5_goesFarther_103 : decode prog_1_method_36_code 103 = .ok (.ireturn, 1) := by decide +kernel
theorem dX5_goesFarther_104 : decode prog_1_method_36_code 104 = .ok (.iconst 0, 1) := by decide +kernel
theorem dX5_goesFarther_105 : decode prog_1_method_36_code 105 = .ok (.ireturn, 1) := by decide +kernel
theorem dX5_keepRounded_0 : decode prog_1_method_37_code 0 = .ok (.aload_n 0, 1) := by decide +kernel
theorem dX5_keepRounded_1 : decode prog_1_method_37_code 1 = .ok (.getfield 22, 3) := by decide +kernel
theorem dX5_keepRounded_4 : decode prog_1_method_37_code 4 = .ok (.invokevirtual 98, 3) := by decide +kernel
theorem dX5_keepRounded_7 : decode prog_1_method_37_code 7 = .ok (.iload 6, 2) := by decide +kernel
theorem dX5_keepRounded_9 : decode prog_1_method_37_code 9 = .ok (.isub, 1) := by decide +kernel
theorem dX5_keepRounded_10 : decode prog_1_method_37_code 10 = .ok (.istore 8, 2) := by decide +kernel
theorem dX5_keepRounded_12 : decode prog_1_method_37_code 12 = .ok (.aload_n 0, 1) := by decide +kernel
theorem dX5_keepRounded_13 : decode prog_1_method_37_code 13 = .ok (.iload 8, 2) := by decide +kernel
theorem dX5_keepRounded_15 : decode prog_1_method_37_code 15 = .ok (.iload 5, 2) := by decide +kernel
theorem dX5_keepRounded_17 : decode prog_1_method_37_code 17 = .ok (.iload_n 2, 1) := by decide +kernel
theorem dX5_keepRounded_18 : decode prog_1_method_37_code 18 = .ok (.iload 7, 2) := by decide +kernel
theorem dX5_keepRounded_20 : decode prog_1_method_37_code 20 = .ok (.invokevirtual 119, 3) := by decide +kernel
theorem dX5_keepRounded_23 : decode prog_1_method_37_code 23 = .ok (.ifCond .ne 5, 3) := by decide +kernel
theorem dX5_keepRounded_26 : decode prog_1_method_37_code 26 = .ok (.iconst 0, 1) := by decide +kernel
theorem dX5_keepRounded_27 : decode prog_1_method_37_code 27 = .ok (.ireturn, 1) := by decide +kernel
theorem dX5_keepRounded_28 : decode prog_1_method_37_code 28 = .ok (.aload_n 0, 1) := by decide +kernel
theorem dX5_keepRounded_29 : decode prog_1_method_37_code 29 = .ok (.getfield 22, 3) := by decide +kernel
theorem dX5_keepRounded_32 : decode prog_1_method_37_code 32 = .ok (.invokevirtual 98, 3) := by decide +kernel
theorem dX5_keepRounded_35 : decode prog_1_method_37_code 35 = .ok (.iload 6, 2) := by decide +kernel
theorem dX5_keepRounded_37 : decode prog_1_method_37_code 37 = .ok (.if_icmp .le 14, 3) := by decide +kernel
theorem dX5_keepRounded_40 : decode prog_1_method_37_code 40 = .ok (.aload_n 0, 1) := by decide +kernel
theorem dX5_keepRounded_41 : decode prog_1_method_37_code 41 = .ok (.getfield 22, 3) := by decide +kernel
theorem dX5_keepRounded_44 : decode prog_1_method_37_code 44 = .ok (.iconst 1, 1) := by decide +kernel
theorem dX5_keepRounded_45 : decode prog_1_method_37_code 45 = .ok (.invokevirtual 173, 3) := by decide +kernel
theorem dX5_keepRounded_48 : decode prog_1_method_37_code 48 = .ok (.iinc 8 1, 3) := by decide +kernel
theorem dX5_keepRounded_51 : decode prog_1_method_37_code 51 = .ok (.aload_n 0, 1) := by decide +kernel
theorem dX5_keepRounded_52 : decode prog_1_method_37_code 52 = .ok (.iload_n 1, 1) := by decide +kernel
theorem dX5_keepRounded_53 : decode prog_1_method_37_code 53 = .ok (.aload_n 0, 1) := by decide +kernel
theorem dX5_keepRounded_54 : decode prog_1_method_37_code 54 = .ok (.getfield 22, 3) := by decide +kernel
theorem dX5_keepRounded_57 : decode prog_1_method_37_code 57 = .ok (.iload_n 2, 1) := by decide +kernel
theorem dX5_keepRounded_58 : decode prog_1_method_37_code 58 = .ok (.lload_n 3, 1) := by decide +kernel
theorem dX5_keepRounded_59 : decode prog_1_method_37_code 59 = .ok (.iload 8, 2) := by decide +kernel
theorem dX5_keepRounded_61 : decode prog_1_method_37_code 61 = .ok (.i2l, 1) := by decide +kernel
theorem dX5_keepRounded_62 : decode prog_1_method_37_code 62 = .ok (.lsub, 1) := by decide +kernel
theorem dX5_keepRounded_63 : decode prog_1_method_37_code 63 = .ok (.invokevirtual 57, 3) := by decide +kernel
theorem dX5_keepRounded_66 : decode prog_1_method_37_code 66 = .ok (.ireturn, 1) := by decide +kernel
theorem dX5_settle_0 : decode prog_1_method_38_code 0 = .ok (.aload_n 0, 1) := by decide +kernel
theorem dX5_settle_1 : decode prog_1_method_38_code 1 = .ok (.getfield 22, 3) := by decide +kernel
theorem dX5_settle_4 : decode prog_1_method_38_code 4 = .ok (.invokevirtual 170, 3) := by decide +kernel
theorem dX5_settle_7 : decode prog_1_method_38_code 7 = .ok (.istore 10, 2) := by decide +kernel
theorem dX5_settle_9 : decode prog_1_method_38_code 9 = .ok (.aload_n 0, 1) := by decide +kernel
theorem dX5_settle_10 : decode prog_1_method_38_code 10 = .ok (.getfield 22, 3) := by decide +kernel
theorem dX5_settle_13 : decode prog_1_method_38_code 13 = .ok (.invokevirtual 98, 3) := by decide +kernel
theorem dX5_settle_16 : decode prog_1_method_38_code 16 = .ok (.iload 10, 2) := by decide +kernel
theorem dX5_settle_18 : decode prog_1_method_38_code 18 = .ok (.isub, 1) := by decide +kernel
theorem dX5_settle_19 : decode prog_1_method_38_code 19 = .ok (.istore 11, 2) := by decide +kernel
theorem dX5_settle_21 : decode prog_1_method_38_code 21 = .ok (.iload 5, 2) := by decide +kernel
theorem dX5_settle_23 : decode prog_1_method_38_code 23 = .ok (.ifCond .ne 10, 3) := by decide +kernel
theorem dX5_settle_26 : decode prog_1_method_38_code 26 = .ok (.iload 11, 2) := by decide +kernel
theorem dX5_settle_28 : decode prog_1_method_38_code 28 = .ok (.iload 8, 2) := by decide +kernel
theorem dX5_settle_30 : decode prog_1_method_38_code 30 = .ok (.if_icmp .le 17, 3) := by decide +kernel
theorem dX5_settle_33 : decode prog_1_method_38_code 33 = .ok (.aload_n 0, 1) := by decide +kernel
theorem dX5_settle_34 : decode prog_1_method_38_code 34 = .ok (.iload_n 1, 1) := by decide +kernel
theorem dX5_settle_35 : decode prog_1_method_38_code 35 = .ok (.iload_n 2, 1) := by decide +kernel
theorem dX5_settle_36 : decode prog_1_method_38_code 36 = .ok (.lload_n 3, 1) := by decide +kernel
theorem dX5_settle_37 : decode prog_1_method_38_code 37 = .ok (.iload 5, 2) := by decide +kernel
theorem dX5_settle_39 : decode prog_1_method_38_code 39 = .ok (.iload 8, 2) := by decide +kernel
theorem dX5_settle_41 : decode prog_1_method_38_code 41 = .ok (.iload 9, 2) := by decide +kernel
theorem dX5_settle_43 : decode prog_1_method_38_code 43 = .ok (.invokevirtual 166, 3) := by decide +kernel
theorem dX5_settle_46 : decode prog_1_method_38_code 46 = .ok (.ireturn, 1) := by decide +kernel
theorem dX5_settle_47 : decode prog_1_method_38_code 47 = .ok (.lload_n 3, 1) := by decide +kernel
theorem dX5_settle_48 : decode prog_1_method_38_code 48 = .ok (.iload 10, 2) := by decide +kernel
theorem dX5_settle_50 : decode prog_1_method_38_code 50 = .ok (.i2l, 1) := by decide +kernel
theorem dX5_settle_51 : decode prog_1_method_38_code 51 = .ok (.lsub, 1) := by decide +kernel
theorem dX5_settle_52 : decode prog_1_method_38_code 52 = .ok (.lstore 12, 2) := by decide +kernel
theorem dX5_settle_54 : decode prog_1_method_38_code 54 = .ok (.lload 12, 2) := by decide +kernel
theorem dX5_settle_56 : decode prog_1_method_38_code 56 = .ok (.iload 8, 2) := by decide +kernel
theorem dX5_settle_58 : decode prog_1_method_38_code 58 = .ok (.i2l, 1) := by decide +kernel
theorem dX5_settle_59 : decode prog_1_method_38_code 59 = .ok (.ladd, 1) := by decide +kernel
theorem dX5_settle_60 : decode prog_1_method_38_code 60 = .ok (.iload 11, 2) := by decide +kernel
theorem dX5_settle_62 : decode prog_1_method_38_code 62 = .ok (.i2l, 1) := by decide +kernel
theorem dX5_settle_63 : decode prog_1_method_38_code 63 = .ok (.lsub, 1) := by decide +kernel
theorem dX5_settle_64 : decode prog_1_method_38_code 64 = .ok (.lstore 14, 2) := by decide +kernel
theorem dX5_settle_66 : decode prog_1_method_38_code 66 = .ok (.lload 12, 2) := by decide +kernel
theorem dX5_settle_68 : decode prog_1_method_38_code 68 = .ok (.lload 14, 2) := by decide +kernel
theorem dX5_settle_70 : decode prog_1_method_38_code 70 = .ok (.lload 6, 2) := by decide +kernel
theorem dX5_settle_72 : decode prog_1_method_38_code 72 = .ok (.invokestatic 116, 3) := by decide +kernel
theorem dX5_settle_75 : decode prog_1_method_38_code 75 = .ok (.invokestatic 104, 3) := by decide +kernel
theorem dX5_settle_78 : decode prog_1_method_38_code 78 = .ok (.lstore 16, 2) := by decide +kernel
theorem dX5_settle_80 : decode prog_1_method_38_code 80 = .ok (.aload_n 0, 1) := by decide +kernel
theorem dX5_settle_81 : decode prog_1_method_38_code 81 = .ok (.getfield 22, 3) := by decide +kernel
theorem dX5_settle_84 : decode prog_1_method_38_code 84 = .ok (.lload_n 3, 1) := by decide +kernel
theorem dX5_settle_85 : decode prog_1_method_38_code 85 = .ok (.lload 16, 2) := by decide +kernel
theorem dX5_settle_87 : decode prog_1_method_38_code 87 = .ok (.lsub, 1) := by decide +kernel
theorem dX5_settle_88 : decode prog_1_method_38_code 88 = .ok (.l2i, 1) := by decide +kernel
theorem dX5_settle_89 : decode prog_1_method_38_code 89 = .ok (.invokevirtual 173, 3) := by decide +kernel
theorem dX5_settle_92 : decode prog_1_method_38_code 92 = .ok (.aload_n 0, 1) := by decide +kernel
theorem dX5_settle_93 : decode prog_1_method_38_code 93 = .ok (.iload_n 1, 1) := by decide +kernel
theorem dX5_settle_94 : decode prog_1_method_38_code 94 = .ok (.aload_n 0, 1) := by decide +kernel
theorem dX5_settle_95 : decode prog_1_method_38_code 95 = .ok (.getfield 22, 3) := by decide +kernel
theorem dX5_settle_98 : decode prog_1_method_38_code 98 = .ok (.iload_n 2, 1) := by decide +kernel
theorem dX5_settle_99 : decode prog_1_method_38_code 99 = .ok (.lload 16, 2) := by decide +kernel
theorem dX5_settle_101 : decode prog_1_method_38_code 101 = .ok (.invokevirtual 57, 3) := by decide +kernel
theorem dX5_settle_104 : decode prog_1_method_38_code 104 = .ok (.ireturn, 1) := by decide +kernel
theorem dX5_keepExactRatio_0 : decode prog_1_method_39_code 0 = .ok (.sipush 4096, 3) := by decide +kernel
theorem dX5_keepExactRatio_3 : decode prog_1_method_39_code 3 = .ok (.aload_n 3, 1) := by decide +kernel
theorem dX5_keepExactRatio_4 : decode prog_1_method_39_code 4 = .ok (.getfield 65, 3) := by decide +kernel
theorem dX5_keepExactRatio_7 : decode prog_1_method_39_code 7 = .ok (.invokevirtual 98, 3) := by decide +kernel
theorem dX5_keepExactRatio_10 : decode prog_1_method_39_code 10 = .ok (.iadd, 1) := by decide +kernel
theorem dX5_keepExactRatio_11 : decode prog_1_method_39_code 11 = .ok (.aload_n 2, 1) := by decide +kernel
theorem dX5_keepExactRatio_12 : decode prog_1_method_39_code 12 = .ok (.getfield 65, 3) := by decide +kernel
theorem dX5_keepExactRatio_15 : decode prog_1_method_39_code 15 = .ok (.invokevirtual 98, 3) := by decide +kernel
theorem dX5_keepExactRatio_18 : decode prog_1_method_39_code 18 = .ok (.isub, 1) := by decide +kernel
theorem dX5_keepExactRatio_19 : decode prog_1_method_39_code 19 = .ok (.istore 6, 2) := by decide +kernel
theorem dX5_keepExactRatio_21 : decode prog_1_method_39_code 21 = .ok (.aload_n 0, 1) := by decide +kernel
theorem dX5_keepExactRatio_22 : decode prog_1_method_39_code 22 = .ok (.aload_n 2, 1) := by decide +kernel
theorem dX5_keepExactRatio_23 : decode prog_1_method_39_code 23 = .ok (.getfield 65, 3) := by decide +kernel
theorem dX5_keepExactRatio_26 : decode prog_1_method_39_code 26 = .ok (.iload 6, 2) := by decide +kernel
theorem dX5_keepExactRatio_28 : decode prog_1_method_39_code 28 = .ok (.aload_n 3, 1) := by decide +kernel
theorem dX5_keepExactRatio_29 : decode prog_1_method_39_code 29 = .ok (.getfield 65, 3) := by decide +kernel
theorem dX5_keepExactRatio_32 : decode prog_1_method_39_code 32 = .ok (.invokevirtual 110, 3) := by decide +kernel
theorem dX5_keepExactRatio_35 : decode prog_1_method_39_code 35 = .ok (.ifCond .eq 5, 3) := by decide +kernel
theorem dX5_keepExactRatio_38 : decode prog_1_method_39_code 38 = .ok (.iconst 0, 1) := by decide +kernel
theorem dX5_keepExactRatio_39 : decode prog_1_method_39_code 39 = .ok (.ireturn, 1) := by decide +kernel
theorem dX5_keepExactRatio_40 : decode prog_1_method_39_code 40 = .ok (.iload 6, 2) := by decide +kernel
theorem dX5_keepExactRatio_42 : decode prog_1_method_39_code 42 = .ok (.aload_n 0, 1) := by decide +kernel
theorem dX5_keepExactRatio_43 : decode prog_1_method_39_code 43 = .ok (.getfield 22, 3) := by decide +kernel
theorem dX5_keepExactRatio_46 : decode prog_1_method_39_code 46 = .ok (.invokevirtual 170, 3) := by decide +kernel
theorem dX5_keepExactRatio_49 : decode prog_1_method_39_code 49 = .ok (.invokestatic 279, 3) := by decide +kernel
theorem dX5_keepExactRatio_52 : decode prog_1_method_39_code 52 = .ok (.istore 7, 2) := by decide +kernel
theorem dX5_keepExactRatio_54 : decode prog_1_method_39_code 54 = .ok (.aload_n 0, 1) := by decide +kernel
theorem dX5_keepExactRatio_55 : decode prog_1_method_39_code 55 = .ok (.getfield 22, 3) := by decide +kernel
theorem dX5_keepExactRatio_58 : decode prog_1_method_39_code 58 = .ok (.iload 7, 2) := by decide +kernel
theorem dX5_keepExactRatio_60 : decode prog_1_method_39_code 60 = .ok (.invokevirtual 173, 3) := by decide +kernel
theorem dX5_keepExactRatio_63 : decode prog_1_method_39_code 63 = .ok (.aload_n 0, 1) := by decide +kernel
theorem dX5_keepExactRatio_64 : decode prog_1_method_39_code 64 = .ok (.iload_n 1, 1) := by decide +kernel
theorem dX5_keepExactRatio_65 : decode prog_1_method_39_code 65 = .ok (.aload_n 0, 1) := by decide +kernel
theorem dX5_keepExactRatio_66 : decode prog_1_method_39_code 66 = .ok (.getfield 22, 3) := by decide +kernel
theorem dX5_keepExactRatio_69 : decode prog_1_method_39_code 69 = .ok (.aload_n 2, 1) := by decide +kernel
theorem dX5_keepExactRatio_70 : decode prog_1_method_39_code 70 = .ok (.getfield 68, 3) := by decide +kernel
theorem dX5_keepExactRatio_73 : decode prog_1_method_39_code 73 = .ok (.aload_n 3, 1) := by decide +kernel
theorem dX5_keepExactRatio_74 : decode prog_1_method_39_code 74 = .ok (.getfield 68, 3) := by decide +kernel
theorem dX5_keepExactRatio_77 : decode prog_1_method_39_code 77 = .ok (.if_icmp .eq 7, 3) := by decide +kernel
theorem dX5_keepExactRatio_80 : decode prog_1_method_39_code 80 = .ok (.iconst 1, 1) := by decide +kernel
theorem dX5_keepExactRatio_81 : decode prog_1_method_39_code 81 = .ok (.goto 4, 3) := by decide +kernel
theorem dX5_keepExactRatio_84 : decode prog_1_method_39_code 84 = .ok (.iconst 0, 1) := by decide +kernel
theorem dX5_keepExactRatio_85 : decode prog_1_method_39_code 85 = .ok (.lload 4, 2) := by decide +kernel
theorem dX5_keepExactRatio_87 : decode prog_1_method_39_code 87 = .ok (.iload 6, 2) := by decide +kernel
theorem dX5_keepExactRatio_89 : decode prog_1_method_39_code 89 = .ok (.i2l, 1) := by decide +kernel
theorem dX5_keepExactRatio_90 : decode prog_1_method_39_code 90 = .ok (.ladd, 1) := by decide +kernel
theorem dX5_keepExactRatio_91 : decode prog_1_method_39_code 91 = .ok (.iload 7, 2) := by decide +kernel
theorem dX5_keepExactRatio_93 : decode prog_1_method_39_code 93 = .ok (.i2l, 1) := by decide +kernel
theorem dX5_keepExactRatio_94 : decode prog_1_method_39_code 94 = .ok (.lsub, 1) := by decide +kernel
theorem dX5_keepExactRatio_95 : decode prog_1_method_39_code 95 = .ok (.invokevirtual 57, 3) := by decide +kernel
theorem dX5_keepExactRatio_98 : decode prog_1_method_39_code 98 = .ok (.ireturn, 1) := by decide +kernel
theorem dX5_keepWholeOfRaised_0 : decode prog_1_method_40_code 0 = .ok (.sipush 4096, 3) := by decide +kernel
theorem dX5_keepWholeOfRaised_3 : decode prog_1_method_40_code 3 = .ok (.iconst 2, 1) := by decide +kernel
theorem dX5_keepWholeOfRaised_4 : decode prog_1_method_40_code 4 = .ok (.aload 4, 2) := by decide +kernel
theorem dX5_keepWholeOfRaised_6 : decode prog_1_method_40_code 6 = .ok (.getfield 65, 3) := by decide +kernel
theorem dX5_keepWholeOfRaised_9 : decode prog_1_method_40_code 9 = .ok (.invokevirtual 98, 3) := by decide +kernel
theorem dX5_keepWholeOfRaised_12 : decode prog_1_method_40_code 12 = .ok (.imul, 1) := by decide +kernel
theorem dX5_keepWholeOfRaised_13 : decode prog_1_method_40_code 13 = .ok (.iadd, 1) := by decide +kernel
theorem dX5_keepWholeOfRaised_14 : decode prog_1_method_40_code 14 = .ok (.aload_n 3, 1) := by decide +kernel
theorem dX5_keepWholeOfRaised_15 : decode prog_1_method_40_code 15 = .ok (.getfield 65, 3) := by decide +kernel
theorem dX5_keepWholeOfRaised_18 : decode prog_1_method_40_code 18 = .ok (.invokevirtual 98, 3) := by decide +kernel
theorem dX5_keepWholeOfRaised_21 : decode prog_1_method_40_code 21 = .ok (.isub, 1) := by decide +kernel
theorem dX5_keepWholeOfRaised_22 : decode prog_1_method_40_code 22 = .ok (.istore 7, 2) := by decide +kernel
theorem dX5_keepWholeOfRaised_24 : decode prog_1_method_40_code 24 = .ok (.lload 5, 2) := by decide +kernel
theorem dX5_keepWholeOfRaised_26 : decode prog_1_method_40_code 26 = .ok (.iload 7, 2) := by decide +kernel
theorem dX5_keepWholeOfRaised_28 : decode prog_1_method_40_code 28 = .ok (.i2l, 1) := by decide +kernel
theorem dX5_keepWholeOfRaised_29 : decode prog_1_method_40_code 29 = .ok (.invokestatic 116, 3) := by decide +kernel
theorem dX5_keepWholeOfRaised_32 : decode prog_1_method_40_code 32 = .ok (.l2i, 1) := by decide +kernel
theorem dX5_keepWholeOfRaised_33 : decode prog_1_method_40_code 33 = .ok (.istore 8, 2) := by decide +kernel
theorem dX5_keepWholeOfRaised_35 : decode prog_1_method_40_code 35 = .ok (.aload_n 0, 1) := by decide +kernel
theorem dX5_keepWholeOfRaised_36 : decode prog_1_method_40_code 36 = .ok (.aload_n 3, 1) := by decide +kernel
theorem dX5_keepWholeOfRaised_37 : decode prog_1_method_40_code 37 = .ok (.getfield 65, 3) := by decide +kernel
theorem dX5_keepWholeOfRaised_40 : decode prog_1_method_40_code 40 = .ok (.iload 8, 2) := by decide +kernel
theorem dX5_keepWholeOfRaised_42 : decode prog_1_method_40_code 42 = .ok (.aload 4, 2) := by decide +kernel
theorem dX5_keepWholeOfRaised_44 : decode prog_1_method_40_code 44 = .ok (.getfield 65, 3) := by decide +kernel
theorem dX5_keepWholeOfRaised_47 : decode prog_1_method_40_code 47 = .ok (.invokevirtual 110, 3) := by decide +kernel
theorem dX5_keepWholeOfRaised_50 : decode prog_1_method_40_code 50 = .ok (.istore 9, 2) := by decide +kernel
theorem dX5_keepWholeOfRaised_52 : decode prog_1_method_40_code 52 = .ok (.aload_n 0, 1) := by decide +kernel
theorem dX5_keepWholeOfRaised_53 : decode prog_1_method_40_code 53 = .ok (.getfield 22, 3) := by decide +kernel
theorem dX5_keepWholeOfRaised_56 : decode prog_1_method_40_code 56 = .ok (.invokevirtual 84, 3) := by decide +kernel
theorem dX5_keepWholeOfRaised_59 : decode prog_1_method_40_code 59 = .ok (.ifCond .eq 35, 3) := by decide +kernel
theorem dX5_keepWholeOfRaised_62 : decode prog_1_method_40_code 62 = .ok (.aload_n 0, 1) := by decide +kernel
theorem dX5_keepWholeOfRaised_63 : decode prog_1_method_40_code 63 = .ok (.getfield 18, 3) := by decide +kernel
theorem dX5_keepWholeOfRaised_66 : decode prog_1_method_40_code 66 = .ok (.aload_n 3, 1) := by decide +kernel
theorem dX5_keepWholeOfRaised_67 : decode prog_1_method_40_code 67 = .ok (.getfield 65, 3) := by decide +kernel
theorem dX5_keepWholeOfRaised_70 : decode prog_1_method_40_code 70 = .ok (.invokevirtual 140, 3) := by decide +kernel
theorem dX5_keepWholeOfRaised_73 : decode prog_1_method_40_code 73 = .ok (.aload_n 0, 1) := by decide +kernel
theorem dX5_keepWholeOfRaised_74 : decode prog_1_method_40_code 74 = .ok (.iload_n 1, 1) := by decide +kernel
theorem dX5_keepWholeOfRaised_75 : decode prog_1_method_40_code 75 = .ok (.iload_n 2, 1) := by decide +kernel
theorem dX5_keepWholeOfRaised_76 : decode prog_1_method_40_code 76 = .ok (.aload_n 3, 1) := by decide +kernel
theorem dX5_keepWholeOfRaised_77 : decode prog_1_method_40_code 77 = .ok (.aload 4, 2) := by decide +kernel
theorem dX5_keepWholeOfRaised_79 : decode prog_1_method_40_code 79 = .ok (.getfield 68, 3) := by decide +kernel
theorem dX5_keepWholeOfRaised_82 : decode prog_1_method_40_code 82 = .ok (.lload 5, 2) := by decide +kernel
theorem dX5_keepWholeOfRaised_84 : decode prog_1_method_40_code 84 = .ok (.lneg, 1) := by decide +kernel
theorem dX5_keepWholeOfRaised_85 : decode prog_1_method_40_code 85 = .ok (.aload_n 3, 1) := by decide +kernel
theorem dX5_keepWholeOfRaised_86 : decode prog_1_method_40_code 86 = .ok (.getfield 72, 3) := by decide +kernel
theorem dX5_keepWholeOfRaised_89 : decode prog_1_method_40_code 89 = .ok (.i2l, 1) := by decide +kernel
theorem dX5_keepWholeOfRaised_90 : decode prog_1_method_40_code 90 = .ok (.invokevirtual 144, 3) := by decide +kernel
theorem dX5_keepWholeOfRaised_93 : decode prog_1_method_40_code 93 = .ok (.ireturn, 1) := by decide +kernel
theorem dX5_keepWholeOfRaised_94 : decode prog_1_method_40_code 94 = .ok (.lload 5, 2) := by decide +kernel
theorem dX5_keepWholeOfRaised_96 : decode prog_1_method_40_code 96 = .ok (.iload 8, 2) := by decide +kernel
theorem dX5_keepWholeOfRaised_98 : decode prog_1_method_40_code 98 = .ok (.i2l, 1) := by decide +kernel
theorem dX5_keepWholeOfRaised_99 : decode prog_1_method_40_code 99 = .ok (.lsub, 1) := by decide +kernel
theorem dX5_keepWholeOfRaised_100 : decode prog_1_method_40_code 100 = .ok (.lstore 10, 2) := by decide +kernel
theorem dX5_keepWholeOfRaised_102 : decode prog_1_method_40_code 102 = .ok (.iload 9, 2) := by decide +kernel
theorem dX5_keepWholeOfRaised_104 : decode prog_1_method_40_code 104 = .ok (.ifCond .eq 12, 3) := by decide +kernel
theorem dX5_keepWholeOfRaised_107 : decode prog_1_method_40_code 107 = .ok (.lload 10, 2) := by decide +kernel
theorem dX5_keepWholeOfRaised_109 : decode prog_1_method_40_code 109 = .ok (.lconst 0, 1) := by decide +kernel
theorem dX5_keepWholeOfRaised_110 : decode prog_1_method_40_code 110 = .ok (.lcmp, 1) := by decide +kernel
theorem dX5_keepWholeOfRaised_111 : decode prog_1_method_40_code 111 = .ok (.ifCond .le 5, 3) := by decide +kernel
theorem dX5_keepWholeOfRaised_114 : decode prog_1_method_40_code 114 = .ok (.iconst 0, 1) := by decide +kernel
theorem dX5_keepWholeOfRaised_115 : decode prog_1_method_40_code 115 = .ok (.ireturn, 1) := by decide +kernel
theorem dX5_keepWholeOfRaised_116 : decode prog_1_method_40_code 116 = .ok (.lload 5, 2) := by decide +kernel
theorem dX5_keepWholeOfRaised_118 : decode prog_1_method_40_code 118 = .ok (.aload_n 0, 1) := by decide +kernel
theorem dX5_keepWholeOfRaised_119 : decode prog_1_method_40_code 119 = .ok (.getfield 22, 3) := by decide +kernel
theorem dX5_keepWholeOfRaised_122 : decode prog_1_method_40_code 122 = .ok (.invokevirtual 170, 3) := by decide +kernel
theorem dX5_keepWholeOfRaised_125 : decode prog_1_method_40_code 125 = .ok (.i2l, 1) := by decide +kernel
theorem dX5_keepWholeOfRaised_126 : decode prog_1_method_40_code 126 = .ok (.lload 10, 2) := by decide +kernel
theorem dX5_keepWholeOfRaised_128 : decode prog_1_method_40_code 128 = .ok (.ladd, 1) := by decide +kernel
theorem dX5_keepWholeOfRaised_129 : decode prog_1_method_40_code 129 = .ok (.invokestatic 116, 3) := by decide +kernel
theorem dX5_keepWholeOfRaised_132 : decode prog_1_method_40_code 132 = .ok (.lstore 12, 2) := by decide +kernel
theorem dX5_keepWholeOfRaised_134 : decode prog_1_method_40_code 134 = .ok (.lload 12, 2) := by decide +kernel
theorem dX5_keepWholeOfRaised_136 : decode prog_1_method_40_code 136 = .ok (.lload 10, 2) := by decide +kernel
theorem dX5_keepWholeOfRaised_138 : decode prog_1_method_40_code 138 = .ok (.lsub, 1) := by decide +kernel
theorem dX5_keepWholeOfRaised_139 : decode prog_1_method_40_code 139 = .ok (.l2i, 1) := by decide +kernel
theorem dX5_keepWholeOfRaised_140 : decode prog_1_method_40_code 140 = .ok (.istore 14, 2) := by decide +kernel
theorem dX5_keepWholeOfRaised_142 : decode prog_1_method_40_code 142 = .ok (.aload_n 0, 1) := by decide +kernel
theorem dX5_keepWholeOfRaised_143 : decode prog_1_method_40_code 143 = .ok (.getfield 22, 3) := by decide +kernel
theorem dX5_keepWholeOfRaised_146 : decode prog_1_method_40_code 146 = .ok (.iload 14, 2) := by decide +kernel
theorem dX5_keepWholeOfRaised_148 : decode prog_1_method_40_code 148 = .ok (.invokevirtual 173, 3) := by decide +kernel
theorem dX5_keepWholeOfRaised_151 : decode prog_1_method_40_code 151 = .ok (.aload_n 0, 1) := by decide +kernel
theorem dX5_keepWholeOfRaised_152 : decode prog_1_method_40_code 152 = .ok (.getfield 18, 3) := by decide +kernel
theorem dX5_keepWholeOfRaised_155 : decode prog_1_method_40_code 155 = .ok (.iload 14, 2) := by decide +kernel
theorem dX5_keepWholeOfRaised_157 : decode prog_1_method_40_code 157 = .ok (.invokevirtual 173, 3) := by decide +kernel
theorem dX5_keepWholeOfRaised_160 : decode prog_1_method_40_code 160 = .ok (.aload_n 0, 1) := by decide +kernel
theorem dX5_keepWholeOfRaised_161 : decode prog_1_method_40_code 161 = .ok (.iload_n 1, 1) := by decide +kernel
theorem dX5_keepWholeOfRaised_162 : decode prog_1_method_40_code 162 = .ok (.iload_n 2, 1) := by decide +kernel
theorem dX5_keepWholeOfRaised_163 : decode prog_1_method_40_code 163 = .ok (.aload_n 3, 1) := by decide +kernel
theorem dX5_keepWholeOfRaised_164 : decode prog_1_method_40_code 164 = .ok (.aload 4, 2) := by decide +kernel
theorem dX5_keepWholeOfRaised_166 : decode prog_1_method_40_code 166 = .ok (.getfield 68, 3) := by decide +kernel
theorem dX5_keepWholeOfRaised_169 : decode prog_1_method_40_code 169 = .ok (.lload 12, 2) := by decide +kernel
theorem dX5_keepWholeOfRaised_171 : decode prog_1_method_40_code 171 = .ok (.lneg, 1) := by decide +kernel
theorem dX5_keepWholeOfRaised_172 : decode prog_1_method_40_code 172 = .ok (.aload 4, 2) := by decide +kernel
theorem dX5_keepWholeOfRaised_174 : decode prog_1_method_40_code 174 = .ok (.getfield 72, 3) := by decide +kernel
theorem dX5_keepWholeOfRaised_177 : decode prog_1_method_40_code 177 = .ok (.i2l, 1) := by decide +kernel
theorem dX5_keepWholeOfRaised_178 : decode prog_1_method_40_code 178 = .ok (.lload 12, 2) := by decide +kernel
theorem dX5_keepWholeOfRaised_180 : decode prog_1_method_40_code 180 = .ok (.lsub, 1) := by decide +kernel
theorem dX5_keepWholeOfRaised_181 : decode prog_1_method_40_code 181 = .ok (.invokevirtual 144, 3) := by decide +kernel
theorem dX5_keepWholeOfRaised_184 : decode prog_1_method_40_code 184 = .ok (.ireturn, 1) := by decide +kernel
theorem dX5_keepWhole_0 : decode prog_1_method_41_code 0 = .ok (.aload_n 3, 1) := by decide +kernel
theorem dX5_keepWhole_1 : decode prog_1_method_41_code 1 = .ok (.getfield 68, 3) := by decide +kernel
theorem dX5_keepWhole_4 : decode prog_1_method_41_code 4 = .ok (.istore 9, 2) := by decide +kernel
theorem dX5_keepWhole_6 : decode prog_1_method_41_code 6 = .ok (.aload_n 0, 1) := by decide +kernel
theorem dX5_keepWhole_7 : decode prog_1_method_41_code 7 = .ok (.getfield 18, 3) := by decide +kernel
theorem dX5_keepWhole_10 : decode prog_1_method_41_code 10 = .ok (.lload 7, 2) := by decide +kernel
theorem dX5_keepWhole_12 : decode prog_1_method_41_code 12 = .ok (.invokestatic 235, 3) := by decide +kernel
theorem dX5_keepWhole_15 : decode prog_1_method_41_code 15 = .ok (.ifCond .eq 49, 3) := by decide +kernel
theorem dX5_keepWhole_18 : decode prog_1_method_41_code 18 = .ok (.aload_n 0, 1) := by decide +kernel
theorem dX5_keepWhole_19 : decode prog_1_method_41_code 19 = .ok (.iload_n 1, 1) := by decide +kernel
theorem dX5_keepWhole_20 : decode prog_1_method_41_code 20 = .ok (.aload_n 0, 1) := by decide +kernel
theorem dX5_keepWhole_21 : decode prog_1_method_41_code 21 = .ok (.getfield 22, 3) := by decide +kernel
theorem dX5_keepWhole_24 : decode prog_1_method_41_code 24 = .ok (.iload 9, 2) := by decide +kernel
theorem dX5_keepWhole_26 : decode prog_1_method_41_code 26 = .ok (.iload 4, 2) := by decide +kernel
theorem dX5_keepWhole_28 : decode prog_1_method_41_code 28 = .ok (.if_icmp .eq 7, 3) := by decide +kernel
theorem dX5_keepWhole_31 : decode prog_1_method_41_code 31 = .ok (.iconst 1, 1) := by decide +kernel
theorem dX5_keepWhole_32 : decode prog_1_method_41_code 32 = .ok (.goto 4, 3) := by decide +kernel
theorem dX5_keepWhole_35 : decode prog_1_method_41_code 35 = .ok (.iconst 0, 1) := by decide +kernel
theorem dX5_keepWhole_36 : decode prog_1_method_41_code 36 = .ok (.lload 5, 2) := by decide +kernel
theorem dX5_keepWhole_38 : decode prog_1_method_41_code 38 = .ok (.invokevirtual 57, 3) := by decide +kernel
theorem dX5_keepWhole_41 : decode prog_1_method_41_code 41 = .ok (.ifCond .eq 23, 3) := by decide +kernel
theorem dX5_keepWhole_44 : decode prog_1_method_41_code 44 = .ok (.aload_n 0, 1) := by decide +kernel
theorem dX5_keepWhole_45 : decode prog_1_method_41_code 45 = .ok (.iload_n 2, 1) := by decide +kernel
theorem dX5_keepWhole_46 : decode prog_1_method_41_code 46 = .ok (.aload_n 0, 1) := by decide +kernel
theorem dX5_keepWhole_47 : decode prog_1_method_41_code 47 = .ok (.getfield 18, 3) := by decide +kernel
theorem dX5_keepWhole_50 : decode prog_1_method_41_code 50 = .ok (.iload 9, 2) := by decide +kernel
theorem dX5_keepWhole_52 : decode prog_1_method_41_code 52 = .ok (.lload 7, 2) := by decide +kernel
theorem dX5_keepWhole_54 : decode prog_1_method_41_code 54 = .ok (.invokevirtual 57, 3) := by decide +kernel
theorem dX5_keepWhole_57 : decode prog_1_method_41_code 57 = .ok (.ifCond .eq 7, 3) := by decide +kernel
theorem dX5_keepWhole_60 : decode prog_1_method_41_code 60 = .ok (.iconst 1, 1) := by decide +kernel
theorem dX5_keepWhole_61 : decode prog_1_method_41_code 61 = .ok (.goto 4, 3) := by decide +kernel
theorem dX5_keepWhole_64 : decode prog_1_method_41_code 64 = .ok (.iconst 0, 1) := by decide +kernel
theorem dX5_keepWhole_65 : decode prog_1_method_41_code 65 = .ok (.ireturn, 1) := by decide +kernel
theorem dX5_orderOfSizes_0 : decode prog_1_method_42_code 0 = .ok (.aload_n 1, 1) := by decide +kernel
theorem dX5_orderOfSizes_1 : decode prog_1_method_42_code 1 = .ok (.getfield 65, 3) := by decide +kernel
theorem dX5_orderOfSizes_4 : decode prog_1_method_42_code 4 = .ok (.invokevirtual 84, 3) := by decide +kernel
theorem dX5_orderOfSizes_7 : decode prog_1_method_42_code 7 = .ok (.ifCond .ne 13, 3) := by decide +kernel
theorem dX5_orderOfSizes_10 : decode prog_1_method_42_code 10 = .ok (.aload_n 2, 1) := by decide +kernel
theorem dX5_orderOfSizes_11 : decode prog_1_method_42_code 11 = .ok (.getfield 65, 3) := by decide +kernel
theorem dX5_orderOfSizes_14 : decode prog_1_method_42_code 14 = .ok (.invokevirtual 84, 3) := by decide +kernel
theorem dX5_orderOfSizes_17 : decode prog_1_method_42_code 17 = .ok (.ifCond .eq 5, 3) := by decide +kernel
theorem dX5_orderOfSizes_20 : decode prog_1_method_42_code 20 = .ok (.iconst 0, 1) := by decide +kernel
theorem dX5_orderOfSizes_21 : decode prog_1_method_42_code 21 = .ok (.ireturn, 1) := by decide +kernel
theorem dX5_orderOfSizes_22 : decode prog_1_method_42_code 22 = .ok (.aload_n 1, 1) := by decide +kernel
theorem dX5_orderOfSizes_23 : decode prog_1_method_42_code 23 = .ok (.getfield 65, 3) := by decide +kernel
theorem dX5_orderOfSizes_26 : decode prog_1_method_42_code 26 = .ok (.invokevirtual 98, 3) := by decide +kernel
theorem dX5_orderOfSizes_29 : decode prog_1_method_42_code 29 = .ok (.istore_n 3, 1) := by decide +kernel
theorem dX5_orderOfSizes_30 : decode prog_1_method_42_code 30 = .ok (.aload_n 2, 1) := by decide +kernel
theorem dX5_orderOfSizes_31 : decode prog_1_method_42_code 31 = .ok (.getfield 65, 3) := by decide +kernel
theorem dX5_orderOfSizes_34 : decode prog_1_method_42_code 34 = .ok (.invokevirtual 98, 3) := by decide +kernel
theorem dX5_orderOfSizes_37 : decode prog_1_method_42_code 37 = .ok (.istore 4, 2) := by decide +kernel
theorem dX5_orderOfSizes_39 : decode prog_1_method_42_code 39 = .ok (.iload_n 3, 1) := by decide +kernel
theorem dX5_orderOfSizes_40 : decode prog_1_method_42_code 40 = .ok (.i2l, 1) := by decide +kernel
theorem dX5_orderOfSizes_41 : decode prog_1_method_42_code 41 = .ok (.aload_n 1, 1) := by decide +kernel
theorem dX5_orderOfSizes_42 : decode prog_1_method_42_code 42 = .ok (.getfield 72, 3) := by decide +kernel
theorem dX5_orderOfSizes_45 : decode prog_1_method_42_code 45 = .ok (.i2l, 1) := by decide +kernel
theorem dX5_orderOfSizes_46 : decode prog_1_method_42_code 46 = .ok (.lsub, 1) := by decide +kernel
theorem dX5_orderOfSizes_47 : decode prog_1_method_42_code 47 = .ok (.lstore 5, 2) := by decide +kernel
theorem dX5_orderOfSizes_49 : decode prog_1_method_42_code 49 = .ok (.iload 4, 2) := by decide +kernel
theorem dX5_orderOfSizes_51 : decode prog_1_method_42_code 51 = .ok (.i2l, 1) := by decide +kernel
theorem dX5_orderOfSizes_52 : decode prog_1_method_42_code 52 = .ok (.aload_n 2, 1) := by decide +kernel
theorem dX5_orderOfSizes_53 : decode prog_1_method_42_code 53 = .ok (.getfield 72, 3) := by decide +kernel
theorem dX5_orderOfSizes_56 : decode prog_1_method_42_code 56 = .ok (.i2l, 1) := by decide +kernel
theorem dX5_orderOfSizes_57 : decode prog_1_method_42_code 57 = .ok (.lsub, 1) := by decide +kernel
theorem dX5_orderOfSizes_58 : decode prog_1_method_42_code 58 = .ok (.lstore 7, 2) := by decide +kernel
theorem dX5_orderOfSizes_60 : decode prog_1_method_42_code 60 = .ok (.lload 5, 2) := by decide +kernel
theorem dX5_orderOfSizes_62 : decode prog_1_method_42_code 62 = .ok (.lload 7, 2) := by decide +kernel
theorem dX5_orderOfSizes_64 : decode prog_1_method_42_code 64 = .ok (.lcmp, 1) := by decide +kernel
theorem dX5_orderOfSizes_65 : decode prog_1_method_42_code 65 = .ok (.ifCond .eq 17, 3) := by decide +kernel
theorem dX5_orderOfSizes_68 : decode prog_1_method_42_code 68 = .ok (.lload 5, 2) := by decide +kernel
theorem dX5_orderOfSizes_70 : decode prog_1_method_42_code 70 = .ok (.lload 7, 2) := by decide +kernel
theorem dX5_orderOfSizes_72 : decode prog_1_method_42_code 72 = .ok (.lcmp, 1) := by decide +kernel
theorem dX5_orderOfSizes_73 : decode prog_1_method_42_code 73 = .ok (.ifCond .le 7, 3) := by decide +kernel
theorem dX5_orderOfSizes_76 : decode prog_1_method_42_code 76 = .ok (.iconst 1, 1) := by decide +kernel
theorem dX5_orderOfSizes_77 : decode prog_1_method_42_code 77 = .ok (.goto 4, 3) := by decide +kernel
theorem dX5_orderOfSizes_80 : decode prog_1_method_42_code 80 = .ok (.iconst (-1), 1) := by decide +kernel
theorem dX5_orderOfSizes_81 : decode prog_1_method_42_code 81 = .ok (.ireturn, 1) := by decide +kernel
theorem dX5_orderOfSizes_82 : decode prog_1_method_42_code 82 = .ok (.iload_n 3, 1) := by decide +kernel
theorem dX5_orderOfSizes_83 : decode prog_1_method_42_code 83 = .ok (.iload 4, 2) := by decide +kernel
theorem dX5_orderOfSizes_85 : decode prog_1_method_42_code 85 = .ok (.invokestatic 130, 3) := by decide +kernel
theorem dX5_orderOfSizes_88 : decode prog_1_method_42_code 88 = .ok (.istore 9, 2) := by decide +kernel
theorem dX5_orderOfSizes_90 : decode prog_1_method_42_code 90 = .ok (.aload_n 0, 1) := by decide +kernel
theorem dX5_orderOfSizes_91 : decode prog_1_method_42_code 91 = .ok (.getfield 18, 3) := by decide +kernel
theorem dX5_orderOfSizes_94 : decode prog_1_method_42_code 94 = .ok (.aload_n 1, 1) := by decide +kernel
theorem dX5_orderOfSizes_95 : decode prog_1_method_42_code 95 = .ok (.getfield 65, 3) := by decide +kernel
theorem dX5_orderOfSizes_98 : decode prog_1_method_42_code 98 = .ok (.iload 9, 2) := by decide +kernel
theorem dX5_orderOfSizes_100 : decode prog_1_method_42_code 100 = .ok (.iload_n 3, 1) := by decide +kernel
theorem dX5_orderOfSizes_101 : decode prog_1_method_42_code 101 = .ok (.isub, 1) := by decide +kernel
theorem dX5_orderOfSizes_102 : decode prog_1_method_42_code 102 = .ok (.invokevirtual 148, 3) := by decide +kernel
theorem dX5_orderOfSizes_105 : decode prog_1_method_42_code 105 = .ok (.aload_n 0, 1) := by decide +kernel
theorem dX5_orderOfSizes_106 : decode prog_1_method_42_code 106 = .ok (.getfield 25, 3) := by decide +kernel
theorem dX5_orderOfSizes_109 : decode prog_1_method_42_code 109 = .ok (.aload_n 2, 1) := by decide +kernel
theorem dX5_orderOfSizes_110 : decode prog_1_method_42_code 110 = .ok (.getfield 65, 3) := by decide +kernel
theorem dX5_orderOfSizes_113 : decode prog_1_method_42_code 113 = .ok (.iload 9, 2) := by decide +kernel
theorem dX5_orderOfSizes_115 : decode prog_1_method_42_code 115 = .ok (.iload 4, 2) := by decide +kernel
theorem dX5_orderOfSizes_117 : decode prog_1_method_42_code 117 = .ok (.isub, 1) := by decide +kernel
theorem dX5_orderOfSizes_118 : decode prog_1_method_42_code 118 = .ok (.invokevirtual 148, 3) := by decide +kernel
theorem dX5_orderOfSizes_121 : decode prog_1_method_42_code 121 = .ok (.aload_n 0, 1) := by decide +kernel
theorem dX5_orderOfSizes_122 : decode prog_1_method_42_code 122 = .ok (.getfield 18, 3) := by decide +kernel
theorem dX5_orderOfSizes_125 : decode prog_1_method_42_code 125 = .ok (.aload_n 0, 1) := by decide +kernel
theorem dX5_orderOfSizes_126 : decode prog_1_method_42_code 126 = .ok (.getfield 25, 3) := by decide +kernel
theorem dX5_orderOfSizes_129 : decode prog_1_method_42_code 129 = .ok (.invokestatic 249, 3) := by decide +kernel
theorem dX5_orderOfSizes_132 : decode prog_1_method_42_code 132 = .ok (.ireturn, 1) := by decide +kernel
theorem dX6_init_0 : decode prog_8_method_1_code 0 = .ok (.aload_n 0, 1) := by decide +kernel
theorem dX6_init_1 : decode prog_8_method_1_code 1 = .ok (.invokespecial 1, 3) := by decide +kernel
theorem dX6_init_4 : decode prog_8_method_1_code 4 = .ok (.aload_n 0, 1) := by decide +kernel
theorem dX6_init_5 : decode prog_8_method_1_code 5 = .ok (.ldc 7, 2) := by decide +kernel
theorem dX6_init_7 : decode prog_8_method_1_code 7 = .ok (.newarray .int, 2) := by decide +kernel
theorem dX6_init_9 : decode prog_8_method_1_code 9 = .ok (.putfield 8, 3) := by decide +kernel
theorem dX6_init_12 : decode prog_8_method_1_code 12 = .ok (.aload_n 0, 1) := by decide +kernel
theorem dX6_init_13 : decode prog_8_method_1_code 13 = .ok (.bipush 8, 2) := by decide +kernel
theorem dX6_init_15 : decode prog_8_method_1_code 15 = .ok (.newarray .int, 2) := by decide +kernel
theorem dX6_init_17 : decode prog_8_method_1_code 17 = .ok (.putfield 14, 3) := by decide +kernel
theorem dX6_init_20 : decode prog_8_method_1_code 20 = .ok (.aload_n 0, 1) := by decide +kernel
theorem dX6_init_21 : decode prog_8_method_1_code 21 = .ok (.bipush 8, 2) := by decide +kernel
theorem dX6_init_23 : decode prog_8_method_1_code 23 = .ok (.newarray .int, 2) := by decide +kernel
theorem dX6_init_25 : decode prog_8_method_1_code 25 = .ok (.putfield 17, 3) := by decide +kernel
theorem dX6_init_28 : decode prog_8_method_1_code 28 = .ok (.aload_n 0, 1) := by decide +kernel
theorem dX6_init_29 : decode prog_8_method_1_code 29 = .ok (.bipush 8, 2) := by decide +kernel
theorem dX6_init_31 : decode prog_8_method_1_code 31 = .ok (.newarray .int, 2) := by decide +kernel
theorem dX6_init_33 : decode prog_8_method_1_code 33 = .ok (.putfield 20, 3) := by decide +kernel
theorem dX6_init_36 : decode prog_8_method_1_code 36 = .ok (.aload_n 0, 1) := by decide +kernel
theorem dX6_init_37 : decode prog_8_method_1_code 37 = .ok (.ldc 23, 2) := by decide +kernel
theorem dX6_init_39 : decode prog_8_method_1_code 39 = .ok (.newarray .int, 2) := by decide +kernel
theorem dX6_init_41 : decode prog_8_method_1_code 41 = .ok (.putfield 24, 3) := by decide +kernel
theorem dX6_init_44 : decode prog_8_method_1_code 44 = .ok (.aload_n 0, 1) := by decide +kernel
theorem dX6_init_45 : decode prog_8_method_1_code 45 = .ok (.iconst 4, 1) := by decide +kernel
theorem dX6_init_46 : decode prog_8_method_1_code 46 = .ok (.newarray .int, 2) := by decide +kernel
theorem dX6_init_48 : decode prog_8_method_1_code 48 = .ok (.putfield 27, 3) := by decide +kernel
theorem dX6_init_51 : decode prog_8_method_1_code 51 = .ok (.aload_n 0, 1) := by decide +kernel
theorem dX6_init_52 : decode prog_8_method_1_code 52 = .ok (.sipush 6000, 3) := by decide +kernel
theorem dX6_init_55 : decode prog_8_method_1_code 55 = .ok (.newarray .int, 2) := by decide +kernel
theorem dX6_init_57 : decode prog_8_method_1_code 57 = .ok (.putfield 30, 3) := by decide +kernel
theorem dX6_init_60 : decode prog_8_method_1_code 60 = .ok (.aload_n 0, 1) := by decide +kernel
theorem dX6_init_61 : decode prog_8_method_1_code 61 = .ok (.sipush 6000, 3) := by decide +kernel
theorem dX6_init_64 : decode prog_8_method_1_code 64 = .ok (.newarray .int, 2) := by decide +kernel
theorem dX6_init_66 : decode prog_8_method_1_code 66 = .ok (.putfield 33, 3) := by decide +kernel
theorem dX6_init_69 : decode prog_8_method_1_code 69 = .ok (.return_, 1) := by decide +kernel
theorem dX6_is_0 : decode prog_8_method_2_code 0 = .ok (.iload_n 0, 1) := by decide +kernel
theorem dX6_is_1 : decode prog_8_method_2_code 1 = .ok (.ifCond .lt 13, 3) := by decide +kernel
theorem dX6_is_4 : decode prog_8_method_2_code 4 = .ok (.iload_n 0, 1) := by decide +kernel
theorem dX6_is_5 : decode prog_8_method_2_code 5 = .ok (.bipush 8, 2) := by decide +kernel
theorem dX6_is_7 : decode prog_8_method_2_code 7 = .ok (.if_icmp .ge 7, 3) := by decide +kernel
theorem dX6_is_10 : decode prog_8_method_2_code 10 = .ok (.iconst 1, 1) := by decide +kernel
theorem dX6_is_11 : decode prog_8_method_2_code 11 = .ok (.goto 4, 3) := by decide +kernel
theorem dX6_is_14 : decode prog_8_method_2_code 14 = .ok (.iconst 0, 1) := by decide +kernel
theorem dX6_is_15 : decode prog_8_method_2_code 15 = .ok (.ireturn, 1) := by decide +kernel
theorem dX6_isRounding_0 : decode prog_8_method_3_code 0 = .ok (.iload_n 0, 1) := by decide +kernel
theorem dX6_isRounding_1 : decode prog_8_method_3_code 1 = .ok (.ifCond .lt 13, 3) := by decide +kernel
theorem dX6_isRounding_4 : decode prog_8_method_3_code 4 = .ok (.iload_n 0, 1) := by decide +kernel
theorem dX6_isRounding_5 : decode prog_8_method_3_code 5 = .ok (.bipush 8, 2) := by decide +kernel
theorem dX6_isRounding_7 : decode prog_8_method_3_code 7 = .ok (.if_icmp .ge 7, 3) := by decide +kernel
theorem dX6_isRounding_10 : decode prog_8_method_3_code 10 = .ok (.iconst 1, 1) := by decide +kernel
theorem dX6_isRounding_11 : decode prog_8_method_3_code 11 = .ok (.goto 4, 3) := by decide +kernel
theorem dX6_isRounding_14 : decode prog_8_method_3_code 14 = .ok (.iconst 0, 1) := by decide +kernel
theorem dX6_isRounding_15 : decode prog_8_method_3_code 15 = .ok (.ireturn, 1) := by decide +kernel
theorem dX6_isPrecision_0 : decode prog_8_method_4_code 0 = .ok (.iload_n 0, 1) := by decide +kernel
theorem dX6_isPrecision_1 : decode prog_8_method_4_code 1 = .ok (.ifCond .lt 14, 3) := by decide +kernel
theorem dX6_isPrecision_4 : decode prog_8_method_4_code 4 = .ok (.iload_n 0, 1) := by decide +kernel
theorem dX6_isPrecision_5 : decode prog_8_method_4_code 5 = .ok (.sipush 4096, 3) := by decide +kernel
theorem dX6_isPrecision_8 : decode prog_8_method_4_code 8 = .ok (.if_icmp .gt 7, 3) := by decide +kernel
theorem dX6_isPrecision_11 : decode prog_8_method_4_code 11 = .ok (.iconst 1, 1) := by decide +kernel
theorem dX6_isPrecision_12 : decode prog_8_method_4_code 12 = .ok (.goto 4, 3) := by decide +kernel
theorem dX6_isPrecision_15 : decode prog_8_method_4_code 15 = .ok (.iconst 0, 1) := by decide +kernel
theorem dX6_isPrecision_16 : decode prog_8_method_4_code 16 = .ok (.ireturn, 1) := by decide +kernel
theorem dX6_trim_0 : decode prog_8_method_5_code 0 = .ok (.iload_n 2, 1) := by decide +kernel
theorem dX6_trim_1 : decode prog_8_method_5_code 1 = .ok (.istore_n 3, 1) := by decide +kernel
theorem dX6_trim_2 : decode prog_8_method_5_code 2 = .ok (.iload_n 3, 1) := by decide +kernel
theorem dX6_trim_3 : decode prog_8_method_5_code 3 = .ok (.ifCond .le 26, 3) := by decide +kernel
theorem dX6_trim_6 : decode prog_8_method_5_code 6 = .ok (.aload_n 0, 1) := by decide +kernel
theorem dX6_trim_7 : decode prog_8_method_5_code 7 = .ok (.getfield 24, 3) := by decide +kernel
theorem dX6_trim_10 : decode prog_8_method_5_code 10 = .ok (.sipush 17000, 3) := by decide +kernel
theorem dX6_trim_13 : decode prog_8_method_5_code 13 = .ok (.iload_n 1, 1) := by decide +kernel
theorem dX6_trim_14 : decode prog_8_method_5_code 14 = .ok (.imul, 1) := by decide +kernel
theorem dX6_trim_15 : decode prog_8_method_5_code 15 = .ok (.iload_n 3, 1) := by decide +kernel
theorem dX6_trim_16 : decode prog_8_method_5_code 16 = .ok (.iadd, 1) := by decide +kernel
theorem dX6_trim_17 : decode prog_8_method_5_code 17 = .ok (.iconst 1, 1) := by decide +kernel
theorem dX6_trim_18 : decode prog_8_method_5_code 18 = .ok (.isub, 1) := by decide +kernel
theorem dX6_trim_19 : decode prog_8_method_5_code 19 = .ok (.iaload, 1) := by decide +kernel
theorem dX6_trim_20 : decode prog_8_method_5_code 20 = .ok (.ifCond .ne 9, 3) := by decide +kernel
theorem dX6_trim_23 : decode prog_8_method_5_code 23 = .ok (.iinc 3 (-1), 3) := by decide +kernel
theorem dX6_trim_26 : decode prog_8_method_5_code 26 = .ok (.goto (-24), 3) := by decide +kernel
theorem dX6_trim_29 : decode prog_8_method_5_code 29 = .ok (.aload_n 0, 1) := by decide +kernel
theorem dX6_trim_30 : decode prog_8_method_5_code 30 = .ok (.getfield 27, 3) := by decide +kernel
theorem dX6_trim_33 : decode prog_8_method_5_code 33 = .ok (.iload_n 1, 1) := by decide +kernel
theorem dX6_trim_34 : decode prog_8_method_5_code 34 = .ok (.iload_n 3, 1) := by decide +kernel
theorem dX6_trim_35 : decode prog_8_method_5_code 35 = .ok (.iastore, 1) := by decide +kernel
theorem dX6_trim_36 : decode prog_8_method_5_code 36 = .ok (.return_, 1) := by decide +kernel
theorem dX6_load_0 : decode prog_8_method_6_code 0 = .ok (.iconst 0, 1) := by decide +kernel
theorem dX6_load_1 : decode prog_8_method_6_code 1 = .ok (.istore_n 3, 1) := by decide +kernel
theorem dX6_load_2 : decode prog_8_method_6_code 2 = .ok (.iload_n 3, 1) := by decide +kernel
theorem dX6_load_3 : decode prog_8_method_6_code 3 = .ok (.aload_n 0, 1) := by decide +kernel
theorem dX6_load_4 : decode prog_8_method_6_code 4 = .ok (.getfield 14, 3) := by decide +kernel
theorem dX6_load_7 : decode prog_8_method_6_code 7 = .ok (.iload_n 2, 1) := by decide +kernel
theorem dX6_load_8 : decode prog_8_method_6_code 8 = .ok (.iaload, 1) := by decide +kernel
theorem dX6_load_9 : decode prog_8_method_6_code 9 = .ok (.if_icmp .ge 33, 3) := by decide +kernel
theorem dX6_load_12 : decode prog_8_method_6_code 12 = .ok (.aload_n 0, 1) := by decide +kernel
theorem dX6_load_13 : decode prog_8_method_6_code 13 = .ok (.getfield 24, 3) := by decide +kernel
theorem dX6_load_16 : decode prog_8_method_6_code 16 = .ok (.sipush 17000, 3) := by decide +kernel
theorem dX6_load_19 : decode prog_8_method_6_code 19 = .ok (.iload_n 1, 1) := by decide +kernel
theorem dX6_load_20 : decode prog_8_method_6_code 20 = .ok (.imul, 1) := by decide +kernel
theorem dX6_load_21 : decode prog_8_method_6_code 21 = .ok (.iload_n 3, 1) := by decide +kernel
theorem dX6_load_22 : decode prog_8_method_6_code 22 = .ok (.iadd, 1) := by decide +kernel
theorem dX6_load_23 : decode prog_8_method_6_code 23 = .ok (.aload_n 0, 1) := by decide +kernel
theorem dX6_load_24 : decode prog_8_method_6_code 24 = .ok (.getfield 8, 3) := by decide +kernel
theorem dX6_load_27 : decode prog_8_method_6_code 27 = .ok (.sipush 4096, 3) := by decide +kernel
theorem dX6_load_30 : decode prog_8_method_6_code 30 = .ok (.iload_n 2, 1) := by decide +kernel
theorem dX6_load_31 : decode prog_8_method_6_code 31 = .ok (.imul, 1) := by decide +kernel
theorem dX6_load_32 : decode prog_8_method_6_code 32 = .ok (.iload_n 3, 1) := by decide +kernel
theorem dX6_load_33 : decode prog_8_method_6_code 33 = .ok (.iadd, 1) := by decide +kernel
theorem dX6_load_34 : decode prog_8_method_6_code 34 = .ok (.iaload, 1) := by decide +kernel
theorem dX6_load_35 : decode prog_8_method_6_code 35 = .ok (.iastore, 1) := by decide +kernel
theorem dX6_load_36 : decode prog_8_method_6_code 36 = .ok (.iinc 3 1, 3) := by decide +kernel
theorem dX6_load_39 : decode prog_8_method_6_code 39 = .ok (.goto (-37), 3) := by decide +kernel
theorem dX6_load_42 : decode prog_8_method_6_code 42 = .ok (.aload_n 0, 1) := by decide +kernel
theorem dX6_load_43 : decode prog_8_method_6_code 43 = .ok (.getfield 27, 3) := by decide +kernel
theorem dX6_load_46 : decode prog_8_method_6_code 46 = .ok (.iload_n 1, 1) := by decide +kernel
theorem dX6_load_47 : decode prog_8_method_6_code 47 = .ok (.aload_n 0, 1) := by decide +kernel
theorem dX6_load_48 : decode prog_8_method_6_code 48 = .ok (.getfield 14, 3) := by decide +kernel
theorem dX6_load_51 : decode prog_8_method_6_code 51 = .ok (.iload_n 2, 1) := by decide +kernel
theorem dX6_load_52 : decode prog_8_method_6_code 52 = .ok (.iaload, 1) := by decide +kernel
theorem dX6_load_53 : decode prog_8_method_6_code 53 = .ok (.iastore, 1) := by decide +kernel
theorem dX6_load_54 : decode prog_8_method_6_code 54 = .ok (.return_, 1) := by decide +kernel
theorem dX6_store_0 : decode prog_8_method_7_code 0 = .ok (.aload_n 0, 1) := by decide +kernel
theorem dX6_store_1 : decode prog_8_method_7_code 1 = .ok (.getfield 27, 3) := by decide +kernel
theorem dX6_store_4 : decode prog_8_method_7_code 4 = .ok (.iload_n 2, 1) := by decide +kernel
theorem dX6_store_5 : decode prog_8_method_7_code 5 = .ok (.iaload, 1) := by decide +kernel
theorem dX6_store_6 : decode prog_8_method_7_code 6 = .ok (.sipush 4096, 3) := by decide +kernel
theorem dX6_store_9 : decode prog_8_method_7_code 9 = .ok (.if_icmp .gt 21, 3) := by decide +kernel
theorem dX6_store_12 : decode prog_8_method_7_code 12 = .ok (.lload 4, 2) := by decide +kernel
theorem dX6_store_14 : decode prog_8_method_7_code 14 = .ok (.ldc2_w 36, 3) := by decide +kernel
theorem dX6_store_17 : decode prog_8_method_7_code 17 = .ok (.lcmp, 1) := by decide +kernel
theorem dX6_store_18 : decode prog_8_method_7_code 18 = .ok (.ifCond .lt 12, 3) := by decide +kernel
theorem dX6_store_21 : decode prog_8_method_7_code 21 = .ok (.lload 4, 2) := by decide +kernel
theorem dX6_store_23 : decode prog_8_method_7_code 23 = .ok (.ldc2_w 38, 3) := by decide +kernel
theorem dX6_store_26 : decode prog_8_method_7_code 26 = .ok (.lcmp, 1) := by decide +kernel
theorem dX6_store_27 : decode prog_8_method_7_code 27 = .ok (.ifCond .le 5, 3) := by decide +kernel
theorem dX6_store_30 : decode prog_8_method_7_code 30 = .ok (.iconst 0, 1) := by decide +kernel
theorem dX6_store_31 : decode prog_8_method_7_code 31 = .ok (.ireturn, 1) := by decide +kernel
theorem dX6_store_32 : decode prog_8_method_7_code 32 = .ok (.aload_n 0, 1) := by decide +kernel
theorem dX6_store_33 : decode prog_8_method_7_code 33 = .ok (.getfield 14, 3) := by decide +kernel
theorem dX6_store_36 : decode prog_8_method_7_code 36 = .ok (.iload_n 1, 1) := by decide +kernel
theorem dX6_store_37 : decode prog_8_method_7_code 37 = .ok (.aload_n 0, 1) := by decide +kernel
theorem dX6_store_38 : decode prog_8_method_7_code 38 = .ok (.getfield 27, 3) := by decide +kernel
theorem dX6_store_41 : decode prog_8_method_7_code 41 = .ok (.iload_n 2, 1) := by decide +kernel
theorem dX6_store_42 : decode prog_8_method_7_code 42 = .ok (.iaload, 1) := by decide +kernel
theorem dX6_store_43 : decode prog_8_method_7_code 43 = .ok (.iastore, 1) := by decide +kernel
theorem dX6_store_44 : decode prog_8_method_7_code 44 = .ok (.iconst 0, 1) := by decide +kernel
theorem dX6_store_45 : decode prog_8_method_7_code 45 = .ok (.istore 6, 2) := by decide +kernel
theorem dX6_store_47 : decode prog_8_method_7_code 47 = .ok (.iload 6, 2) := by decide +kernel
theorem dX6_store_49 : decode prog_8_method_7_code 49 = .ok (.aload_n 0, 1) := by decide +kernel
theorem dX6_store_50 : decode prog_8_method_7_code 50 = .ok (.getfield 27, 3) := by decide +kernel
theorem dX6_store_53 : decode prog_8_method_7_code 53 = .ok (.iload_n 2, 1) := by decide +kernel
theorem dX6_store_54 : decode prog_8_method_7_code 54 = .ok (.iaload, 1) := by decide +kernel
theorem dX6_store_55 : decode prog_8_method_7_code 55 = .ok (.if_icmp .ge 35, 3) := by decide +kernel
theorem dX6_store_58 : decode prog_8_method_7_code 58 = .ok (.aload_n 0, 1) := by decide +kernel
theorem dX6_store_59 : decode prog_8_method_7_code 59 = .ok (.getfield 8, 3) := by decide +kernel
theorem dX6_store_62 : decode prog_8_method_7_code 62 = .ok (.sipush 4096, 3) := by decide +kernel
theorem dX6_store_65 : decode prog_8_method_7_code 65 = .ok (.iload_n 1, 1) := by decide +kernel
theorem dX6_store_66 : decode prog_8_method_7_code 66 = .ok (.imul, 1) := by decide +kernel
theorem dX6_store_67 : decode prog_8_method_7_code 67 = .ok (.iload 6, 2) := by decide +kernel
theorem dX6_store_69 : decode prog_8_method_7_code 69 = .ok (.iadd, 1) := by decide +kernel
theorem dX6_store_70 : decode prog_8_method_7_code 70 = .ok (.aload_n 0, 1) := by decide +kernel
theorem dX6_store_71 : decode prog_8_method_7_code 71 = .ok (.getfield 24, 3) := by decide +kernel
theorem dX6_store_74 : decode prog_8_method_7_code 74 = .ok (.sipush 17000, 3) := by decide +kernel
theorem dX6_store_77 : decode prog_8_method_7_code 77 = .ok (.iload_n 2, 1) := by decide +kernel
theorem dX6_store_78 : decode prog_8_method_7_code 78 = .ok (.imul, 1) := by decide +kernel
theorem dX6_store_79 : decode prog_8_method_7_code 79 = .ok (.iload 6, 2) := by decide +kernel
theorem dX6_store_81 : decode prog_8_method_7_code 81 = .ok (.iadd, 1) := by decide +kernel
theorem dX6_store_82 : decode prog_8_method_7_code 82 = .ok (.iaload, 1) := by decide +kernel
theorem dX6_store_83 : decode prog_8_method_7_code 83 = .ok (.iastore, 1) := by decide +kernel
theorem dX6_store_84 : decode prog_8_method_7_code 84 = .ok (.iinc 6 1, 3) := by decide +kernel
theorem dX6_store_87 : decode prog_8_method_7_code 87 = .ok (.goto (-40), 3) := by decide +kernel
theorem dX6_store_90 : decode prog_8_method_7_code 90 = .ok (.aload_n 0, 1) := by decide +kernel
theorem dX6_store_91 : decode prog_8_method_7_code 91 = .ok (.getfield 17, 3) := by decide +kernel
theorem dX6_store_94 : decode prog_8_method_7_code 94 = .ok (.iload_n 1, 1) := by decide +kernel
theorem dX6_store_95 : decode prog_8_method_7_code 95 = .ok (.aload_n 0, 1) := by decide +kernel
theorem dX6_store_96 : decode prog_8_method_7_code 96 = .ok (.getfield 27, 3) := by decide +kernel
theorem dX6_store_99 : decode prog_8_method_7_code 99 = .ok (.iload_n 2, 1) := by decide +kernel
theorem dX6_store_100 : decode prog_8_method_7_code 100 = .ok (.iaload, 1) := by decide +kernel
theorem dX6_store_101 : decode prog_8_method_7_code 101 = .ok (.ifCond .ne 7, 3) := by decide +kernel
theorem dX6_store_104 : decode prog_8_method_7_code 104 = .ok (.iconst 0, 1) := by decide +kernel
theorem dX6_store_105 : decode prog_8_method_7_code 105 = .ok (.goto 4, 3) := by decide +kernel
theorem dX6_store_108 : decode prog_8_method_7_code 108 = .ok (.iload_n 3, 1) := by decide +kernel
theorem dX6_store_109 : decode prog_8_method_7_code 109 = .ok (.iastore, 1) := by decide +kernel
theorem dX6_store_110 : decode prog_8_method_7_code 110 = .ok (.aload_n 0, 1) := by decide +kernel
theorem dX6_store_111 : decode prog_8_method_7_code 111 = .ok (.getfield 20, 3) := by decide +kernel
theorem dX6_store_114 : decode prog_8_method_7_code 114 = .ok (.iload_n 1, 1) := by decide +kernel
theorem dX6_store_115 : decode prog_8_method_7_code 115 = .ok (.lload 4, 2) := by decide +kernel
theorem dX6_store_117 : decode prog_8_method_7_code 117 = .ok (.l2i, 1) := by decide +kernel
theorem dX6_store_118 : decode prog_8_method_7_code 118 = .ok (.iastore, 1) := by decide +kernel
theorem dX6_store_119 : decode prog_8_method_7_code 119 = .ok (.iconst 1, 1) := by decide +kernel
theorem dX6_store_120 : decode prog_8_method_7_code 120 = .ok (.ireturn, 1) := by decide +kernel
theorem dX6_raise_0 : decode prog_8_method_8_code 0 = .ok (.aload_n 0, 1) := by decide +kernel
theorem dX6_raise_1 : decode prog_8_method_8_code 1 = .ok (.getfield 27, 3) := by decide +kernel
theorem dX6_raise_4 : decode prog_8_method_8_code 4 = .ok (.iload_n 1, 1) := by decide +kernel
theorem dX6_raise_5 : decode prog_8_method_8_code 5 = .ok (.iaload, 1) := by decide +kernel
theorem dX6_raise_6 : decode prog_8_method_8_code 6 = .ok (.ifCond .ne 4, 3) := by decide +kernel
theorem dX6_raise_9 : decode prog_8_method_8_code 9 = .ok (.return_, 1) := by decide +kernel
theorem dX6_raise_10 : decode prog_8_method_8_code 10 = .ok (.aload_n 0, 1) := by decide +kernel
theorem dX6_raise_11 : decode prog_8_method_8_code 11 = .ok (.getfield 27, 3) := by decide +kernel
theorem dX6_raise_14 : decode prog_8_method_8_code 14 = .ok (.iload_n 1, 1) := by decide +kernel
theorem dX6_raise_15 : decode prog_8_method_8_code 15 = .ok (.iaload, 1) := by decide +kernel
theorem dX6_raise_16 : decode prog_8_method_8_code 16 = .ok (.iconst 1, 1) := by decide +kernel
theorem dX6_raise_17 : decode prog_8_method_8_code 17 = .ok (.isub, 1) := by decide +kernel
theorem dX6_raise_18 : decode prog_8_method_8_code 18 = .ok (.istore_n 3, 1) := by decide +kernel
theorem dX6_raise_19 : decode prog_8_method_8_code 19 = .ok (.iload_n 3, 1) := by decide +kernel
theorem dX6_raise_20 : decode prog_8_method_8_code 20 = .ok (.ifCond .lt 35, 3) := by decide +kernel
theorem dX6_raise_23 : decode prog_8_method_8_code 23 = .ok (.aload_n 0, 1) := by decide +kernel
theorem dX6_raise_24 : decode prog_8_method_8_code 24 = .ok (.getfield 24, 3) := by decide +kernel
theorem dX6_raise_27 : decode prog_8_method_8_code 27 = .ok (.sipush 17000, 3) := by decide +kernel
theorem dX6_raise_30 : decode prog_8_method_8_code 30 = .ok (.iload_n 1, 1) := by decide +kernel
theorem dX6_raise_31 : decode prog_8_method_8_code 31 = .ok (.imul, 1) := by decide +kernel
theorem dX6_raise_32 : decode prog_8_method_8_code 32 = .ok (.iload_n 3, 1) := by decide +kernel
theorem dX6_raise_33 : decode prog_8_method_8_code 33 = .ok (.iadd, 1) := by decide +kernel
theorem dX6_raise_34 : decode prog_8_method_8_code 34 = .ok (.iload_n 2, 1) := by decide +kernel
theorem dX6_raise_35 : decode prog_8_method_8_code 35 = .ok (.iadd, 1) := by decide +kernel
theorem dX6_raise_36 : decode prog_8_method_8_code 36 = .ok (.aload_n 0, 1) := by decide +kernel
theorem dX6_raise_37 : decode prog_8_method_8_code 37 = .ok (.getfield 24, 3) := by decide +kernel
theorem dX6_raise_40 : decode prog_8_method_8_code 40 = .ok (.sipush 17000, 3) := by decide +kernel
theorem dX6_raise_43 : decode prog_8_method_8_code 43 = .ok (.iload_n 1, 1) := by decide +kernel
theorem dX6_raise_44 : decode prog_8_method_8_code 44 = .ok (.imul, 1) := by decide +kernel
theorem dX6_raise_45 : decode prog_8_method_8_code 45 = .ok (.iload_n 3, 1) := by decide +kernel
theorem dX6_raise_46 : decode prog_8_method_8_code 46 = .ok (.iadd, 1) := by decide +kernel
theorem dX6_raise_47 : decode prog_8_method_8_code 47 = .ok (.iaload, 1) := by decide +kernel
theorem dX6_raise_48 : decode prog_8_method_8_code 48 = .ok (.iastore, 1) := by decide +kernel
theorem dX6_raise_49 : decode prog_8_method_8_code 49 = .ok (.iinc 3 (-1), 3) := by decide +kernel
theorem dX6_raise_52 : decode prog_8_method_8_code 52 = .ok (.goto (-33), 3) := by decide +kernel
theorem dX6_raise_55 : decode prog_8_method_8_code 55 = .ok (.iconst 0, 1) := by decide +kernel
theorem dX6_raise_56 : decode prog_8_method_8_code 56 = .ok (.istore_n 3, 1) := by decide +kernel
theorem dX6_raise_57 : decode prog_8_method_8_code 57 = .ok (.iload_n 3, 1) := by decide +kernel
theorem dX6_raise_58 : decode prog_8_method_8_code 58 = .ok (.iload_n 2, 1) := by decide +kernel
theorem dX6_raise_59 : decode prog_8_method_8_code 59 = .ok (.if_icmp .ge 22, 3) := by decide +kernel
theorem dX6_raise_62 : decode prog_8_method_8_code 62 = .ok (.aload_n 0, 1) := by decide +kernel
theorem dX6_raise_63 : decode prog_8_method_8_code 63 = .ok (.getfield 24, 3) := by decide +kernel
theorem dX6_raise_66 : decode prog_8_method_8_code 66 = .ok (.sipush 17000, 3) := by decide +kernel
theorem dX6_raise_69 : decode prog_8_method_8_code 69 = .ok (.iload_n 1, 1) := by decide +kernel
theorem dX6_raise_70 : decode prog_8_method_8_code 70 = .ok (.imul, 1) := by decide +kernel
theorem dX6_raise_71 : decode prog_8_method_8_code 71 = .ok (.iload_n 3, 1) := by decide +kernel
theorem dX6_raise_72 : decode prog_8_method_8_code 72 = .ok (.iadd, 1) := by decide +kernel
theorem dX6_raise_73 : decode prog_8_method_8_code 73 = .ok (.iconst 0, 1) := by decide +kernel
theorem dX6_raise_74 : decode prog_8_method_8_code 74 = .ok (.iastore, 1) := by decide +kernel
theorem dX6_raise_75 : decode prog_8_method_8_code 75 = .ok (.iinc 3 1, 3) := by decide +kernel
theorem dX6_raise_78 : decode prog_8_method_8_code 78 = .ok (.goto (-21), 3) := by decide +kernel
theorem dX6_raise_81 : decode prog_8_method_8_code 81 = .ok (.aload_n 0, 1) := by decide +kernel
theorem dX6_raise_82 : decode prog_8_method_8_code 82 = .ok (.getfield 27, 3) := by decide +kernel
theorem dX6_raise_85 : decode prog_8_method_8_code 85 = .ok (.iload_n 1, 1) := by decide +kernel
theorem dX6_raise_86 : decode prog_8_method_8_code 86 = .ok (.dup2, 1) := by decide +kernel
theorem dX6_raise_87 : decode prog_8_method_8_code 87 = .ok (.iaload, 1) := by decide +kernel
theorem dX6_raise_88 : decode prog_8_method_8_code 88 = .ok (.iload_n 2, 1) := by decide +kernel
theorem dX6_raise_89 : decode prog_8_method_8_code 89 = .ok (.iadd, 1) := by decide +kernel
theorem dX6_raise_90 : decode prog_8_method_8_code 90 = .ok (.iastore, 1) := by decide +kernel
theorem dX6_raise_91 : decode prog_8_method_8_code 91 = .ok (.return_, 1) := by decide +kernel
theorem dX6_lower_0 : decode prog_8_method_9_code 0 = .ok (.aload_n 0, 1) := by decide +kernel
theorem dX6_lower_1 : decode prog_8_method_9_code 1 = .ok (.iconst 0, 1) := by decide +kernel
theorem dX6_lower_2 : decode prog_8_method_9_code 2 = .ok (.putfield 40, 3) := by decide +kernel
theorem dX6_lower_5 : decode prog_8_method_9_code 5 = .ok (.lload_n 2, 1) := by decide +kernel
theorem dX6_lower_6 : decode prog_8_method_9_code 6 = .ok (.lconst 0, 1) := by decide +kernel
theorem dX6_lower_7 : decode prog_8_method_9_code 7 = .ok (.lcmp, 1) := by decide +kernel
theorem dX6_lower_8 : decode prog_8_method_9_code 8 = .ok (.ifCond .le 12, 3) := by decide +kernel
theorem dX6_lower_11 : decode prog_8_method_9_code 11 = .ok (.aload_n 0, 1) := by decide +kernel
theorem dX6_lower_12 : decode prog_8_method_9_code 12 = .ok (.getfield 27, 3) := by decide +kernel
theorem dX6_lower_15 : decode prog_8_method_9_code 15 = .ok (.iload_n 1, 1) := by decide +kernel
theorem dX6_lower_16 : decode prog_8_method_9_code 16 = .ok (.iaload, 1) := by decide +kernel
theorem dX6_lower_17 : decode prog_8_method_9_code 17 = .ok (.ifCond .ne 4, 3) := by decide +kernel
theorem dX6_lower_20 : decode prog_8_method_9_code 20 = .ok (.return_, 1) := by decide +kernel
theorem dX6_lower_21 : decode prog_8_method_9_code 21 = .ok (.lload_n 2, 1) := by decide +kernel
theorem dX6_lower_22 : decode prog_8_method_9_code 22 = .ok (.aload_n 0, 1) := by decide +kernel
theorem dX6_lower_23 : decode prog_8_method_9_code 23 = .ok (.getfield 27, 3) := by decide +kernel
theorem dX6_lower_26 : decode prog_8_method_9_code 26 = .ok (.iload_n 1, 1) := by decide +kernel
theorem dX6_lower_27 : decode prog_8_method_9_code 27 = .ok (.iaload, 1) := by decide +kernel
theorem dX6_lower_28 : decode prog_8_method_9_code 28 = .ok (.i2l, 1) := by decide +kernel
theorem dX6_lower_29 : decode prog_8_method_9_code 29 = .ok (.lcmp, 1) := by decide +kernel
theorem dX6_lower_30 : decode prog_8_method_9_code 30 = .ok (.ifCond .le 16, 3) := by decide +kernel
theorem dX6_lower_33 : decode prog_8_method_9_code 33 = .ok (.aload_n 0, 1) := by decide +kernel
theorem dX6_lower_34 : decode prog_8_method_9_code 34 = .ok (.iconst 1, 1) := by decide +kernel
theorem dX6_lower_35 : decode prog_8_method_9_code 35 = .ok (.putfield 40, 3) := by decide +kernel
theorem dX6_lower_38 : decode prog_8_method_9_code 38 = .ok (.aload_n 0, 1) := by decide +kernel
theorem dX6_lower_39 : decode prog_8_method_9_code 39 = .ok (.getfield 27, 3) := by decide +kernel
theorem dX6_lower_42 : decode prog_8_method_9_code 42 = .ok (.iload_n 1, 1) := by decide +kernel
theorem dX6_lower_43 : decode prog_8_method_9_code 43 = .ok (.iconst 0, 1) := by decide +kernel
theorem dX6_lower_44 : decode prog_8_method_9_code 44 = .ok (.iastore, 1) := by decide +kernel
theorem dX6_lower_45 : decode prog_8_method_9_code 45 = .ok (.return_, 1) := by decide +kernel
theorem dX6_lower_46 : decode prog_8_method_9_code 46 = .ok (.lload_n 2, 1) := by decide +kernel
theorem dX6_lower_47 : decode prog_8_method_9_code 47 = .ok (.l2i, 1) := by decide +kernel
theorem dX6_lower_48 : decode prog_8_method_9_code 48 = .ok (.istore 4, 2) := by decide +kernel
theorem dX6_lower_50 : decode prog_8_method_9_code 50 = .ok (.aload_n 0, 1) := by decide +kernel
theorem dX6_lower_51 : decode prog_8_method_9_code 51 = .ok (.getfield 24, 3) := by decide +kernel
theorem dX6_lower_54 : decode prog_8_method_9_code 54 = .ok (.sipush 17000, 3) := by decide +kernel
theorem dX6_lower_57 : decode prog_8_method_9_code 57 = .ok (.iload_n 1, 1) := by decide +kernel
theorem dX6_lower_58 : decode prog_8_method_9_code 58 = .ok (.imul, 1) := by decide +kernel
theorem dX6_lower_59 : decode prog_8_method_9_code 59 = .ok (.iload 4, 2) := by decide +kernel
theorem dX6_lower_61 : decode prog_8_method_9_code 61 = .ok (.iadd, 1) := by decide +kernel
theorem dX6_lower_62 : decode prog_8_method_9_code 62 = .ok (.iconst 1, 1) := by decide +kernel
theorem dX6_lower_63 : decode prog_8_method_9_code 63 = .ok (.isub, 1) := by decide +kernel
theorem dX6_lower_64 : decode prog_8_method_9_code 64 = .ok (.iaload, 1) := by decide +kernel
theorem dX6_lower_65 : decode prog_8_method_9_code 65 = .ok (.istore 5, 2) := by decide +kernel
theorem dX6_lower_67 : decode prog_8_method_9_code 67 = .ok (.iconst 0, 1) := by decide +kernel
theorem dX6_lower_68 : decode prog_8_method_9_code 68 = .ok (.istore 6, 2) := by decide +kernel
theorem dX6_lower_70 : decode prog_8_method_9_code 70 = .ok (.iconst 0, 1) := by decide +kernel
theorem dX6_lower_71 : decode prog_8_method_9_code 71 = .ok (.istore 7, 2) := by decide +kernel
theorem dX6_lower_73 : decode prog_8_method_9_code 73 = .ok (.iload 7, 2) := by decide +kernel
theorem dX6_lower_75 : decode prog_8_method_9_code 75 = .ok (.iload 4, 2) := by decide +kernel
theorem dX6_lower_77 : decode prog_8_method_9_code 77 = .ok (.iconst 1, 1) := by decide +kernel
theorem dX6_lower_78 : decode prog_8_method_9_code 78 = .ok (.isub, 1) := by decide +kernel
theorem dX6_lower_79 : decode prog_8_method_9_code 79 = .ok (.if_icmp .ge 37, 3) := by decide +kernel
theorem dX6_lower_82 : decode prog_8_method_9_code 82 = .ok (.iload 6, 2) := by decide +kernel
theorem dX6_lower_84 : decode prog_8_method_9_code 84 = .ok (.ifCond .ne 19, 3) := by decide +kernel
theorem dX6_lower_87 : decode prog_8_method_9_code 87 = .ok (.aload_n 0, 1) := by decide +kernel
theorem dX6_lower_88 : decode prog_8_method_9_code 88 = .ok (.getfield 24, 3) := by decide +kernel
theorem dX6_lower_91 : decode prog_8_method_9_code 91 = .ok (.sipush 17000, 3) := by decide +kernel
theorem dX6_lower_94 : decode prog_8_method_9_code 94 = .ok (.iload_n 1, 1) := by decide +kernel
theorem dX6_lower_95 : decode prog_8_method_9_code 95 = .ok (.imul, 1) := by decide +kernel
theorem dX6_lower_96 : decode prog_8_method_9_code 96 = .ok (.iload 7, 2) := by decide +kernel
theorem dX6_lower_98 : decode prog_8_method_9_code 98 = .ok (.iadd, 1) := by decide +kernel
theorem dX6_lower_99 : decode prog_8_method_9_code 99 = .ok (.iaload, 1) := by decide +kernel
theorem dX6_lower_100 : decode prog_8_method_9_code 100 = .ok (.ifCond .le 7, 3) := by decide +kernel
theorem dX6_lower_103 : decode prog_8_method_9_code 103 = .ok (.iconst 1, 1) := by decide +kernel
theorem dX6_lower_104 : decode prog_8_method_9_code 104 = .ok (.goto 4, 3) := by decide +kernel
theorem dX6_lower_107 : decode prog_8_method_9_code 107 = .ok (.iconst 0, 1) := by decide +kernel
theorem dX6_lower_108 : decode prog_8_method_9_code 108 = .ok (.istore 6, 2) := by decide +kernel
theorem dX6_lower_110 : decode prog_8_method_9_code 110 = .ok (.iinc 7 1, 3) := by decide +kernel
theorem dX6_lower_113 : decode prog_8_method_9_code 113 = .ok (.goto (-40), 3) := by decide +kernel
theorem dX6_lower_116 : decode prog_8_method_9_code 116 = .ok (.aload_n 0, 1) := by decide +kernel
theorem dX6_lower_117 : decode prog_8_method_9_code 117 = .ok (.iload 5, 2) := by decide +kernel
theorem dX6_lower_119 : decode prog_8_method_9_code 119 = .ok (.iconst 5, 1) := by decide +kernel
theorem dX6_lower_120 : decode prog_8_method_9_code 120 = .ok (.if_icmp .gt 14, 3) := by decide +kernel
theorem dX6_lower_123 : decode prog_8_method_9_code 123 = .ok (.iload 5, 2) := by decide +kernel
theorem dX6_lower_125 : decode prog_8_method_9_code 125 = .ok (.iconst 5, 1) := by decide +kernel
theorem dX6_lower_126 : decode prog_8_method_9_code 126 = .ok (.if_icmp .ne 12, 3) := by decide +kernel
theorem dX6_lower_129 : decode prog_8_method_9_code 129 = .ok (.iload 6, 2) := by decide +kernel
theorem dX6_lower_131 : decode prog_8_method_9_code 131 = .ok (.ifCond .eq 7, 3) := by decide +kernel
theorem dX6_lower_134 : decode prog_8_method_9_code 134 = .ok (.iconst 3, 1) := by decide +kernel
theorem dX6_lower_135 : decode prog_8_method_9_code 135 = .ok (.goto 28, 3) := by decide +kernel
theorem dX6_lower_138 : decode prog_8_method_9_code 138 = .ok (.iload 5, 2) := by decide +kernel
theorem dX6_lower_140 : decode prog_8_method_9_code 140 = .ok (.iconst 5, 1) := by decide +kernel
theorem dX6_lower_141 : decode prog_8_method_9_code 141 = .ok (.if_icmp .ne 7, 3) := by decide +kernel
theorem dX6_lower_144 : decode prog_8_method_9_code 144 = .ok (.iconst 2, 1) := by decide +kernel
theorem dX6_lower_145 : decode prog_8_method_9_code 145 = .ok (.goto 18, 3) := by decide +kernel
theorem dX6_lower_148 : decode prog_8_method_9_code 148 = .ok (.iload 5, 2) := by decide +kernel
theorem dX6_lower_150 : decode prog_8_method_9_code 150 = .ok (.ifCond .gt 8, 3) := by decide +kernel
theorem dX6_lower_153 : decode prog_8_method_9_code 153 = .ok (.iload 6, 2) := by decide +kernel
theorem dX6_lower_155 : decode prog_8_method_9_code 155 = .ok (.ifCond .eq 7, 3) := by decide +kernel
theorem dX6_lower_158 : decode prog_8_method_9_code 158 = .ok (.iconst 1, 1) := by decide +kernel
theorem dX6_lower_159 : decode prog_8_method_9_code 159 = .ok (.goto 4, 3) := by decide +kernel
theorem dX6_lower_162 : decode prog_8_method_9_code 162 = .ok (.iconst 0, 1) := by decide +kernel
theorem dX6_lower_163 : decode prog_8_method_9_code 163 = .ok (.putfield 40, 3) := by decide +kernel
theorem dX6_lower_166 : decode prog_8_method_9_code 166 = .ok (.iload 4, 2) := by decide +kernel
theorem dX6_lower_168 : decode prog_8_method_9_code 168 = .ok (.istore 7, 2) := by decide +kernel
theorem dX6_lower_170 : decode prog_8_method_9_code 170 = .ok (.iload 7, 2) := by decide +kernel
theorem dX6_lower_172 : decode prog_8_method_9_code 172 = .ok (.aload_n 0, 1) := by decide +kernel
theorem dX6_lower_173 : decode prog_8_method_9_code 173 = .ok (.getfield 27, 3) := by decide +kernel
theorem dX6_lower_176 : decode prog_8_method_9_code 176 = .ok (.iload_n 1, 1) := by decide +kernel
theorem dX6_lower_177 : decode prog_8_method_9_code 177 = .ok (.iaload, 1) := by decide +kernel
theorem dX6_lower_178 : decode prog_8_method_9_code 178 = .ok (.if_icmp .ge 38, 3) := by decide +kernel
theorem dX6_lower_181 : decode prog_8_method_9_code 181 = .ok (.aload_n 0, 1) := by decide +kernel
theorem dX6_lower_182 : decode prog_8_method_9_code 182 = .ok (.getfield 24, 3) := by decide +kernel
theorem dX6_lower_185 : decode prog_8_method_9_code 185 = .ok (.sipush 17000, 3) := by decide +kernel
theorem dX6_lower_188 : decode prog_8_method_9_code 188 = .ok (.iload_n 1, 1) := by decide +kernel
theorem dX6_lower_189 : decode prog_8_method_9_code 189 = .ok (.imul, 1) := by decide +kernel
theorem dX6_lower_190 : decode prog_8_method_9_code 190 = .ok (.iload 7, 2) := by decide +kernel
theorem dX6_lower_192 : decode prog_8_method_9_code 192 = .ok (.iadd, 1) := by decide +kernel
theorem dX6_lower_193 : decode prog_8_method_9_code 193 = .ok (.iload 4, 2) := by decide +kernel
theorem dX6_lower_195 : decode prog_8_method_9_code 195 = .ok (.isub, 1) := by decide +kernel
theorem dX6_lower_196 : decode prog_8_method_9_code 196 = .ok (.aload_n 0, 1) := by decide +kernel
theorem dX6_lower_197 : decode prog_8_method_9_code 197 = .ok (.getfield 24, 3) := by decide +kernel
theorem dX6_lower_200 : decode prog_8_method_9_code 200 = .ok (.sipush 17000, 3) := by decide +kernel
theorem dX6_lower_203 : decode prog_8_method_9_code 203 = .ok (.iload_n 1, 1) := by decide +kernel
theorem dX6_lower_204 : decode prog_8_method_9_code 204 = .ok (.imul, 1) := by decide +kernel
theorem dX6_lower_205 : decode prog_8_method_9_code 205 = .ok (.iload 7, 2) := by decide +kernel
theorem dX6_lower_207 : decode prog_8_method_9_code 207 = .ok (.iadd, 1) := by decide +kernel
theorem dX6_lower_208 : decode prog_8_method_9_code 208 = .ok (.iaload, 1) := by decide +kernel
theorem dX6_lower_209 : decode prog_8_method_9_code 209 = .ok (.iastore, 1) := by decide +kernel
theorem dX6_lower_210 : decode prog_8_method_9_code 210 = .ok (.iinc 7 1, 3) := by decide +kernel
theorem dX6_lower_213 : decode prog_8_method_9_code 213 = .ok (.goto (-43), 3) := by decide +kernel
theorem dX6_lower_216 : decode prog_8_method_9_code 216 = .ok (.aload_n 0, 1) := by decide +kernel
theorem dX6_lower_217 : decode prog_8_method_9_code 217 = .ok (.getfield 27, 3) := by decide +kernel
theorem dX6_lower_220 : decode prog_8_method_9_code 220 = .ok (.iload_n 1, 1) := by decide +kernel
theorem dX6_lower_221 : decode prog_8_method_9_code 221 = .ok (.dup2, 1) := by decide +kernel
theorem dX6_lower_222 : decode prog_8_method_9_code 222 = .ok (.iaload, 1) := by decide +kernel
theorem dX6_lower_223 : decode prog_8_method_9_code 223 = .ok (.iload 4, 2) := by decide +kernel
theorem dX6_lower_225 : decode prog_8_method_9_code 225 = .ok (.isub, 1) := by decide +kernel
theorem dX6_lower_226 : decode prog_8_method_9_code 226 = .ok (.iastore, 1) := by decide +kernel
theorem dX6_lower_227 : decode prog_8_method_9_code 227 = .ok (.return_, 1) := by decide +kernel
theorem dX6_zeros_0 : decode prog_8_method_10_code 0 = .ok (.iconst 0, 1) := by decide +kernel
theorem dX6_zeros_1 : decode prog_8_method_10_code 1 = .ok (.istore_n 2, 1) := by decide +kernel
theorem dX6_zeros_2 : decode prog_8_method_10_code 2 = .ok (.iload_n 2, 1) := by decide +kernel
theorem dX6_zeros_3 : decode prog_8_method_10_code 3 = .ok (.aload_n 0, 1) := by decide +kernel
theorem dX6_zeros_4 : decode prog_8_method_10_code 4 = .ok (.getfield 27, 3) := by decide +kernel
theorem dX6_zeros_7 : decode prog_8_method_10_code 7 = .ok (.iload_n 1, 1) := by decide +kernel
theorem dX6_zeros_8 : decode prog_8_method_10_code 8 = .ok (.iaload, 1) := by decide +kernel
theorem dX6_zeros_9 : decode prog_8_method_10_code 9 = .ok (.if_icmp .ge 24, 3) := by decide +kernel
theorem dX6_zeros_12 : decode prog_8_method_10_code 12 = .ok (.aload_n 0, 1) := by decide +kernel
theorem dX6_zeros_13 : decode prog_8_method_10_code 13 = .ok (.getfield 24, 3) := by decide +kernel
theorem dX6_zeros_16 : decode prog_8_method_10_code 16 = .ok (.sipush 17000, 3) := by decide +kernel
theorem dX6_zeros_19 : decode prog_8_method_10_code 19 = .ok (.iload_n 1, 1) := by decide +kernel
theorem dX6_zeros_20 : decode prog_8_method_10_code 20 = .ok (.imul, 1) := by decide +kernel
theorem dX6_zeros_21 : decode prog_8_method_10_code 21 = .ok (.iload_n 2, 1) := by decide +kernel
theorem dX6_zeros_22 : decode prog_8_method_10_code 22 = .ok (.iadd, 1) := by decide +kernel
theorem dX6_zeros_23 : decode prog_8_method_10_code 23 = .ok (.iaload, 1) := by decide +kernel
theorem dX6_zeros_24 : decode prog_8_method_10_code 24 = .ok (.ifCond .ne 9, 3) := by decide +kernel
theorem dX6_zeros_27 : decode prog_8_method_10_code 27 = .ok (.iinc 2 1, 3) := by decide +kernel
theorem dX6_zeros_30 : decode prog_8_method_10_code 30 = .ok (.goto (-28), 3) := by decide +kernel
theorem dX6_zeros_33 : decode prog_8_method_10_code 33 = .ok (.iload_n 2, 1) := by decide +kernel
theorem dX6_zeros_34 : decode prog_8_method_10_code 34 = .ok (.ireturn, 1) := by decide +kernel
theorem dX6_compareRows_0 : decode prog_8_method_11_code 0 = .ok (.aload_n 0, 1) := by decide +kernel
theorem dX6_compareRows_1 : decode prog_8_method_11_code 1 = .ok (.getfield 27, 3) := by decide +kernel
theorem dX6_compareRows_4 : decode prog_8_method_11_code 4 = .ok (.iload_n 1, 1) := by decide +kernel
theorem dX6_compareRows_5 : decode prog_8_method_11_code 5 = .ok (.iaload, 1) := by decide +kernel
theorem dX6_compareRows_6 : decode prog_8_method_11_code 6 = .ok (.aload_n 0, 1) := by decide +kernel
theorem dX6_compareRows_7 : decode prog_8_method_11_code 7 = .ok (.getfield 27, 3) := by decide +kernel
theorem dX6_compareRows_10 : decode prog_8_method_11_code 10 = .ok (.iload_n 2, 1) := by decide +kernel
theorem dX6_compareRows_11 : decode prog_8_method_11_code 11 = .ok (.iaload, 1) := by decide +kernel
theorem dX6_compareRows_12 : decode prog_8_method_11_code 12 = .ok (.if_icmp .eq 24, 3) := by decide +kernel
theorem dX6_compareRows_15 : decode prog_8_method_11_code 15 = .ok (.aload_n 0, 1) := by decide +kernel
theorem dX6_compareRows_16 : decode prog_8_method_11_code 16 = .ok (.getfield 27, 3) := by decide +kernel
theorem dX6_compareRows_19 : decode prog_8_method_11_code 19 = .ok (.iload_n 1, 1) := by decide +kernel
theorem dX6_compareRows_20 : decode prog_8_method_11_code 20 = .ok (.iaload, 1) := by decide +kernel
theorem dX6_compareRows_21 : decode prog_8_method_11_code 21 = .ok (.aload_n 0, 1) := by decide +kernel
theorem dX6_compareRows_22 : decode prog_8_method_11_code 22 = .ok (.getfield 27, 3) := by decide +kernel
theorem dX6_compareRows_25 : decode prog_8_method_11_code 25 = .ok (.iload_n 2, 1) := by decide +kernel
theorem dX6_compareRows_26 : decode prog_8_method_11_code 26 = .ok (.iaload, 1) := by decide +kernel
theorem dX6_compareRows_27 : decode prog_8_method_11_code 27 = .ok (.if_icmp .ge 7, 3) := by decide +kernel
theorem dX6_compareRows_30 : decode prog_8_method_11_code 30 = .ok (.iconst (-1), 1) := by decide +kernel
theorem dX6_compareRows_31 : decode prog_8_method_11_code 31 = .ok (.goto 4, 3) := by decide +kernel
theorem dX6_compareRows_34 : decode prog_8_method_11_code 34 = .ok (.iconst 1, 1) := by decide +kernel
theorem dX6_compareRows_35 : decode prog_8_method_11_code 35 = .ok (.ireturn, 1) := by decide +kernel
theorem dX6_compareRows_36 : decode prog_8_method_11_code 36 = .ok (.aload_n 0, 1) := by decide +kernel
theorem dX6_compareRows_37 : decode prog_8_method_11_code 37 = .ok (.getfield 27, 3) := by decide +kernel
theorem dX6_compareRows_40 : decode prog_8_method_11_code 40 = .ok (.iload_n 1, 1) := by decide +kernel
theorem dX6_compareRows_41 : decode prog_8_method_11_code 41 = .ok (.iaload, 1) := by decide +kernel
theorem dX6_compareRows_42 : decode prog_8_method_11_code 42 = .ok (.iconst 1, 1) := by decide +kernel
theorem dX6_compareRows_43 : decode prog_8_method_11_code 43 = .ok (.isub, 1) := by decide +kernel
theorem dX6_compareRows_44 : decode prog_8_method_11_code 44 = .ok (.istore_n 3, 1) := by decide +kernel
theorem dX6_compareRows_45 : decode prog_8_method_11_code 45 = .ok (.iload_n 3, 1) := by decide +kernel
theorem dX6_compareRows_46 : decode prog_8_method_11_code 46 = .ok (.ifCond .lt 36, 3) := by decide +kernel
theorem dX6_compareRows_49 : decode prog_8_method_11_code 49 = .ok (.aload_n 0, 1) := by decide +kernel
theorem dX6_compareRows_50 : decode prog_8_method_11_code 50 = .ok (.getfield 24, 3) := by decide +kernel
theorem dX6_compareRows_53 : decode prog_8_method_11_code 53 = .ok (.sipush 17000, 3) := by decide +kernel
theorem dX6_compareRows_56 : decode prog_8_method_11_code 56 = .ok (.iload_n 1, 1) := by decide +kernel
theorem dX6_compareRows_57 : decode prog_8_method_11_code 57 = .ok (.imul, 1) := by decide +kernel
theorem dX6_compareRows_58 : decode prog_8_method_11_code 58 = .ok (.iload_n 3, 1) := by decide +kernel
theorem dX6_compareRows_59 : decode prog_8_method_11_code 59 = .ok (.iadd, 1) := by decide +kernel
theorem dX6_compareRows_60 : decode prog_8_method_11_code 60 = .ok (.iaload, 1) := by decide +kernel
theorem dX6_compareRows_61 : decode prog_8_method_11_code 61 = .ok (.aload_n 0, 1) := by decide +kernel
theorem dX6_compareRows_62 : decode prog_8_method_11_code 62 = .ok (.getfield 24, 3) := by decide +kernel
theorem dX6_compareRows_65 : decode prog_8_method_11_code 65 = .ok (.sipush 17000, 3) := by decide +kernel
theorem dX6_compareRows_68 : decode prog_8_method_11_code 68 = .ok (.iload_n 2, 1) := by decide +kernel
theorem dX6_compareRows_69 : decode prog_8_method_11_code 69 = .ok (.imul, 1) := by decide +kernel
theorem dX6_compareRows_70 : decode prog_8_method_11_code 70 = .ok (.iload_n 3, 1) := by decide +kernel
theorem dX6_compareRows_71 : decode prog_8_method_11_code 71 = .ok (.iadd, 1) := by decide +kernel
theorem dX6_compareRows_72 : decode prog_8_method_11_code 72 = .ok (.iaload, 1) := by decide +kernel
theorem dX6_compareRows_73 : decode prog_8_method_11_code 73 = .ok (.if_icmp .ne 9, 3) := by decide +kernel
theorem dX6_compareRows_76 : decode prog_8_method_11_code 76 = .ok (.iinc 3 (-1), 3) := by decide +kernel
theorem dX6_compareRows_79 : decode prog_8_method_11_code 79 = .ok (.goto (-34), 3) := by decide +kernel
theorem dX6_compareRows_82 : decode prog_8_method_11_code 82 = .ok (.iload_n 3, 1) := by decide +kernel
theorem dX6_compareRows_83 : decode prog_8_method_11_code 83 = .ok (.ifCond .ge 7, 3) := by decide +kernel
theorem dX6_compareRows_86 : decode prog_8_method_11_code 86 = .ok (.iconst 0, 1) := by decide +kernel
theorem dX6_compareRows_87 : decode prog_8_method_11_code 87 = .ok (.goto 35, 3) := by decide +kernel
theorem dX6_compareRows_90 : decode prog_8_method_11_code 90 = .ok (.aload_n 0, 1) := by decide +kernel
theorem dX6_compareRows_91 : decode prog_8_method_11_code 91 = .ok (.getfield 24, 3) := by decide +kernel
theorem dX6_compareRows_94 : decode prog_8_method_11_code 94 = .ok (.sipush 17000, 3) := by decide +kernel
theorem dX6_compareRows_97 : decode prog_8_method_11_code 97 = .ok (.iload_n 1, 1) := by decide +kernel
theorem dX6_compareRows_98 : decode prog_8_method_11_code 98 = .ok (.imul, 1) := by decide +kernel
theorem dX6_compareRows_99 : decode prog_8_method_11_code 99 = .ok (.iload_n 3, 1) := by decide +kernel
theorem dX6_compareRows_100 : decode prog_8_method_11_code 100 = .ok (.iadd, 1) := by decide +kernel
theorem dX6_compareRows_101 : decode prog_8_method_11_code 101 = .ok (.iaload, 1) := by decide +kernel
theorem dX6_compareRows_102 : decode prog_8_method_11_code 102 = .ok (.aload_n 0, 1) := by decide +kernel
theorem dX6_compareRows_103 : decode prog_8_method_11_code 103 = .ok (.getfield 24, 3) := by decide +kernel
theorem dX6_compareRows_106 : decode prog_8_method_11_code 106 = .ok (.sipush 17000, 3) := by decide +kernel
theorem dX6_compareRows_109 : decode prog_8_method_11_code 109 = .ok (.iload_n 2, 1) := by decide +kernel
theorem dX6_compareRows_110 : decode prog_8_method_11_code 110 = .ok (.imul, 1) := by decide +kernel
theorem dX6_compareRows_111 : decode prog_8_method_11_code 111 = .ok (.iload_n 3, 1) := by decide +kernel
theorem dX6_compareRows_112 : decode prog_8_method_11_code 112 = .ok (.iadd, 1) := by decide +kernel
theorem dX6_compareRows_113 : decode prog_8_method_11_code 113 = .ok (.iaload, 1) := by decide +kernel
theorem dX6_compareRows_114 : decode prog_8_method_11_code 114 = .ok (.if_icmp .ge 7, 3) := by decide +kernel
theorem dX6_compareRows_117 : decode prog_8_method_11_code 117 = .ok (.iconst (-1), 1) := by decide +kernel
theorem dX6_compareRows_118 : decode prog_8_method_11_code 118 = .ok (.goto 4, 3) := by decide +kernel
theorem dX6_compareRows_121 : decode prog_8_method_11_code 121 = .ok (.iconst 1, 1) := by decide +kernel
theorem dX6_compareRows_122 : decode prog_8_method_11_code 122 = .ok (.ireturn, 1) := by decide +kernel
theorem dX6_plus_0 : decode prog_8_method_12_code 0 = .ok (.aload_n 0, 1) := by decide +kernel
theorem dX6_plus_1 : decode prog_8_method_12_code 1 = .ok (.getfield 27, 3) := by decide +kernel
theorem dX6_plus_4 : decode prog_8_method_12_code 4 = .ok (.iload_n 1, 1) := by decide +kernel
theorem dX6_plus_5 : decode prog_8_method_12_code 5 = .ok (.iaload, 1) := by decide +kernel
theorem dX6_plus_6 : decode prog_8_method_12_code 6 = .ok (.aload_n 0, 1) := by decide +kernel
theorem dX6_plus_7 : decode prog_8_method_12_code 7 = .ok (.getfield 27, 3) := by decide +kernel
theorem dX6_plus_10 : decode prog_8_method_12_code 10 = .ok (.iload_n 2, 1) := by decide +kernel
theorem dX6_plus_11 : decode prog_8_method_12_code 11 = .ok (.iaload, 1) := by decide +kernel
theorem dX6_plus_12 : decode prog_8_method_12_code 12 = .ok (.if_icmp .le 12, 3) := by decide +kernel
theorem dX6_plus_15 : decode prog_8_method_12_code 15 = .ok (.aload_n 0, 1) := by decide +kernel
theorem dX6_plus_16 : decode prog_8_method_12_code 16 = .ok (.getfield 27, 3) := by decide +kernel
theorem dX6_plus_19 : decode prog_8_method_12_code 19 = .ok (.iload_n 1, 1) := by decide +kernel
theorem dX6_plus_20 : decode prog_8_method_12_code 20 = .ok (.iaload, 1) := by decide +kernel
theorem dX6_plus_21 : decode prog_8_method_12_code 21 = .ok (.goto 9, 3) := by decide +kernel
theorem dX6_plus_24 : decode prog_8_method_12_code 24 = .ok (.aload_n 0, 1) := by decide +kernel
theorem dX6_plus_25 : decode prog_8_method_12_code 25 = .ok (.getfield 27, 3) := by decide +kernel
theorem dX6_plus_28 : decode prog_8_method_12_code 28 = .ok (.iload_n 2, 1) := by decide +kernel
theorem dX6_plus_29 : decode prog_8_method_12_code 29 = .ok (.iaload, 1) := by decide +kernel
theorem dX6_plus_30 : decode prog_8_method_12_code 30 = .ok (.istore_n 3, 1) := by decide +kernel
theorem dX6_plus_31 : decode prog_8_method_12_code 31 = .ok (.iconst 0, 1) := by decide +kernel
theorem dX6_plus_32 : decode prog_8_method_12_code 32 = .ok (.istore 4, 2) := by decide +kernel
theorem dX6_plus_34 : decode prog_8_method_12_code 34 = .ok (.iconst 0, 1) := by decide +kernel
theorem dX6_plus_35 : decode prog_8_method_12_code 35 = .ok (.istore 5, 2) := by decide +kernel
theorem dX6_plus_37 : decode prog_8_method_12_code 37 = .ok (.iload 5, 2) := by decide +kernel
theorem dX6_plus_39 : decode prog_8_method_12_code 39 = .ok (.iload_n 3, 1) := by decide +kernel
theorem dX6_plus_40 : decode prog_8_method_12_code 40 = .ok (.if_icmp .gt 96, 3) := by decide +kernel
theorem dX6_plus_43 : decode prog_8_method_12_code 43 = .ok (.iload 5, 2) := by decide +kernel
theorem dX6_plus_45 : decode prog_8_method_12_code 45 = .ok (.aload_n 0, 1) := by decide +kernel
theorem dX6_plus_46 : decode prog_8_method_12_code 46 = .ok (.getfield 27, 3) := by decide +kernel
theorem dX6_plus_49 : decode prog_8_method_12_code 49 = .ok (.iload_n 1, 1) := by decide +kernel
theorem dX6_plus_50 : decode prog_8_method_12_code 50 = .ok (.iaload, 1) := by decide +kernel
theorem dX6_plus_51 : decode prog_8_method_12_code 51 = .ok (.if_icmp .ge 19, 3) := by decide +kernel
theorem dX6_plus_54 : decode prog_8_method_12_code 54 = .ok (.aload_n 0, 1) := by decide +kernel
theorem dX6_plus_55 : decode prog_8_method_12_code 55 = .ok (.getfield 24, 3) := by decide +kernel
theorem dX6_plus_58 : decode prog_8_method_12_code 58 = .ok (.sipush 17000, 3) := by decide +kernel
theorem dX6_plus_61 : decode prog_8_method_12_code 61 = .ok (.iload_n 1, 1) := by decide +kernel
theorem dX6_plus_62 : decode prog_8_method_12_code 62 = .ok (.imul, 1) := by decide +kernel
theorem dX6_plus_63 : decode prog_8_method_12_code 63 = .ok (.iload 5, 2) := by decide +kernel
theorem dX6_plus_65 : decode prog_8_method_12_code 65 = .ok (.iadd, 1) := by decide +kernel
theorem dX6_plus_66 : decode prog_8_method_12_code 66 = .ok (.iaload, 1) := by decide +kernel
theorem dX6_plus_67 : decode prog_8_method_12_code 67 = .ok (.goto 4, 3) := by decide +kernel
theorem dX6_plus_70 : decode prog_8_method_12_code 70 = .ok (.iconst 0, 1) := by decide +kernel
theorem dX6_plus_71 : decode prog_8_method_12_code 71 = .ok (.iload 5, 2) := by decide +kernel
theorem dX6_plus_73 : decode prog_8_method_12_code 73 = .ok (.aload_n 0, 1) := by decide +kernel
theorem dX6_plus_74 : decode prog_8_method_12_code 74 = .ok (.getfield 27, 3) := by decide +kernel
theorem dX6_plus_77 : decode prog_8_method_12_code 77 = .ok (.iload_n 2, 1) := by decide +kernel
theorem dX6_plus_78 : decode prog_8_method_12_code 78 = .ok (.iaload, 1) := by decide +kernel
theorem dX6_plus_79 : decode prog_8_method_12_code 79 = .ok (.if_icmp .ge 19, 3) := by decide +kernel
theorem dX6_plus_82 : decode prog_8_method_12_code 82 = .ok (.aload_n 0, 1) := by decide +kernel
theorem dX6_plus_83 : decode prog_8_method_12_code 83 = .ok (.getfield 24, 3) := by decide +kernel
theorem dX6_plus_86 : decode prog_8_method_12_code 86 = .ok (.sipush 17000, 3) := by decide +kernel
theorem dX6_plus_89 : decode prog_8_method_12_code 89 = .ok (.iload_n 2, 1) := by decide +kernel
theorem dX6_plus_90 : decode prog_8_method_12_code 90 = .ok (.imul, 1) := by decide +kernel
theorem dX6_plus_91 : decode prog_8_method_12_code 91 = .ok (.iload 5, 2) := by decide +kernel
theorem dX6_plus_93 : decode prog_8_method_12_code 93 = .ok (.iadd, 1) := by decide +kernel
theorem dX6_plus_94 : decode prog_8_method_12_code 94 = .ok (.iaload, 1) := by decide +kernel
theorem dX6_plus_95 : decode prog_8_method_12_code 95 = .ok (.goto 4, 3) := by decide +kernel
theorem dX6_plus_98 : decode prog_8_method_12_code 98 = .ok (.iconst 0, 1) := by decide +kernel
theorem dX6_plus_99 : decode prog_8_method_12_code 99 = .ok (.iadd, 1) := by decide +kernel
theorem dX6_plus_100 : decode prog_8_method_12_code 100 = .ok (.iload 4, 2) := by decide +kernel
theorem dX6_plus_102 : decode prog_8_method_12_code 102 = .ok (.iadd, 1) := by decide +kernel
theorem dX6_plus_103 : decode prog_8_method_12_code 103 = .ok (.istore 6, 2) := by decide +kernel
theorem dX6_plus_105 : decode prog_8_method_12_code 105 = .ok (.aload_n 0, 1) := by decide +kernel
theorem dX6_plus_106 : decode prog_8_method_12_code 106 = .ok (.getfield 24, 3) := by decide +kernel
theorem dX6_plus_109 : decode prog_8_method_12_code 109 = .ok (.sipush 17000, 3) := by decide +kernel
theorem dX6_plus_112 : decode prog_8_method_12_code 112 = .ok (.iload_n 1, 1) := by decide +kernel
theorem dX6_plus_113 : decode prog_8_method_12_code 113 = .ok (.imul, 1) := by decide +kernel
theorem dX6_plus_114 : decode prog_8_method_12_code 114 = .ok (.iload 5, 2) := by decide +kernel
theorem dX6_plus_116 : decode prog_8_method_12_code 116 = .ok (.iadd, 1) := by decide +kernel
theorem dX6_plus_117 : decode prog_8_method_12_code 117 = .ok (.iload 6, 2) := by decide +kernel
theorem dX6_plus_119 : decode prog_8_method_12_code 119 = .ok (.bipush 10, 2) := by decide +kernel
theorem dX6_plus_121 : decode prog_8_method_12_code 121 = .ok (.irem, 1) := by decide +kernel
theorem dX6_plus_122 : decode prog_8_method_12_code 122 = .ok (.iastore, 1) := by decide +kernel
theorem dX6_plus_123 : decode prog_8_method_12_code 123 = .ok (.iload 6, 2) := by decide +kernel
theorem dX6_plus_125 : decode prog_8_method_12_code 125 = .ok (.bipush 10, 2) := by decide +kernel
theorem dX6_plus_127 : decode prog_8_method_12_code 127 = .ok (.idiv, 1) := by decide +kernel
theorem dX6_plus_128 : decode prog_8_method_12_code 128 = .ok (.istore 4, 2) := by decide +kernel
theorem dX6_plus_130 : decode prog_8_method_12_code 130 = .ok (.iinc 5 1, 3) := by decide +kernel
theorem dX6_plus_133 : decode prog_8_method_12_code 133 = .ok (.goto (-96), 3) := by decide +kernel
theorem dX6_plus_136 : decode prog_8_method_12_code 136 = .ok (.aload_n 0, 1) := by decide +kernel
theorem dX6_plus_137 : decode prog_8_method_12_code 137 = .ok (.iload_n 1, 1) := by decide +kernel
theorem dX6_plus_138 : decode prog_8_method_12_code 138 = .ok (.iload_n 3, 1) := by decide +kernel
theorem dX6_plus_139 : decode prog_8_method_12_code 139 = .ok (.iconst 1, 1) := by decide +kernel
theorem dX6_plus_140 : decode prog_8_method_12_code 140 = .ok (.iadd, 1) := by decide +kernel
theorem dX6_plus_141 : decode prog_8_method_12_code 141 = .ok (.invokevirtual 44, 3) := by decide +kernel
theorem dX6_plus_144 : decode prog_8_method_12_code 144 = .ok (.return_, 1) := by decide +kernel
theorem dX6_less_0 : decode prog_8_method_13_code 0 = .ok (.iconst 0, 1) := by decide +kernel
theorem dX6_less_1 : decode prog_8_method_13_code 1 = .ok (.istore_n 3, 1) := by decide +kernel
theorem dX6_less_2 : decode prog_8_method_13_code 2 = .ok (.iconst 0, 1) := by decide +kernel
theorem dX6_less_3 : decode prog_8_method_13_code 3 = .ok (.istore 4, 2) := by decide +kernel
theorem dX6_less_5 : decode prog_8_method_13_code 5 = .ok (.iload 4, 2) := by decide +kernel
theorem dX6_less_7 : decode prog_8_method_13_code 7 = .ok (.aload_n 0, 1) := by decide +kernel
theorem dX6_less_8 : decode prog_8_method_13_code 8 = .ok (.getfield 27, 3) := by decide +kernel
theorem dX6_less_11 : decode prog_8_method_13_code 11 = .ok (.iload_n 1, 1) := by decide +kernel
theorem dX6_less_12 : decode prog_8_method_13_code 12 = .ok (.iaload, 1) := by decide +kernel
theorem dX6_less_13 : decode prog_8_method_13_code 13 = .ok (.if_icmp .ge 94, 3) := by decide +kernel
theorem dX6_less_16 : decode prog_8_method_13_code 16 = .ok (.aload_n 0, 1) := by decide +kernel
theorem dX6_less_17 : decode prog_8_method_13_code 17 = .ok (.getfield 24, 3) := by decide +kernel
theorem dX6_less_20 : decode prog_8_method_13_code 20 = .ok (.sipush 17000, 3) := by decide +kernel
theorem dX6_less_23 : decode prog_8_method_13_code 23 = .ok (.iload_n 1, 1) := by decide +kernel
theorem dX6_less_24 : decode prog_8_method_13_code 24 = .ok (.imul, 1) := by decide +kernel
theorem dX6_less_25 : decode prog_8_method_13_code 25 = .ok (.iload 4, 2) := by decide +kernel
theorem dX6_less_27 : decode prog_8_method_13_code 27 = .ok (.iadd, 1) := by decide +kernel
theorem dX6_less_28 : decode prog_8_method_13_code 28 = .ok (.iaload, 1) := by decide +kernel
theorem dX6_less_29 : decode prog_8_method_13_code 29 = .ok (.iload 4, 2) := by decide +kernel
theorem dX6_less_31 : decode prog_8_method_13_code 31 = .ok (.aload_n 0, 1) := by decide +kernel
theorem dX6_less_32 : decode prog_8_method_13_code 32 = .ok (.getfield 27, 3) := by decide +kernel
theorem dX6_less_35 : decode prog_8_method_13_code 35 = .ok (.iload_n 2, 1) := by decide +kernel
theorem dX6_less_36 : decode prog_8_method_13_code 36 = .ok (.iaload, 1) := by decide +kernel
theorem dX6_less_37 : decode prog_8_method_13_code 37 = .ok (.if_icmp .ge 19, 3) := by decide +kernel
theorem dX6_less_40 : decode prog_8_method_13_code 40 = .ok (.aload_n 0, 1) := by decide +kernel
theorem dX6_less_41 : decode prog_8_method_13_code 41 = .ok (.getfield 24, 3) := by decide +kernel
theorem dX6_less_44 : decode prog_8_method_13_code 44 = .ok (.sipush 17000, 3) := by decide +kernel
theorem dX6_less_47 : decode prog_8_method_13_code 47 = .ok (.iload_n 2, 1) := by decide +kernel
theorem dX6_less_48 : decode prog_8_method_13_code 48 = .ok (.imul, 1) := by decide +kernel
