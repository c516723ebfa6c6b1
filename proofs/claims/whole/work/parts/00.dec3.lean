theorem dX6_less_49 : decode prog_8_method_13_code 49 = .ok (.iload 4, 2) := by decide +kernel
theorem dX6_less_51 : decode prog_8_method_13_code 51 = .ok (.iadd, 1) := by decide +kernel
theorem dX6_less_52 : decode prog_8_method_13_code 52 = .ok (.iaload, 1) := by decide +kernel
theorem dX6_less_53 : decode prog_8_method_13_code 53 = .ok (.goto 4, 3) := by decide +kernel
theorem dX6_less_56 : decode prog_8_method_13_code 56 = .ok (.iconst 0, 1) := by decide +kernel
theorem dX6_less_57 : decode prog_8_method_13_code 57 = .ok (.isub, 1) := by decide +kernel
theorem dX6_less_58 : decode prog_8_method_13_code 58 = .ok (.iload_n 3, 1) := by decide +kernel
theorem dX6_less_59 : decode prog_8_method_13_code 59 = .ok (.isub, 1) := by decide +kernel
theorem dX6_less_60 : decode prog_8_method_13_code 60 = .ok (.istore 5, 2) := by decide +kernel
theorem dX6_less_62 : decode prog_8_method_13_code 62 = .ok (.iload 5, 2) := by decide +kernel
theorem dX6_less_64 : decode prog_8_method_13_code 64 = .ok (.ifCond .ge 7, 3) := by decide +kernel
theorem dX6_less_67 : decode prog_8_method_13_code 67 = .ok (.iconst 1, 1) := by decide +kernel
theorem dX6_less_68 : decode prog_8_method_13_code 68 = .ok (.goto 4, 3) := by decide +kernel
theorem dX6_less_71 : decode prog_8_method_13_code 71 = .ok (.iconst 0, 1) := by decide +kernel
theorem dX6_less_72 : decode prog_8_method_13_code 72 = .ok (.istore_n 3, 1) := by decide +kernel
theorem dX6_less_73 : decode prog_8_method_13_code 73 = .ok (.aload_n 0, 1) := by decide +kernel
theorem dX6_less_74 : decode prog_8_method_13_code 74 = .ok (.getfield 24, 3) := by decide +kernel
theorem dX6_less_77 : decode prog_8_method_13_code 77 = .ok (.sipush 17000, 3) := by decide +kernel
theorem dX6_less_80 : decode prog_8_method_13_code 80 = .ok (.iload_n 1, 1) := by decide +kernel
theorem dX6_less_81 : decode prog_8_method_13_code 81 = .ok (.imul, 1) := by decide +kernel
theorem dX6_less_82 : decode prog_8_method_13_code 82 = .ok (.iload 4, 2) := by decide +kernel
theorem dX6_less_84 : decode prog_8_method_13_code 84 = .ok (.iadd, 1) := by decide +kernel
theorem dX6_less_85 : decode prog_8_method_13_code 85 = .ok (.iload 5, 2) := by decide +kernel
theorem dX6_less_87 : decode prog_8_method_13_code 87 = .ok (.ifCond .ge 11, 3) := by decide +kernel
theorem dX6_less_90 : decode prog_8_method_13_code 90 = .ok (.iload 5, 2) := by decide +kernel
theorem dX6_less_92 : decode prog_8_method_13_code 92 = .ok (.bipush 10, 2) := by decide +kernel
theorem dX6_less_94 : decode prog_8_method_13_code 94 = .ok (.iadd, 1) := by decide +kernel
theorem dX6_less_95 : decode prog_8_method_13_code 95 = .ok (.goto 5, 3) := by decide +kernel
theorem dX6_less_98 : decode prog_8_method_13_code 98 = .ok (.iload 5, 2) := by decide +kernel
theorem dX6_less_100 : decode prog_8_method_13_code 100 = .ok (.iastore, 1) := by decide +kernel
theorem dX6_less_101 : decode prog_8_method_13_code 101 = .ok (.iinc 4 1, 3) := by decide +kernel
theorem dX6_less_104 : decode prog_8_method_13_code 104 = .ok (.goto (-99), 3) := by decide +kernel
theorem dX6_less_107 : decode prog_8_method_13_code 107 = .ok (.aload_n 0, 1) := by decide +kernel
theorem dX6_less_108 : decode prog_8_method_13_code 108 = .ok (.iload_n 1, 1) := by decide +kernel
theorem dX6_less_109 : decode prog_8_method_13_code 109 = .ok (.aload_n 0, 1) := by decide +kernel
theorem dX6_less_110 : decode prog_8_method_13_code 110 = .ok (.getfield 27, 3) := by decide +kernel
theorem dX6_less_113 : decode prog_8_method_13_code 113 = .ok (.iload_n 1, 1) := by decide +kernel
theorem dX6_less_114 : decode prog_8_method_13_code 114 = .ok (.iaload, 1) := by decide +kernel
theorem dX6_less_115 : decode prog_8_method_13_code 115 = .ok (.invokevirtual 44, 3) := by decide +kernel
theorem dX6_less_118 : decode prog_8_method_13_code 118 = .ok (.return_, 1) := by decide +kernel
theorem dX6_one_0 : decode prog_8_method_14_code 0 = .ok (.iconst 0, 1) := by decide +kernel
theorem dX6_one_1 : decode prog_8_method_14_code 1 = .ok (.istore_n 2, 1) := by decide +kernel
theorem dX6_one_2 : decode prog_8_method_14_code 2 = .ok (.iload_n 2, 1) := by decide +kernel
theorem dX6_one_3 : decode prog_8_method_14_code 3 = .ok (.aload_n 0, 1) := by decide +kernel
theorem dX6_one_4 : decode prog_8_method_14_code 4 = .ok (.getfield 27, 3) := by decide +kernel
theorem dX6_one_7 : decode prog_8_method_14_code 7 = .ok (.iload_n 1, 1) := by decide +kernel
theorem dX6_one_8 : decode prog_8_method_14_code 8 = .ok (.iaload, 1) := by decide +kernel
theorem dX6_one_9 : decode prog_8_method_14_code 9 = .ok (.if_icmp .ge 39, 3) := by decide +kernel
theorem dX6_one_12 : decode prog_8_method_14_code 12 = .ok (.aload_n 0, 1) := by decide +kernel
theorem dX6_one_13 : decode prog_8_method_14_code 13 = .ok (.getfield 24, 3) := by decide +kernel
theorem dX6_one_16 : decode prog_8_method_14_code 16 = .ok (.sipush 17000, 3) := by decide +kernel
theorem dX6_one_19 : decode prog_8_method_14_code 19 = .ok (.iload_n 1, 1) := by decide +kernel
theorem dX6_one_20 : decode prog_8_method_14_code 20 = .ok (.imul, 1) := by decide +kernel
theorem dX6_one_21 : decode prog_8_method_14_code 21 = .ok (.iload_n 2, 1) := by decide +kernel
theorem dX6_one_22 : decode prog_8_method_14_code 22 = .ok (.iadd, 1) := by decide +kernel
theorem dX6_one_23 : decode prog_8_method_14_code 23 = .ok (.iaload, 1) := by decide +kernel
theorem dX6_one_24 : decode prog_8_method_14_code 24 = .ok (.bipush 9, 2) := by decide +kernel
theorem dX6_one_26 : decode prog_8_method_14_code 26 = .ok (.if_icmp .ne 22, 3) := by decide +kernel
theorem dX6_one_29 : decode prog_8_method_14_code 29 = .ok (.aload_n 0, 1) := by decide +kernel
theorem dX6_one_30 : decode prog_8_method_14_code 30 = .ok (.getfield 24, 3) := by decide +kernel
theorem dX6_one_33 : decode prog_8_method_14_code 33 = .ok (.sipush 17000, 3) := by decide +kernel
theorem dX6_one_36 : decode prog_8_method_14_code 36 = .ok (.iload_n 1, 1) := by decide +kernel
theorem dX6_one_37 : decode prog_8_method_14_code 37 = .ok (.imul, 1) := by decide +kernel
theorem dX6_one_38 : decode prog_8_method_14_code 38 = .ok (.iload_n 2, 1) := by decide +kernel
theorem dX6_one_39 : decode prog_8_method_14_code 39 = .ok (.iadd, 1) := by decide +kernel
theorem dX6_one_40 : decode prog_8_method_14_code 40 = .ok (.iconst 0, 1) := by decide +kernel
theorem dX6_one_41 : decode prog_8_method_14_code 41 = .ok (.iastore, 1) := by decide +kernel
theorem dX6_one_42 : decode prog_8_method_14_code 42 = .ok (.iinc 2 1, 3) := by decide +kernel
theorem dX6_one_45 : decode prog_8_method_14_code 45 = .ok (.goto (-43), 3) := by decide +kernel
theorem dX6_one_48 : decode prog_8_method_14_code 48 = .ok (.aload_n 0, 1) := by decide +kernel
theorem dX6_one_49 : decode prog_8_method_14_code 49 = .ok (.getfield 24, 3) := by decide +kernel
theorem dX6_one_52 : decode prog_8_method_14_code 52 = .ok (.sipush 17000, 3) := by decide +kernel
theorem dX6_one_55 : decode prog_8_method_14_code 55 = .ok (.iload_n 1, 1) := by decide +kernel
theorem dX6_one_56 : decode prog_8_method_14_code 56 = .ok (.imul, 1) := by decide +kernel
theorem dX6_one_57 : decode prog_8_method_14_code 57 = .ok (.iload_n 2, 1) := by decide +kernel
theorem dX6_one_58 : decode prog_8_method_14_code 58 = .ok (.iadd, 1) := by decide +kernel
theorem dX6_one_59 : decode prog_8_method_14_code 59 = .ok (.iload_n 2, 1) := by decide +kernel
theorem dX6_one_60 : decode prog_8_method_14_code 60 = .ok (.aload_n 0, 1) := by decide +kernel
theorem dX6_one_61 : decode prog_8_method_14_code 61 = .ok (.getfield 27, 3) := by decide +kernel
theorem dX6_one_64 : decode prog_8_method_14_code 64 = .ok (.iload_n 1, 1) := by decide +kernel
theorem dX6_one_65 : decode prog_8_method_14_code 65 = .ok (.iaload, 1) := by decide +kernel
theorem dX6_one_66 : decode prog_8_method_14_code 66 = .ok (.if_icmp .ge 20, 3) := by decide +kernel
theorem dX6_one_69 : decode prog_8_method_14_code 69 = .ok (.aload_n 0, 1) := by decide +kernel
theorem dX6_one_70 : decode prog_8_method_14_code 70 = .ok (.getfield 24, 3) := by decide +kernel
theorem dX6_one_73 : decode prog_8_method_14_code 73 = .ok (.sipush 17000, 3) := by decide +kernel
theorem dX6_one_76 : decode prog_8_method_14_code 76 = .ok (.iload_n 1, 1) := by decide +kernel
theorem dX6_one_77 : decode prog_8_method_14_code 77 = .ok (.imul, 1) := by decide +kernel
theorem dX6_one_78 : decode prog_8_method_14_code 78 = .ok (.iload_n 2, 1) := by decide +kernel
theorem dX6_one_79 : decode prog_8_method_14_code 79 = .ok (.iadd, 1) := by decide +kernel
theorem dX6_one_80 : decode prog_8_method_14_code 80 = .ok (.iaload, 1) := by decide +kernel
theorem dX6_one_81 : decode prog_8_method_14_code 81 = .ok (.iconst 1, 1) := by decide +kernel
theorem dX6_one_82 : decode prog_8_method_14_code 82 = .ok (.iadd, 1) := by decide +kernel
theorem dX6_one_83 : decode prog_8_method_14_code 83 = .ok (.goto 4, 3) := by decide +kernel
theorem dX6_one_86 : decode prog_8_method_14_code 86 = .ok (.iconst 1, 1) := by decide +kernel
theorem dX6_one_87 : decode prog_8_method_14_code 87 = .ok (.iastore, 1) := by decide +kernel
theorem dX6_one_88 : decode prog_8_method_14_code 88 = .ok (.aload_n 0, 1) := by decide +kernel
theorem dX6_one_89 : decode prog_8_method_14_code 89 = .ok (.getfield 27, 3) := by decide +kernel
theorem dX6_one_92 : decode prog_8_method_14_code 92 = .ok (.iload_n 1, 1) := by decide +kernel
theorem dX6_one_93 : decode prog_8_method_14_code 93 = .ok (.iload_n 2, 1) := by decide +kernel
theorem dX6_one_94 : decode prog_8_method_14_code 94 = .ok (.aload_n 0, 1) := by decide +kernel
theorem dX6_one_95 : decode prog_8_method_14_code 95 = .ok (.getfield 27, 3) := by decide +kernel
theorem dX6_one_98 : decode prog_8_method_14_code 98 = .ok (.iload_n 1, 1) := by decide +kernel
theorem dX6_one_99 : decode prog_8_method_14_code 99 = .ok (.iaload, 1) := by decide +kernel
theorem dX6_one_100 : decode prog_8_method_14_code 100 = .ok (.if_icmp .ge 12, 3) := by decide +kernel
theorem dX6_one_103 : decode prog_8_method_14_code 103 = .ok (.aload_n 0, 1) := by decide +kernel
theorem dX6_one_104 : decode prog_8_method_14_code 104 = .ok (.getfield 27, 3) := by decide +kernel
theorem dX6_one_107 : decode prog_8_method_14_code 107 = .ok (.iload_n 1, 1) := by decide +kernel
theorem dX6_one_108 : decode prog_8_method_14_code 108 = .ok (.iaload, 1) := by decide +kernel
theorem dX6_one_109 : decode prog_8_method_14_code 109 = .ok (.goto 11, 3) := by decide +kernel
theorem dX6_one_112 : decode prog_8_method_14_code 112 = .ok (.aload_n 0, 1) := by decide +kernel
theorem dX6_one_113 : decode prog_8_method_14_code 113 = .ok (.getfield 27, 3) := by decide +kernel
theorem dX6_one_116 : decode prog_8_method_14_code 116 = .ok (.iload_n 1, 1) := by decide +kernel
theorem dX6_one_117 : decode prog_8_method_14_code 117 = .ok (.iaload, 1) := by decide +kernel
theorem dX6_one_118 : decode prog_8_method_14_code 118 = .ok (.iconst 1, 1) := by decide +kernel
theorem dX6_one_119 : decode prog_8_method_14_code 119 = .ok (.iadd, 1) := by decide +kernel
theorem dX6_one_120 : decode prog_8_method_14_code 120 = .ok (.iastore, 1) := by decide +kernel
theorem dX6_one_121 : decode prog_8_method_14_code 121 = .ok (.return_, 1) := by decide +kernel
theorem dX6_product_0 : decode prog_8_method_15_code 0 = .ok (.aload_n 0, 1) := by decide +kernel
theorem dX6_product_1 : decode prog_8_method_15_code 1 = .ok (.getfield 27, 3) := by decide +kernel
theorem dX6_product_4 : decode prog_8_method_15_code 4 = .ok (.iconst 0, 1) := by decide +kernel
theorem dX6_product_5 : decode prog_8_method_15_code 5 = .ok (.iaload, 1) := by decide +kernel
theorem dX6_product_6 : decode prog_8_method_15_code 6 = .ok (.aload_n 0, 1) := by decide +kernel
theorem dX6_product_7 : decode prog_8_method_15_code 7 = .ok (.getfield 27, 3) := by decide +kernel
theorem dX6_product_10 : decode prog_8_method_15_code 10 = .ok (.iconst 1, 1) := by decide +kernel
theorem dX6_product_11 : decode prog_8_method_15_code 11 = .ok (.iaload, 1) := by decide +kernel
theorem dX6_product_12 : decode prog_8_method_15_code 12 = .ok (.iadd, 1) := by decide +kernel
theorem dX6_product_13 : decode prog_8_method_15_code 13 = .ok (.istore_n 1, 1) := by decide +kernel
theorem dX6_product_14 : decode prog_8_method_15_code 14 = .ok (.iconst 0, 1) := by decide +kernel
theorem dX6_product_15 : decode prog_8_method_15_code 15 = .ok (.istore_n 2, 1) := by decide +kernel
theorem dX6_product_16 : decode prog_8_method_15_code 16 = .ok (.iload_n 2, 1) := by decide +kernel
theorem dX6_product_17 : decode prog_8_method_15_code 17 = .ok (.iload_n 1, 1) := by decide +kernel
theorem dX6_product_18 : decode prog_8_method_15_code 18 = .ok (.if_icmp .ge 19, 3) := by decide +kernel
theorem dX6_product_21 : decode prog_8_method_15_code 21 = .ok (.aload_n 0, 1) := by decide +kernel
theorem dX6_product_22 : decode prog_8_method_15_code 22 = .ok (.getfield 24, 3) := by decide +kernel
theorem dX6_product_25 : decode prog_8_method_15_code 25 = .ok (.ldc 48, 2) := by decide +kernel
theorem dX6_product_27 : decode prog_8_method_15_code 27 = .ok (.iload_n 2, 1) := by decide +kernel
theorem dX6_product_28 : decode prog_8_method_15_code 28 = .ok (.iadd, 1) := by decide +kernel
theorem dX6_product_29 : decode prog_8_method_15_code 29 = .ok (.iconst 0, 1) := by decide +kernel
theorem dX6_product_30 : decode prog_8_method_15_code 30 = .ok (.iastore, 1) := by decide +kernel
theorem dX6_product_31 : decode prog_8_method_15_code 31 = .ok (.iinc 2 1, 3) := by decide +kernel
theorem dX6_product_34 : decode prog_8_method_15_code 34 = .ok (.goto (-18), 3) := by decide +kernel
theorem dX6_product_37 : decode prog_8_method_15_code 37 = .ok (.iconst 0, 1) := by decide +kernel
theorem dX6_product_38 : decode prog_8_method_15_code 38 = .ok (.istore_n 2, 1) := by decide +kernel
theorem dX6_product_39 : decode prog_8_method_15_code 39 = .ok (.iload_n 2, 1) := by decide +kernel
theorem dX6_product_40 : decode prog_8_method_15_code 40 = .ok (.aload_n 0, 1) := by decide +kernel
theorem dX6_product_41 : decode prog_8_method_15_code 41 = .ok (.getfield 27, 3) := by decide +kernel
theorem dX6_product_44 : decode prog_8_method_15_code 44 = .ok (.iconst 0, 1) := by decide +kernel
theorem dX6_product_45 : decode prog_8_method_15_code 45 = .ok (.iaload, 1) := by decide +kernel
theorem dX6_product_46 : decode prog_8_method_15_code 46 = .ok (.if_icmp .ge 121, 3) := by decide +kernel
theorem dX6_product_49 : decode prog_8_method_15_code 49 = .ok (.aload_n 0, 1) := by decide +kernel
theorem dX6_product_50 : decode prog_8_method_15_code 50 = .ok (.getfield 24, 3) := by decide +kernel
theorem dX6_product_53 : decode prog_8_method_15_code 53 = .ok (.iconst 0, 1) := by decide +kernel
theorem dX6_product_54 : decode prog_8_method_15_code 54 = .ok (.iload_n 2, 1) := by decide +kernel
theorem dX6_product_55 : decode prog_8_method_15_code 55 = .ok (.iadd, 1) := by decide +kernel
theorem dX6_product_56 : decode prog_8_method_15_code 56 = .ok (.iaload, 1) := by decide +kernel
theorem dX6_product_57 : decode prog_8_method_15_code 57 = .ok (.istore_n 3, 1) := by decide +kernel
theorem dX6_product_58 : decode prog_8_method_15_code 58 = .ok (.iconst 0, 1) := by decide +kernel
theorem dX6_product_59 : decode prog_8_method_15_code 59 = .ok (.istore 4, 2) := by decide +kernel
theorem dX6_product_61 : decode prog_8_method_15_code 61 = .ok (.iconst 0, 1) := by decide +kernel
theorem dX6_product_62 : decode prog_8_method_15_code 62 = .ok (.istore 5, 2) := by decide +kernel
theorem dX6_product_64 : decode prog_8_method_15_code 64 = .ok (.iload 5, 2) := by decide +kernel
theorem dX6_product_66 : decode prog_8_method_15_code 66 = .ok (.aload_n 0, 1) := by decide +kernel
theorem dX6_product_67 : decode prog_8_method_15_code 67 = .ok (.getfield 27, 3) := by decide +kernel
theorem dX6_product_70 : decode prog_8_method_15_code 70 = .ok (.iconst 1, 1) := by decide +kernel
theorem dX6_product_71 : decode prog_8_method_15_code 71 = .ok (.iaload, 1) := by decide +kernel
theorem dX6_product_72 : decode prog_8_method_15_code 72 = .ok (.if_icmp .ge 68, 3) := by decide +kernel
theorem dX6_product_75 : decode prog_8_method_15_code 75 = .ok (.iload_n 3, 1) := by decide +kernel
theorem dX6_product_76 : decode prog_8_method_15_code 76 = .ok (.ifCond .le 64, 3) := by decide +kernel
theorem dX6_product_79 : decode prog_8_method_15_code 79 = .ok (.aload_n 0, 1) := by decide +kernel
theorem dX6_product_80 : decode prog_8_method_15_code 80 = .ok (.getfield 24, 3) := by decide +kernel
theorem dX6_product_83 : decode prog_8_method_15_code 83 = .ok (.ldc 48, 2) := by decide +kernel
theorem dX6_product_85 : decode prog_8_method_15_code 85 = .ok (.iload_n 2, 1) := by decide +kernel
theorem dX6_product_86 : decode prog_8_method_15_code 86 = .ok (.iadd, 1) := by decide +kernel
theorem dX6_product_87 : decode prog_8_method_15_code 87 = .ok (.iload 5, 2) := by decide +kernel
theorem dX6_product_89 : decode prog_8_method_15_code 89 = .ok (.iadd, 1) := by decide +kernel
theorem dX6_product_90 : decode prog_8_method_15_code 90 = .ok (.iaload, 1) := by decide +kernel
theorem dX6_product_91 : decode prog_8_method_15_code 91 = .ok (.iload_n 3, 1) := by decide +kernel
theorem dX6_product_92 : decode prog_8_method_15_code 92 = .ok (.aload_n 0, 1) := by decide +kernel
theorem dX6_product_93 : decode prog_8_method_15_code 93 = .ok (.getfield 24, 3) := by decide +kernel
theorem dX6_product_96 : decode prog_8_method_15_code 96 = .ok (.sipush 17000, 3) := by decide +kernel
theorem dX6_product_99 : decode prog_8_method_15_code 99 = .ok (.iload 5, 2) := by decide +kernel
theorem dX6_product_101 : decode prog_8_method_15_code 101 = .ok (.iadd, 1) := by decide +kernel
theorem dX6_product_102 : decode prog_8_method_15_code 102 = .ok (.iaload, 1) := by decide +kernel
theorem dX6_product_103 : decode prog_8_method_15_code 103 = .ok (.imul, 1) := by decide +kernel
theorem dX6_product_104 : decode prog_8_method_15_code 104 = .ok (.iadd, 1) := by decide +kernel
theorem dX6_product_105 : decode prog_8_method_15_code 105 = .ok (.iload 4, 2) := by decide +kernel
theorem dX6_product_107 : decode prog_8_method_15_code 107 = .ok (.iadd, 1) := by decide +kernel
theorem dX6_product_108 : decode prog_8_method_15_code 108 = .ok (.istore 6, 2) := by decide +kernel
theorem dX6_product_110 : decode prog_8_method_15_code 110 = .ok (.aload_n 0, 1) := by decide +kernel
theorem dX6_product_111 : decode prog_8_method_15_code 111 = .ok (.getfield 24, 3) := by decide +kernel
theorem dX6_product_114 : decode prog_8_method_15_code 114 = .ok (.ldc 48, 2) := by decide +kernel
theorem dX6_product_116 : decode prog_8_method_15_code 116 = .ok (.iload_n 2, 1) := by decide +kernel
theorem dX6_product_117 : decode prog_8_method_15_code 117 = .ok (.iadd, 1) := by decide +kernel
theorem dX6_product_118 : decode prog_8_method_15_code 118 = .ok (.iload 5, 2) := by decide +kernel
theorem dX6_product_120 : decode prog_8_method_15_code 120 = .ok (.iadd, 1) := by decide +kernel
theorem dX6_product_121 : decode prog_8_method_15_code 121 = .ok (.iload 6, 2) := by decide +kernel
theorem dX6_product_123 : decode prog_8_method_15_code 123 = .ok (.bipush 10, 2) := by decide +kernel
theorem dX6_product_125 : decode prog_8_method_15_code 125 = .ok (.irem, 1) := by decide +kernel
theorem dX6_product_126 : decode prog_8_method_15_code 126 = .ok (.iastore, 1) := by decide +kernel
theorem dX6_product_127 : decode prog_8_method_15_code 127 = .ok (.iload 6, 2) := by decide +kernel
theorem dX6_product_129 : decode prog_8_method_15_code 129 = .ok (.bipush 10, 2) := by decide +kernel
theorem dX6_product_131 : decode prog_8_method_15_code 131 = .ok (.idiv, 1) := by decide +kernel
theorem dX6_product_132 : decode prog_8_method_15_code 132 = .ok (.istore 4, 2) := by decide +kernel
theorem dX6_product_134 : decode prog_8_method_15_code 134 = .ok (.iinc 5 1, 3) := by decide +kernel
theorem dX6_product_137 : decode prog_8_method_15_code 137 = .ok (.goto (-73), 3) := by decide +kernel
theorem dX6_product_140 : decode prog_8_method_15_code 140 = .ok (.aload_n 0, 1) := by decide +kernel
theorem dX6_product_141 : decode prog_8_method_15_code 141 = .ok (.getfield 24, 3) := by decide +kernel
theorem dX6_product_144 : decode prog_8_method_15_code 144 = .ok (.ldc 48, 2) := by decide +kernel
theorem dX6_product_146 : decode prog_8_method_15_code 146 = .ok (.iload_n 2, 1) := by decide +kernel
theorem dX6_product_147 : decode prog_8_method_15_code 147 = .ok (.iadd, 1) := by decide +kernel
theorem dX6_product_148 : decode prog_8_method_15_code 148 = .ok (.aload_n 0, 1) := by decide +kernel
theorem dX6_product_149 : decode prog_8_method_15_code 149 = .ok (.getfield 27, 3) := by decide +kernel
theorem dX6_product_152 : decode prog_8_method_15_code 152 = .ok (.iconst 1, 1) := by decide +kernel
theorem dX6_product_153 : decode prog_8_method_15_code 153 = .ok (.iaload, 1) := by decide +kernel
theorem dX6_product_154 : decode prog_8_method_15_code 154 = .ok (.iadd, 1) := by decide +kernel
theorem dX6_product_155 : decode prog_8_method_15_code 155 = .ok (.dup2, 1) := by decide +kernel
theorem dX6_product_156 : decode prog_8_method_15_code 156 = .ok (.iaload, 1) := by decide +kernel
theorem dX6_product_157 : decode prog_8_method_15_code 157 = .ok (.iload 4, 2) := by decide +kernel
theorem dX6_product_159 : decode prog_8_method_15_code 159 = .ok (.iadd, 1) := by decide +kernel
theorem dX6_product_160 : decode prog_8_method_15_code 160 = .ok (.iastore, 1) := by decide +kernel
theorem dX6_product_161 : decode prog_8_method_15_code 161 = .ok (.iinc 2 1, 3) := by decide +kernel
theorem dX6_product_164 : decode prog_8_method_15_code 164 = .ok (.goto (-125), 3) := by decide +kernel
theorem dX6_product_167 : decode prog_8_method_15_code 167 = .ok (.aload_n 0, 1) := by decide +kernel
theorem dX6_product_168 : decode prog_8_method_15_code 168 = .ok (.iconst 2, 1) := by decide +kernel
theorem dX6_product_169 : decode prog_8_method_15_code 169 = .ok (.iload_n 1, 1) := by decide +kernel
theorem dX6_product_170 : decode prog_8_method_15_code 170 = .ok (.invokevirtual 44, 3) := by decide +kernel
theorem dX6_product_173 : decode prog_8_method_15_code 173 = .ok (.return_, 1) := by decide +kernel
theorem dX6_step_0 : decode prog_8_method_16_code 0 = .ok (.aload_n 0, 1) := by decide +kernel
theorem dX6_step_1 : decode prog_8_method_16_code 1 = .ok (.iconst 3, 1) := by decide +kernel
theorem dX6_step_2 : decode prog_8_method_16_code 2 = .ok (.iconst 1, 1) := by decide +kernel
theorem dX6_step_3 : decode prog_8_method_16_code 3 = .ok (.invokevirtual 49, 3) := by decide +kernel
theorem dX6_step_6 : decode prog_8_method_16_code 6 = .ok (.aload_n 0, 1) := by decide +kernel
theorem dX6_step_7 : decode prog_8_method_16_code 7 = .ok (.getfield 27, 3) := by decide +kernel
theorem dX6_step_10 : decode prog_8_method_16_code 10 = .ok (.iconst 3, 1) := by decide +kernel
theorem dX6_step_11 : decode prog_8_method_16_code 11 = .ok (.iaload, 1) := by decide +kernel
theorem dX6_step_12 : decode prog_8_method_16_code 12 = .ok (.ifCond .ne 14, 3) := by decide +kernel
theorem dX6_step_15 : decode prog_8_method_16_code 15 = .ok (.iload_n 1, 1) := by decide +kernel
theorem dX6_step_16 : decode prog_8_method_16_code 16 = .ok (.ifCond .le 10, 3) := by decide +kernel
theorem dX6_step_19 : decode prog_8_method_16_code 19 = .ok (.aload_n 0, 1) := by decide +kernel
theorem dX6_step_20 : decode prog_8_method_16_code 20 = .ok (.getfield 27, 3) := by decide +kernel
theorem dX6_step_23 : decode prog_8_method_16_code 23 = .ok (.iconst 3, 1) := by decide +kernel
theorem dX6_step_24 : decode prog_8_method_16_code 24 = .ok (.iconst 1, 1) := by decide +kernel
theorem dX6_step_25 : decode prog_8_method_16_code 25 = .ok (.iastore, 1) := by decide +kernel
theorem dX6_step_26 : decode prog_8_method_16_code 26 = .ok (.aload_n 0, 1) := by decide +kernel
theorem dX6_step_27 : decode prog_8_method_16_code 27 = .ok (.getfield 27, 3) := by decide +kernel
theorem dX6_step_30 : decode prog_8_method_16_code 30 = .ok (.iconst 3, 1) := by decide +kernel
theorem dX6_step_31 : decode prog_8_method_16_code 31 = .ok (.iaload, 1) := by decide +kernel
theorem dX6_step_32 : decode prog_8_method_16_code 32 = .ok (.ifCond .le 11, 3) := by decide +kernel
theorem dX6_step_35 : decode prog_8_method_16_code 35 = .ok (.aload_n 0, 1) := by decide +kernel
theorem dX6_step_36 : decode prog_8_method_16_code 36 = .ok (.getfield 24, 3) := by decide +kernel
theorem dX6_step_39 : decode prog_8_method_16_code 39 = .ok (.ldc 52, 2) := by decide +kernel
theorem dX6_step_41 : decode prog_8_method_16_code 41 = .ok (.iload_n 1, 1) := by decide +kernel
theorem dX6_step_42 : decode prog_8_method_16_code 42 = .ok (.iastore, 1) := by decide +kernel
theorem dX6_step_43 : decode prog_8_method_16_code 43 = .ok (.iconst 0, 1) := by decide +kernel
theorem dX6_step_44 : decode prog_8_method_16_code 44 = .ok (.istore_n 2, 1) := by decide +kernel
theorem dX6_step_45 : decode prog_8_method_16_code 45 = .ok (.aload_n 0, 1) := by decide +kernel
theorem dX6_step_46 : decode prog_8_method_16_code 46 = .ok (.iconst 3, 1) := by decide +kernel
theorem dX6_step_47 : decode prog_8_method_16_code 47 = .ok (.iconst 1, 1) := by decide +kernel
theorem dX6_step_48 : decode prog_8_method_16_code 48 = .ok (.invokevirtual 53, 3) := by decide +kernel
theorem dX6_step_51 : decode prog_8_method_16_code 51 = .ok (.ifCond .lt 15, 3) := by decide +kernel
theorem dX6_step_54 : decode prog_8_method_16_code 54 = .ok (.aload_n 0, 1) := by decide +kernel
theorem dX6_step_55 : decode prog_8_method_16_code 55 = .ok (.iconst 3, 1) := by decide +kernel
theorem dX6_step_56 : decode prog_8_method_16_code 56 = .ok (.iconst 1, 1) := by decide +kernel
theorem dX6_step_57 : decode prog_8_method_16_code 57 = .ok (.invokevirtual 57, 3) := by decide +kernel
theorem dX6_step_60 : decode prog_8_method_16_code 60 = .ok (.iinc 2 1, 3) := by decide +kernel
theorem dX6_step_63 : decode prog_8_method_16_code 63 = .ok (.goto (-18), 3) := by decide +kernel
theorem dX6_step_66 : decode prog_8_method_16_code 66 = .ok (.iload_n 2, 1) := by decide +kernel
theorem dX6_step_67 : decode prog_8_method_16_code 67 = .ok (.ireturn, 1) := by decide +kernel
theorem dX6_quotient_0 : decode prog_8_method_17_code 0 = .ok (.aload_n 0, 1) := by decide +kernel
theorem dX6_quotient_1 : decode prog_8_method_17_code 1 = .ok (.getfield 27, 3) := by decide +kernel
theorem dX6_quotient_4 : decode prog_8_method_17_code 4 = .ok (.iconst 3, 1) := by decide +kernel
theorem dX6_quotient_5 : decode prog_8_method_17_code 5 = .ok (.iconst 0, 1) := by decide +kernel
theorem dX6_quotient_6 : decode prog_8_method_17_code 6 = .ok (.iastore, 1) := by decide +kernel
theorem dX6_quotient_7 : decode prog_8_method_17_code 7 = .ok (.aload_n 0, 1) := by decide +kernel
theorem dX6_quotient_8 : decode prog_8_method_17_code 8 = .ok (.getfield 27, 3) := by decide +kernel
theorem dX6_quotient_11 : decode prog_8_method_17_code 11 = .ok (.iconst 0, 1) := by decide +kernel
theorem dX6_quotient_12 : decode prog_8_method_17_code 12 = .ok (.iaload, 1) := by decide +kernel
theorem dX6_quotient_13 : decode prog_8_method_17_code 13 = .ok (.iconst 1, 1) := by decide +kernel
theorem dX6_quotient_14 : decode prog_8_method_17_code 14 = .ok (.isub, 1) := by decide +kernel
theorem dX6_quotient_15 : decode prog_8_method_17_code 15 = .ok (.istore_n 1, 1) := by decide +kernel
theorem dX6_quotient_16 : decode prog_8_method_17_code 16 = .ok (.iload_n 1, 1) := by decide +kernel
theorem dX6_quotient_17 : decode prog_8_method_17_code 17 = .ok (.ifCond .lt 30, 3) := by decide +kernel
theorem dX6_quotient_20 : decode prog_8_method_17_code 20 = .ok (.aload_n 0, 1) := by decide +kernel
theorem dX6_quotient_21 : decode prog_8_method_17_code 21 = .ok (.getfield 24, 3) := by decide +kernel
theorem dX6_quotient_24 : decode prog_8_method_17_code 24 = .ok (.ldc 48, 2) := by decide +kernel
theorem dX6_quotient_26 : decode prog_8_method_17_code 26 = .ok (.iload_n 1, 1) := by decide +kernel
theorem dX6_quotient_27 : decode prog_8_method_17_code 27 = .ok (.iadd, 1) := by decide +kernel
theorem dX6_quotient_28 : decode prog_8_method_17_code 28 = .ok (.aload_n 0, 1) := by decide +kernel
theorem dX6_quotient_29 : decode prog_8_method_17_code 29 = .ok (.aload_n 0, 1) := by decide +kernel
theorem dX6_quotient_30 : decode prog_8_method_17_code 30 = .ok (.getfield 24, 3) := by decide +kernel
theorem dX6_quotient_33 : decode prog_8_method_17_code 33 = .ok (.iconst 0, 1) := by decide +kernel
theorem dX6_quotient_34 : decode prog_8_method_17_code 34 = .ok (.iload_n 1, 1) := by decide +kernel
theorem dX6_quotient_35 : decode prog_8_method_17_code 35 = .ok (.iadd, 1) := by decide +kernel
theorem dX6_quotient_36 : decode prog_8_method_17_code 36 = .ok (.iaload, 1) := by decide +kernel
theorem dX6_quotient_37 : decode prog_8_method_17_code 37 = .ok (.invokevirtual 60, 3) := by decide +kernel
theorem dX6_quotient_40 : decode prog_8_method_17_code 40 = .ok (.iastore, 1) := by decide +kernel
theorem dX6_quotient_41 : decode prog_8_method_17_code 41 = .ok (.iinc 1 (-1), 3) := by decide +kernel
theorem dX6_quotient_44 : decode prog_8_method_17_code 44 = .ok (.goto (-28), 3) := by decide +kernel
theorem dX6_quotient_47 : decode prog_8_method_17_code 47 = .ok (.aload_n 0, 1) := by decide +kernel
theorem dX6_quotient_48 : decode prog_8_method_17_code 48 = .ok (.iconst 2, 1) := by decide +kernel
theorem dX6_quotient_49 : decode prog_8_method_17_code 49 = .ok (.aload_n 0, 1) := by decide +kernel
theorem dX6_quotient_50 : decode prog_8_method_17_code 50 = .ok (.getfield 27, 3) := by decide +kernel
theorem dX6_quotient_53 : decode prog_8_method_17_code 53 = .ok (.iconst 0, 1) := by decide +kernel
theorem dX6_quotient_54 : decode prog_8_method_17_code 54 = .ok (.iaload, 1) := by decide +kernel
theorem dX6_quotient_55 : decode prog_8_method_17_code 55 = .ok (.invokevirtual 44, 3) := by decide +kernel
theorem dX6_quotient_58 : decode prog_8_method_17_code 58 = .ok (.aload_n 0, 1) := by decide +kernel
theorem dX6_quotient_59 : decode prog_8_method_17_code 59 = .ok (.invokevirtual 64, 3) := by decide +kernel
theorem dX6_quotient_62 : decode prog_8_method_17_code 62 = .ok (.return_, 1) := by decide +kernel
theorem dX6_judge_0 : decode prog_8_method_18_code 0 = .ok (.aload_n 0, 1) := by decide +kernel
theorem dX6_judge_1 : decode prog_8_method_18_code 1 = .ok (.aload_n 0, 1) := by decide +kernel
theorem dX6_judge_2 : decode prog_8_method_18_code 2 = .ok (.getfield 27, 3) := by decide +kernel
theorem dX6_judge_5 : decode prog_8_method_18_code 5 = .ok (.iconst 3, 1) := by decide +kernel
theorem dX6_judge_6 : decode prog_8_method_18_code 6 = .ok (.iaload, 1) := by decide +kernel
theorem dX6_judge_7 : decode prog_8_method_18_code 7 = .ok (.ifCond .le 7, 3) := by decide +kernel
theorem dX6_judge_10 : decode prog_8_method_18_code 10 = .ok (.iconst 1, 1) := by decide +kernel
theorem dX6_judge_11 : decode prog_8_method_18_code 11 = .ok (.goto 4, 3) := by decide +kernel
theorem dX6_judge_14 : decode prog_8_method_18_code 14 = .ok (.iconst 0, 1) := by decide +kernel
theorem dX6_judge_15 : decode prog_8_method_18_code 15 = .ok (.putfield 40, 3) := by decide +kernel
theorem dX6_judge_18 : decode prog_8_method_18_code 18 = .ok (.aload_n 0, 1) := by decide +kernel
theorem dX6_judge_19 : decode prog_8_method_18_code 19 = .ok (.getfield 27, 3) := by decide +kernel
theorem dX6_judge_22 : decode prog_8_method_18_code 22 = .ok (.iconst 3, 1) := by decide +kernel
theorem dX6_judge_23 : decode prog_8_method_18_code 23 = .ok (.iaload, 1) := by decide +kernel
theorem dX6_judge_24 : decode prog_8_method_18_code 24 = .ok (.ifCond .ne 4, 3) := by decide +kernel
theorem dX6_judge_27 : decode prog_8_method_18_code 27 = .ok (.return_, 1) := by decide +kernel
theorem dX6_judge_28 : decode prog_8_method_18_code 28 = .ok (.iconst 0, 1) := by decide +kernel
theorem dX6_judge_29 : decode prog_8_method_18_code 29 = .ok (.istore_n 1, 1) := by decide +kernel
theorem dX6_judge_30 : decode prog_8_method_18_code 30 = .ok (.iconst 0, 1) := by decide +kernel
theorem dX6_judge_31 : decode prog_8_method_18_code 31 = .ok (.istore_n 2, 1) := by decide +kernel
theorem dX6_judge_32 : decode prog_8_method_18_code 32 = .ok (.iconst 0, 1) := by decide +kernel
theorem dX6_judge_33 : decode prog_8_method_18_code 33 = .ok (.istore_n 3, 1) := by decide +kernel
theorem dX6_judge_34 : decode prog_8_method_18_code 34 = .ok (.iload_n 3, 1) := by decide +kernel
theorem dX6_judge_35 : decode prog_8_method_18_code 35 = .ok (.aload_n 0, 1) := by decide +kernel
theorem dX6_judge_36 : decode prog_8_method_18_code 36 = .ok (.getfield 27, 3) := by decide +kernel
theorem dX6_judge_39 : decode prog_8_method_18_code 39 = .ok (.iconst 1, 1) := by decide +kernel
theorem dX6_judge_40 : decode prog_8_method_18_code 40 = .ok (.iaload, 1) := by decide +kernel
theorem dX6_judge_41 : decode prog_8_method_18_code 41 = .ok (.iconst 1, 1) := by decide +kernel
theorem dX6_judge_42 : decode prog_8_method_18_code 42 = .ok (.iadd, 1) := by decide +kernel
theorem dX6_judge_43 : decode prog_8_method_18_code 43 = .ok (.if_icmp .lt 15, 3) := by decide +kernel
theorem dX6_judge_46 : decode prog_8_method_18_code 46 = .ok (.iload_n 3, 1) := by decide +kernel
theorem dX6_judge_47 : decode prog_8_method_18_code 47 = .ok (.aload_n 0, 1) := by decide +kernel
theorem dX6_judge_48 : decode prog_8_method_18_code 48 = .ok (.getfield 27, 3) := by decide +kernel
theorem dX6_judge_51 : decode prog_8_method_18_code 51 = .ok (.iconst 3, 1) := by decide +kernel
theorem dX6_judge_52 : decode prog_8_method_18_code 52 = .ok (.iaload, 1) := by decide +kernel
theorem dX6_judge_53 : decode prog_8_method_18_code 53 = .ok (.iconst 1, 1) := by decide +kernel
theorem dX6_judge_54 : decode prog_8_method_18_code 54 = .ok (.iadd, 1) := by decide +kernel
theorem dX6_judge_55 : decode prog_8_method_18_code 55 = .ok (.if_icmp .ge 88, 3) := by decide +kernel
theorem dX6_judge_58 : decode prog_8_method_18_code 58 = .ok (.iload_n 3, 1) := by decide +kernel
theorem dX6_judge_59 : decode prog_8_method_18_code 59 = .ok (.aload_n 0, 1) := by decide +kernel
theorem dX6_judge_60 : decode prog_8_method_18_code 60 = .ok (.getfield 27, 3) := by decide +kernel
theorem dX6_judge_63 : decode prog_8_method_18_code 63 = .ok (.iconst 3, 1) := by decide +kernel
theorem dX6_judge_64 : decode prog_8_method_18_code 64 = .ok (.iaload, 1) := by decide +kernel
theorem dX6_judge_65 : decode prog_8_method_18_code 65 = .ok (.if_icmp .ge 17, 3) := by decide +kernel
theorem dX6_judge_68 : decode prog_8_method_18_code 68 = .ok (.iconst 2, 1) := by decide +kernel
theorem dX6_judge_69 : decode prog_8_method_18_code 69 = .ok (.aload_n 0, 1) := by decide +kernel
theorem dX6_judge_70 : decode prog_8_method_18_code 70 = .ok (.getfield 24, 3) := by decide +kernel
theorem dX6_judge_73 : decode prog_8_method_18_code 73 = .ok (.ldc 52, 2) := by decide +kernel
theorem dX6_judge_75 : decode prog_8_method_18_code 75 = .ok (.iload_n 3, 1) := by decide +kernel
theorem dX6_judge_76 : decode prog_8_method_18_code 76 = .ok (.iadd, 1) := by decide +kernel
theorem dX6_judge_77 : decode prog_8_method_18_code 77 = .ok (.iaload, 1) := by decide +kernel
theorem dX6_judge_78 : decode prog_8_method_18_code 78 = .ok (.imul, 1) := by decide +kernel
theorem dX6_judge_79 : decode prog_8_method_18_code 79 = .ok (.goto 4, 3) := by decide +kernel
theorem dX6_judge_82 : decode prog_8_method_18_code 82 = .ok (.iconst 0, 1) := by decide +kernel
theorem dX6_judge_83 : decode prog_8_method_18_code 83 = .ok (.iload_n 2, 1) := by decide +kernel
theorem dX6_judge_84 : decode prog_8_method_18_code 84 = .ok (.iadd, 1) := by decide +kernel
theorem dX6_judge_85 : decode prog_8_method_18_code 85 = .ok (.istore 4, 2) := by decide +kernel
theorem dX6_judge_87 : decode prog_8_method_18_code 87 = .ok (.iload 4, 2) := by decide +kernel
theorem dX6_judge_89 : decode prog_8_method_18_code 89 = .ok (.bipush 10, 2) := by decide +kernel
theorem dX6_judge_91 : decode prog_8_method_18_code 91 = .ok (.idiv, 1) := by decide +kernel
theorem dX6_judge_92 : decode prog_8_method_18_code 92 = .ok (.istore_n 2, 1) := by decide +kernel
theorem dX6_judge_93 : decode prog_8_method_18_code 93 = .ok (.iload 4, 2) := by decide +kernel
theorem dX6_judge_95 : decode prog_8_method_18_code 95 = .ok (.bipush 10, 2) := by decide +kernel
theorem dX6_judge_97 : decode prog_8_method_18_code 97 = .ok (.irem, 1) := by decide +kernel
theorem dX6_judge_98 : decode prog_8_method_18_code 98 = .ok (.iload_n 3, 1) := by decide +kernel
theorem dX6_judge_99 : decode prog_8_method_18_code 99 = .ok (.aload_n 0, 1) := by decide +kernel
theorem dX6_judge_100 : decode prog_8_method_18_code 100 = .ok (.getfield 27, 3) := by decide +kernel
theorem dX6_judge_103 : decode prog_8_method_18_code 103 = .ok (.iconst 1, 1) := by decide +kernel
theorem dX6_judge_104 : decode prog_8_method_18_code 104 = .ok (.iaload, 1) := by decide +kernel
theorem dX6_judge_105 : decode prog_8_method_18_code 105 = .ok (.if_icmp .ge 16, 3) := by decide +kernel
theorem dX6_judge_108 : decode prog_8_method_18_code 108 = .ok (.aload_n 0, 1) := by decide +kernel
theorem dX6_judge_109 : decode prog_8_method_18_code 109 = .ok (.getfield 24, 3) := by decide +kernel
theorem dX6_judge_112 : decode prog_8_method_18_code 112 = .ok (.sipush 17000, 3) := by decide +kernel
theorem dX6_judge_115 : decode prog_8_method_18_code 115 = .ok (.iload_n 3, 1) := by decide +kernel
theorem dX6_judge_116 : decode prog_8_method_18_code 116 = .ok (.iadd, 1) := by decide +kernel
theorem dX6_judge_117 : decode prog_8_method_18_code 117 = .ok (.iaload, 1) := by decide +kernel
theorem dX6_judge_118 : decode prog_8_method_18_code 118 = .ok (.goto 4, 3) := by decide +kernel
theorem dX6_judge_121 : decode prog_8_method_18_code 121 = .ok (.iconst 0, 1) := by decide +kernel
theorem dX6_judge_122 : decode prog_8_method_18_code 122 = .ok (.isub, 1) := by decide +kernel
theorem dX6_judge_123 : decode prog_8_method_18_code 123 = .ok (.istore 5, 2) := by decide +kernel
theorem dX6_judge_125 : decode prog_8_method_18_code 125 = .ok (.iload 5, 2) := by decide +kernel
theorem dX6_judge_127 : decode prog_8_method_18_code 127 = .ok (.ifCond .eq 8, 3) := by decide +kernel
theorem dX6_judge_130 : decode prog_8_method_18_code 130 = .ok (.iload 5, 2) := by decide +kernel
theorem dX6_judge_132 : decode prog_8_method_18_code 132 = .ok (.goto 4, 3) := by decide +kernel
theorem dX6_judge_135 : decode prog_8_method_18_code 135 = .ok (.iload_n 1, 1) := by decide +kernel
theorem dX6_judge_136 : decode prog_8_method_18_code 136 = .ok (.istore_n 1, 1) := by decide +kernel
theorem dX6_judge_137 : decode prog_8_method_18_code 137 = .ok (.iinc 3 1, 3) := by decide +kernel
theorem dX6_judge_140 : decode prog_8_method_18_code 140 = .ok (.goto (-106), 3) := by decide +kernel
theorem dX6_judge_143 : decode prog_8_method_18_code 143 = .ok (.aload_n 0, 1) := by decide +kernel
theorem dX6_judge_144 : decode prog_8_method_18_code 144 = .ok (.iload_n 1, 1) := by decide +kernel
theorem dX6_judge_145 : decode prog_8_method_18_code 145 = .ok (.ifCond .le 7, 3) := by decide +kernel
theorem dX6_judge_148 : decode prog_8_method_18_code 148 = .ok (.iconst 3, 1) := by decide +kernel
theorem dX6_judge_149 : decode prog_8_method_18_code 149 = .ok (.goto 12, 3) := by decide +kernel
theorem dX6_judge_152 : decode prog_8_method_18_code 152 = .ok (.iload_n 1, 1) := by decide +kernel
theorem dX6_judge_153 : decode prog_8_method_18_code 153 = .ok (.ifCond .ne 7, 3) := by decide +kernel
theorem dX6_judge_156 : decode prog_8_method_18_code 156 = .ok (.iconst 2, 1) := by decide +kernel
theorem dX6_judge_157 : decode prog_8_method_18_code 157 = .ok (.goto 4, 3) := by decide +kernel
theorem dX6_judge_160 : decode prog_8_method_18_code 160 = .ok (.iconst 1, 1) := by decide +kernel
theorem dX6_judge_161 : decode prog_8_method_18_code 161 = .ok (.putfield 40, 3) := by decide +kernel
theorem dX6_judge_164 : decode prog_8_method_18_code 164 = .ok (.return_, 1) := by decide +kernel
theorem dX6_goesUp_0 : decode prog_8_method_19_code 0 = .ok (.aload_n 0, 1) := by decide +kernel
theorem dX6_goesUp_1 : decode prog_8_method_19_code 1 = .ok (.getfield 27, 3) := by decide +kernel
theorem dX6_goesUp_4 : decode prog_8_method_19_code 4 = .ok (.iload_n 1, 1) := by decide +kernel
theorem dX6_goesUp_5 : decode prog_8_method_19_code 5 = .ok (.iaload, 1) := by decide +kernel
theorem dX6_goesUp_6 : decode prog_8_method_19_code 6 = .ok (.ifCond .le 23, 3) := by decide +kernel
theorem dX6_goesUp_9 : decode prog_8_method_19_code 9 = .ok (.aload_n 0, 1) := by decide +kernel
theorem dX6_goesUp_10 : decode prog_8_method_19_code 10 = .ok (.getfield 24, 3) := by decide +kernel
theorem dX6_goesUp_13 : decode prog_8_method_19_code 13 = .ok (.sipush 17000, 3) := by decide +kernel
theorem dX6_goesUp_16 : decode prog_8_method_19_code 16 = .ok (.iload_n 1, 1) := by decide +kernel
theorem dX6_goesUp_17 : decode prog_8_method_19_code 17 = .ok (.imul, 1) := by decide +kernel
theorem dX6_goesUp_18 : decode prog_8_method_19_code 18 = .ok (.iaload, 1) := by decide +kernel
theorem dX6_goesUp_19 : decode prog_8_method_19_code 19 = .ok (.iconst 2, 1) := by decide +kernel
theorem dX6_goesUp_20 : decode prog_8_method_19_code 20 = .ok (.irem, 1) := by decide +kernel
theorem dX6_goesUp_21 : decode prog_8_method_19_code 21 = .ok (.iconst 1, 1) := by decide +kernel
theorem dX6_goesUp_22 : decode prog_8_method_19_code 22 = .ok (.if_icmp .ne 7, 3) := by decide +kernel
theorem dX6_goesUp_25 : decode prog_8_method_19_code 25 = .ok (.iconst 1, 1) := by decide +kernel
theorem dX6_goesUp_26 : decode prog_8_method_19_code 26 = .ok (.goto 4, 3) := by decide +kernel
theorem dX6_goesUp_29 : decode prog_8_method_19_code 29 = .ok (.iconst 0, 1) := by decide +kernel
theorem dX6_goesUp_30 : decode prog_8_method_19_code 30 = .ok (.istore 4, 2) := by decide +kernel
theorem dX6_goesUp_32 : decode prog_8_method_19_code 32 = .ok (.iload_n 3, 1) := by decide +kernel
theorem dX6_goesUp_33 : decode prog_8_method_19_code 33 = .ok (.ifCond .eq 66, 3) := by decide +kernel
theorem dX6_goesUp_36 : decode prog_8_method_19_code 36 = .ok (.iload_n 3, 1) := by decide +kernel
theorem dX6_goesUp_37 : decode prog_8_method_19_code 37 = .ok (.iconst 2, 1) := by decide +kernel
theorem dX6_goesUp_38 : decode prog_8_method_19_code 38 = .ok (.if_icmp .ne 7, 3) := by decide +kernel
theorem dX6_goesUp_41 : decode prog_8_method_19_code 41 = .ok (.iload_n 2, 1) := by decide +kernel
theorem dX6_goesUp_42 : decode prog_8_method_19_code 42 = .ok (.ifCond .gt 57, 3) := by decide +kernel
theorem dX6_goesUp_45 : decode prog_8_method_19_code 45 = .ok (.iload_n 3, 1) := by decide +kernel
theorem dX6_goesUp_46 : decode prog_8_method_19_code 46 = .ok (.iconst 3, 1) := by decide +kernel
theorem dX6_goesUp_47 : decode prog_8_method_19_code 47 = .ok (.if_icmp .ne 7, 3) := by decide +kernel
theorem dX6_goesUp_50 : decode prog_8_method_19_code 50 = .ok (.iload_n 2, 1) := by decide +kernel
theorem dX6_goesUp_51 : decode prog_8_method_19_code 51 = .ok (.ifCond .lt 48, 3) := by decide +kernel
theorem dX6_goesUp_54 : decode prog_8_method_19_code 54 = .ok (.iload_n 3, 1) := by decide +kernel
theorem dX6_goesUp_55 : decode prog_8_method_19_code 55 = .ok (.iconst 4, 1) := by decide +kernel
theorem dX6_goesUp_56 : decode prog_8_method_19_code 56 = .ok (.if_icmp .ne 11, 3) := by decide +kernel
theorem dX6_goesUp_59 : decode prog_8_method_19_code 59 = .ok (.aload_n 0, 1) := by decide +kernel
theorem dX6_goesUp_60 : decode prog_8_method_19_code 60 = .ok (.getfield 40, 3) := by decide +kernel
theorem dX6_goesUp_63 : decode prog_8_method_19_code 63 = .ok (.iconst 1, 1) := by decide +kernel
theorem dX6_goesUp_64 : decode prog_8_method_19_code 64 = .ok (.if_icmp .gt 35, 3) := by decide +kernel
theorem dX6_goesUp_67 : decode prog_8_method_19_code 67 = .ok (.iload_n 3, 1) := by decide +kernel
theorem dX6_goesUp_68 : decode prog_8_method_19_code 68 = .ok (.iconst 4, 1) := by decide +kernel
theorem dX6_goesUp_69 : decode prog_8_method_19_code 69 = .ok (.if_icmp .le 11, 3) := by decide +kernel
theorem dX6_goesUp_72 : decode prog_8_method_19_code 72 = .ok (.aload_n 0, 1) := by decide +kernel
theorem dX6_goesUp_73 : decode prog_8_method_19_code 73 = .ok (.getfield 40, 3) := by decide +kernel
theorem dX6_goesUp_76 : decode prog_8_method_19_code 76 = .ok (.iconst 2, 1) := by decide +kernel
theorem dX6_goesUp_77 : decode prog_8_method_19_code 77 = .ok (.if_icmp .gt 22, 3) := by decide +kernel
theorem dX6_goesUp_80 : decode prog_8_method_19_code 80 = .ok (.iload_n 3, 1) := by decide +kernel
theorem dX6_goesUp_81 : decode prog_8_method_19_code 81 = .ok (.bipush 6, 2) := by decide +kernel
theorem dX6_goesUp_83 : decode prog_8_method_19_code 83 = .ok (.if_icmp .ne 20, 3) := by decide +kernel
theorem dX6_goesUp_86 : decode prog_8_method_19_code 86 = .ok (.aload_n 0, 1) := by decide +kernel
theorem dX6_goesUp_87 : decode prog_8_method_19_code 87 = .ok (.getfield 40, 3) := by decide +kernel
theorem dX6_goesUp_90 : decode prog_8_method_19_code 90 = .ok (.iconst 2, 1) := by decide +kernel
theorem dX6_goesUp_91 : decode prog_8_method_19_code 91 = .ok (.if_icmp .ne 12, 3) := by decide +kernel
theorem dX6_goesUp_94 : decode prog_8_method_19_code 94 = .ok (.iload 4, 2) := by decide +kernel
theorem dX6_goesUp_96 : decode prog_8_method_19_code 96 = .ok (.ifCond .eq 7, 3) := by decide +kernel
theorem dX6_goesUp_99 : decode prog_8_method_19_code 99 = .ok (.iconst 1, 1) := by decide +kernel
theorem dX6_goesUp_100 : decode prog_8_method_19_code 100 = .ok (.goto 4, 3) := by decide +kernel
theorem dX6_goesUp_103 : decode prog_8_method_19_code 103 = .ok (.iconst 0, 1) := by decide +kernel
theorem dX6_goesUp_104 : decode prog_8_method_19_code 104 = .ok (.istore 5, 2) := by decide +kernel
theorem dX6_goesUp_106 : decode prog_8_method_19_code 106 = .ok (.aload_n 0, 1) := by decide +kernel
theorem dX6_goesUp_107 : decode prog_8_method_19_code 107 = .ok (.getfield 40, 3) := by decide +kernel
theorem dX6_goesUp_110 : decode prog_8_method_19_code 110 = .ok (.ifCond .le 12, 3) := by decide +kernel
theorem dX6_goesUp_113 : decode prog_8_method_19_code 113 = .ok (.iload 5, 2) := by decide +kernel
theorem dX6_goesUp_115 : decode prog_8_method_19_code 115 = .ok (.ifCond .eq 7, 3) := by decide +kernel
theorem dX6_goesUp_118 : decode prog_8_method_19_code 118 = .ok (.iconst 1, 1) := by decide +kernel
theorem dX6_goesUp_119 : decode prog_8_method_19_code 119 = .ok (.goto 4, 3) := by decide +kernel
theorem dX6_goesUp_122 : decode prog_8_method_19_code 122 = .ok (.iconst 0, 1) := by decide +kernel
theorem dX6_goesUp_123 : decode prog_8_method_19_code 123 = .ok (.ireturn, 1) := by decide +kernel
theorem dX6_finish_0 : decode prog_8_method_20_code 0 = .ok (.aload_n 0, 1) := by decide +kernel
theorem dX6_finish_1 : decode prog_8_method_20_code 1 = .ok (.getfield 40, 3) := by decide +kernel
theorem dX6_finish_4 : decode prog_8_method_20_code 4 = .ok (.ifCond .le 12, 3) := by decide +kernel
theorem dX6_finish_7 : decode prog_8_method_20_code 7 = .ok (.iload 6, 2) := by decide +kernel
theorem dX6_finish_9 : decode prog_8_method_20_code 9 = .ok (.bipush 7, 2) := by decide +kernel
theorem dX6_finish_11 : decode prog_8_method_20_code 11 = .ok (.if_icmp .ne 5, 3) := by decide +kernel
theorem dX6_finish_14 : decode prog_8_method_20_code 14 = .ok (.iconst 0, 1) := by decide +kernel
theorem dX6_finish_15 : decode prog_8_method_20_code 15 = .ok (.ireturn, 1) := by decide +kernel
theorem dX6_finish_16 : decode prog_8_method_20_code 16 = .ok (.aload_n 0, 1) := by decide +kernel
theorem dX6_finish_17 : decode prog_8_method_20_code 17 = .ok (.iload_n 2, 1) := by decide +kernel
theorem dX6_finish_18 : decode prog_8_method_20_code 18 = .ok (.iload_n 3, 1) := by decide +kernel
theorem dX6_finish_19 : decode prog_8_method_20_code 19 = .ok (.iload 6, 2) := by decide +kernel
theorem dX6_finish_21 : decode prog_8_method_20_code 21 = .ok (.invokevirtual 67, 3) := by decide +kernel
theorem dX6_finish_24 : decode prog_8_method_20_code 24 = .ok (.ifCond .eq 8, 3) := by decide +kernel
theorem dX6_finish_27 : decode prog_8_method_20_code 27 = .ok (.aload_n 0, 1) := by decide +kernel
theorem dX6_finish_28 : decode prog_8_method_20_code 28 = .ok (.iload_n 2, 1) := by decide +kernel
theorem dX6_finish_29 : decode prog_8_method_20_code 29 = .ok (.invokevirtual 71, 3) := by decide +kernel
theorem dX6_finish_32 : decode prog_8_method_20_code 32 = .ok (.aload_n 0, 1) := by decide +kernel
theorem dX6_finish_33 : decode prog_8_method_20_code 33 = .ok (.iload_n 1, 1) := by decide +kernel
theorem dX6_finish_34 : decode prog_8_method_20_code 34 = .ok (.iload_n 2, 1) := by decide +kernel
theorem dX6_finish_35 : decode prog_8_method_20_code 35 = .ok (.iload_n 3, 1) := by decide +kernel
theorem dX6_finish_36 : decode prog_8_method_20_code 36 = .ok (.lload 4, 2) := by decide +kernel
theorem dX6_finish_38 : decode prog_8_method_20_code 38 = .ok (.invokevirtual 75, 3) := by decide +kernel
theorem dX6_finish_41 : decode prog_8_method_20_code 41 = .ok (.ireturn, 1) := by decide +kernel
theorem dX6_finishTo_0 : decode prog_8_method_21_code 0 = .ok (.aload_n 0, 1) := by decide +kernel
theorem dX6_finishTo_1 : decode prog_8_method_21_code 1 = .ok (.getfield 40, 3) := by decide +kernel
theorem dX6_finishTo_4 : decode prog_8_method_21_code 4 = .ok (.ifCond .le 12, 3) := by decide +kernel
theorem dX6_finishTo_7 : decode prog_8_method_21_code 7 = .ok (.iload 6, 2) := by decide +kernel
theorem dX6_finishTo_9 : decode prog_8_method_21_code 9 = .ok (.bipush 7, 2) := by decide +kernel
theorem dX6_finishTo_11 : decode prog_8_method_21_code 11 = .ok (.if_icmp .ne 5, 3) := by decide +kernel
theorem dX6_finishTo_14 : decode prog_8_method_21_code 14 = .ok (.iconst 0, 1) := by decide +kernel
theorem dX6_finishTo_15 : decode prog_8_method_21_code 15 = .ok (.ireturn, 1) := by decide +kernel
theorem dX6_finishTo_16 : decode prog_8_method_21_code 16 = .ok (.aload_n 0, 1) := by decide +kernel
theorem dX6_finishTo_17 : decode prog_8_method_21_code 17 = .ok (.iload_n 2, 1) := by decide +kernel
theorem dX6_finishTo_18 : decode prog_8_method_21_code 18 = .ok (.iload_n 3, 1) := by decide +kernel
theorem dX6_finishTo_19 : decode prog_8_method_21_code 19 = .ok (.iload 6, 2) := by decide +kernel
theorem dX6_finishTo_21 : decode prog_8_method_21_code 21 = .ok (.invokevirtual 67, 3) := by decide +kernel
theorem dX6_finishTo_24 : decode prog_8_method_21_code 24 = .ok (.ifCond .eq 8, 3) := by decide +kernel
theorem dX6_finishTo_27 : decode prog_8_method_21_code 27 = .ok (.aload_n 0, 1) := by decide +kernel
theorem dX6_finishTo_28 : decode prog_8_method_21_code 28 = .ok (.iload_n 2, 1) := by decide +kernel
theorem dX6_finishTo_29 : decode prog_8_method_21_code 29 = .ok (.invokevirtual 71, 3) := by decide +kernel
theorem dX6_finishTo_32 : decode prog_8_method_21_code 32 = .ok (.lload 4, 2) := by decide +kernel
theorem dX6_finishTo_34 : decode prog_8_method_21_code 34 = .ok (.lstore 8, 2) := by decide +kernel
theorem dX6_finishTo_36 : decode prog_8_method_21_code 36 = .ok (.aload_n 0, 1) := by decide +kernel
theorem dX6_finishTo_37 : decode prog_8_method_21_code 37 = .ok (.getfield 27, 3) := by decide +kernel
theorem dX6_finishTo_40 : decode prog_8_method_21_code 40 = .ok (.iload_n 2, 1) := by decide +kernel
theorem dX6_finishTo_41 : decode prog_8_method_21_code 41 = .ok (.iaload, 1) := by decide +kernel
theorem dX6_finishTo_42 : decode prog_8_method_21_code 42 = .ok (.iload 7, 2) := by decide +kernel
theorem dX6_finishTo_44 : decode prog_8_method_21_code 44 = .ok (.if_icmp .le 15, 3) := by decide +kernel
theorem dX6_finishTo_47 : decode prog_8_method_21_code 47 = .ok (.aload_n 0, 1) := by decide +kernel
theorem dX6_finishTo_48 : decode prog_8_method_21_code 48 = .ok (.iload_n 2, 1) := by decide +kernel
theorem dX6_finishTo_49 : decode prog_8_method_21_code 49 = .ok (.lconst 1, 1) := by decide +kernel
theorem dX6_finishTo_50 : decode prog_8_method_21_code 50 = .ok (.invokevirtual 79, 3) := by decide +kernel
theorem dX6_finishTo_53 : decode prog_8_method_21_code 53 = .ok (.lload 8, 2) := by decide +kernel
theorem dX6_finishTo_55 : decode prog_8_method_21_code 55 = .ok (.lconst 1, 1) := by decide +kernel
theorem dX6_finishTo_56 : decode prog_8_method_21_code 56 = .ok (.lsub, 1) := by decide +kernel
theorem dX6_finishTo_57 : decode prog_8_method_21_code 57 = .ok (.lstore 8, 2) := by decide +kernel
theorem dX6_finishTo_59 : decode prog_8_method_21_code 59 = .ok (.aload_n 0, 1) := by decide +kernel
theorem dX6_finishTo_60 : decode prog_8_method_21_code 60 = .ok (.iload_n 1, 1) := by decide +kernel
theorem dX6_finishTo_61 : decode prog_8_method_21_code 61 = .ok (.iload_n 2, 1) := by decide +kernel
theorem dX6_finishTo_62 : decode prog_8_method_21_code 62 = .ok (.iload_n 3, 1) := by decide +kernel
theorem dX6_finishTo_63 : decode prog_8_method_21_code 63 = .ok (.lload 8, 2) := by decide +kernel
theorem dX6_finishTo_65 : decode prog_8_method_21_code 65 = .ok (.invokevirtual 75, 3) := by decide +kernel
theorem dX6_finishTo_68 : decode prog_8_method_21_code 68 = .ok (.ireturn, 1) := by decide +kernel
theorem dX6_put_0 : decode prog_8_method_22_code 0 = .ok (.iload_n 1, 1) := by decide +kernel
theorem dX6_put_1 : decode prog_8_method_22_code 1 = .ok (.invokestatic 83, 3) := by decide +kernel
theorem dX6_put_4 : decode prog_8_method_22_code 4 = .ok (.ifCond .ne 5, 3) := by decide +kernel
theorem dX6_put_7 : decode prog_8_method_22_code 7 = .ok (.iconst 0, 1) := by decide +kernel
theorem dX6_put_8 : decode prog_8_method_22_code 8 = .ok (.ireturn, 1) := by decide +kernel
theorem dX6_put_9 : decode prog_8_method_22_code 9 = .ok (.lload_n 2, 1) := by decide +kernel
theorem dX6_put_10 : decode prog_8_method_22_code 10 = .ok (.lstore 5, 2) := by decide +kernel
theorem dX6_put_12 : decode prog_8_method_22_code 12 = .ok (.iconst 0, 1) := by decide +kernel
theorem dX6_put_13 : decode prog_8_method_22_code 13 = .ok (.istore 7, 2) := by decide +kernel
theorem dX6_put_15 : decode prog_8_method_22_code 15 = .ok (.lload 5, 2) := by decide +kernel
theorem dX6_put_17 : decode prog_8_method_22_code 17 = .ok (.lconst 0, 1) := by decide +kernel
theorem dX6_put_18 : decode prog_8_method_22_code 18 = .ok (.lcmp, 1) := by decide +kernel
theorem dX6_put_19 : decode prog_8_method_22_code 19 = .ok (.ifCond .eq 46, 3) := by decide +kernel
theorem dX6_put_22 : decode prog_8_method_22_code 22 = .ok (.lload 5, 2) := by decide +kernel
theorem dX6_put_24 : decode prog_8_method_22_code 24 = .ok (.ldc2_w 87, 3) := by decide +kernel
theorem dX6_put_27 : decode prog_8_method_22_code 27 = .ok (.lrem, 1) := by decide +kernel
theorem dX6_put_28 : decode prog_8_method_22_code 28 = .ok (.l2i, 1) := by decide +kernel
theorem dX6_put_29 : decode prog_8_method_22_code 29 = .ok (.istore 8, 2) := by decide +kernel
theorem dX6_put_31 : decode prog_8_method_22_code 31 = .ok (.aload_n 0, 1) := by decide +kernel
theorem dX6_put_32 : decode prog_8_method_22_code 32 = .ok (.getfield 24, 3) := by decide +kernel
theorem dX6_put_35 : decode prog_8_method_22_code 35 = .ok (.iload 7, 2) := by decide +kernel
theorem dX6_put_37 : decode prog_8_method_22_code 37 = .ok (.iload 8, 2) := by decide +kernel
theorem dX6_put_39 : decode prog_8_method_22_code 39 = .ok (.ifCond .ge 9, 3) := by decide +kernel
theorem dX6_put_42 : decode prog_8_method_22_code 42 = .ok (.iload 8, 2) := by decide +kernel
theorem dX6_put_44 : decode prog_8_method_22_code 44 = .ok (.ineg, 1) := by decide +kernel
theorem dX6_put_45 : decode prog_8_method_22_code 45 = .ok (.goto 5, 3) := by decide +kernel
theorem dX6_put_48 : decode prog_8_method_22_code 48 = .ok (.iload 8, 2) := by decide +kernel
theorem dX6_put_50 : decode prog_8_method_22_code 50 = .ok (.iastore, 1) := by decide +kernel
theorem dX6_put_51 : decode prog_8_method_22_code 51 = .ok (.lload 5, 2) := by decide +kernel
theorem dX6_put_53 : decode prog_8_method_22_code 53 = .ok (.ldc2_w 87, 3) := by decide +kernel
theorem dX6_put_56 : decode prog_8_method_22_code 56 = .ok (.ldiv, 1) := by decide +kernel
theorem dX6_put_57 : decode prog_8_method_22_code 57 = .ok (.lstore 5, 2) := by decide +kernel
theorem dX6_put_59 : decode prog_8_method_22_code 59 = .ok (.iinc 7 1, 3) := by decide +kernel
theorem dX6_put_62 : decode prog_8_method_22_code 62 = .ok (.goto (-47), 3) := by decide +kernel
theorem dX6_put_65 : decode prog_8_method_22_code 65 = .ok (.aload_n 0, 1) := by decide +kernel
theorem dX6_put_66 : decode prog_8_method_22_code 66 = .ok (.getfield 27, 3) := by decide +kernel
theorem dX6_put_69 : decode prog_8_method_22_code 69 = .ok (.iconst 0, 1) := by decide +kernel
theorem dX6_put_70 : decode prog_8_method_22_code 70 = .ok (.iload 7, 2) := by decide +kernel
theorem dX6_put_72 : decode prog_8_method_22_code 72 = .ok (.iastore, 1) := by decide +kernel
theorem dX6_put_73 : decode prog_8_method_22_code 73 = .ok (.aload_n 0, 1) := by decide +kernel
theorem dX6_put_74 : decode prog_8_method_22_code 74 = .ok (.iload_n 1, 1) := by decide +kernel
theorem dX6_put_75 : decode prog_8_method_22_code 75 = .ok (.iconst 0, 1) := by decide +kernel
theorem dX6_put_76 : decode prog_8_method_22_code 76 = .ok (.lload_n 2, 1) := by decide +kernel
theorem dX6_put_77 : decode prog_8_method_22_code 77 = .ok (.lconst 0, 1) := by decide +kernel
theorem dX6_put_78 : decode prog_8_method_22_code 78 = .ok (.lcmp, 1) := by decide +kernel
theorem dX6_put_79 : decode prog_8_method_22_code 79 = .ok (.ifCond .ge 7, 3) := by decide +kernel
theorem dX6_put_82 : decode prog_8_method_22_code 82 = .ok (.iconst (-1), 1) := by decide +kernel
theorem dX6_put_83 : decode prog_8_method_22_code 83 = .ok (.goto 4, 3) := by decide +kernel
theorem dX6_put_86 : decode prog_8_method_22_code 86 = .ok (.iconst 1, 1) := by decide +kernel
theorem dX6_put_87 : decode prog_8_method_22_code 87 = .ok (.iload 4, 2) := by decide +kernel
theorem dX6_put_89 : decode prog_8_method_22_code 89 = .ok (.i2l, 1) := by decide +kernel
theorem dX6_put_90 : decode prog_8_method_22_code 90 = .ok (.invokevirtual 75, 3) := by decide +kernel
theorem dX6_put_93 : decode prog_8_method_22_code 93 = .ok (.ireturn, 1) := by decide +kernel
theorem dX6_copy_0 : decode prog_8_method_23_code 0 = .ok (.iload_n 1, 1) := by decide +kernel
theorem dX6_copy_1 : decode prog_8_method_23_code 1 = .ok (.invokestatic 83, 3) := by decide +kernel
theorem dX6_copy_4 : decode prog_8_method_23_code 4 = .ok (.ifCond .eq 10, 3) := by decide +kernel
theorem dX6_copy_7 : decode prog_8_method_23_code 7 = .ok (.iload_n 2, 1) := by decide +kernel
theorem dX6_copy_8 : decode prog_8_method_23_code 8 = .ok (.invokestatic 83, 3) := by decide +kernel
theorem dX6_copy_11 : decode prog_8_method_23_code 11 = .ok (.ifCond .ne 5, 3) := by decide +kernel
theorem dX6_copy_14 : decode prog_8_method_23_code 14 = .ok (.iconst 0, 1) := by decide +kernel
theorem dX6_copy_15 : decode prog_8_method_23_code 15 = .ok (.ireturn, 1) := by decide +kernel
theorem dX6_copy_16 : decode prog_8_method_23_code 16 = .ok (.aload_n 0, 1) := by decide +kernel
theorem dX6_copy_17 : decode prog_8_method_23_code 17 = .ok (.iconst 0, 1) := by decide +kernel
theorem dX6_copy_18 : decode prog_8_method_23_code 18 = .ok (.iload_n 2, 1) := by decide +kernel
theorem dX6_copy_19 : decode prog_8_method_23_code 19 = .ok (.invokevirtual 89, 3) := by decide +kernel
theorem dX6_copy_22 : decode prog_8_method_23_code 22 = .ok (.aload_n 0, 1) := by decide +kernel
theorem dX6_copy_23 : decode prog_8_method_23_code 23 = .ok (.iload_n 1, 1) := by decide +kernel
theorem dX6_copy_24 : decode prog_8_method_23_code 24 = .ok (.iconst 0, 1) := by decide +kernel
theorem dX6_copy_25 : decode prog_8_method_23_code 25 = .ok (.iload_n 3, 1) := by decide +kernel
theorem dX6_copy_26 : decode prog_8_method_23_code 26 = .ok (.ifCond .eq 13, 3) := by decide +kernel
theorem dX6_copy_29 : decode prog_8_method_23_code 29 = .ok (.aload_n 0, 1) := by decide +kernel
theorem dX6_copy_30 : decode prog_8_method_23_code 30 = .ok (.getfield 17, 3) := by decide +kernel
theorem dX6_copy_33 : decode prog_8_method_23_code 33 = .ok (.iload_n 2, 1) := by decide +kernel
theorem dX6_copy_34 : decode prog_8_method_23_code 34 = .ok (.iaload, 1) := by decide +kernel
theorem dX6_copy_35 : decode prog_8_method_23_code 35 = .ok (.ineg, 1) := by decide +kernel
theorem dX6_copy_36 : decode prog_8_method_23_code 36 = .ok (.goto 9, 3) := by decide +kernel
theorem dX6_copy_39 : decode prog_8_method_23_code 39 = .ok (.aload_n 0, 1) := by decide +kernel
theorem dX6_copy_40 : decode prog_8_method_23_code 40 = .ok (.getfield 17, 3) := by decide +kernel
theorem dX6_copy_43 : decode prog_8_method_23_code 43 = .ok (.iload_n 2, 1) := by decide +kernel
theorem dX6_copy_44 : decode prog_8_method_23_code 44 = .ok (.iaload, 1) := by decide +kernel
theorem dX6_copy_45 : decode prog_8_method_23_code 45 = .ok (.aload_n 0, 1) := by decide +kernel
theorem dX6_copy_46 : decode prog_8_method_23_code 46 = .ok (.getfield 20, 3) := by decide +kernel
theorem dX6_copy_49 : decode prog_8_method_23_code 49 = .ok (.iload_n 2, 1) := by decide +kernel
theorem dX6_copy_50 : decode prog_8_method_23_code 50 = .ok (.iaload, 1) := by decide +kernel
theorem dX6_copy_51 : decode prog_8_method_23_code 51 = .ok (.i2l, 1) := by decide +kernel
theorem dX6_copy_52 : decode prog_8_method_23_code 52 = .ok (.invokevirtual 75, 3) := by decide +kernel
theorem dX6_copy_55 : decode prog_8_method_23_code 55 = .ok (.ireturn, 1) := by decide +kernel
theorem dX6_sum_0 : decode prog_8_method_24_code 0 = .ok (.iload_n 1, 1) := by decide +kernel
theorem dX6_sum_1 : decode prog_8_method_24_code 1 = .ok (.invokestatic 83, 3) := by decide +kernel
theorem dX6_sum_4 : decode prog_8_method_24_code 4 = .ok (.ifCond .eq 17, 3) := by decide +kernel
theorem dX6_sum_7 : decode prog_8_method_24_code 7 = .ok (.iload_n 2, 1) := by decide +kernel
theorem dX6_sum_8 : decode prog_8_method_24_code 8 = .ok (.invokestatic 83, 3) := by decide +kernel
theorem dX6_sum_11 : decode prog_8_method_24_code 11 = .ok (.ifCond .eq 10, 3) := by decide +kernel
theorem dX6_sum_14 : decode prog_8_method_24_code 14 = .ok (.iload_n 3, 1) := by decide +kernel
theorem dX6_sum_15 : decode prog_8_method_24_code 15 = .ok (.invokestatic 83, 3) := by decide +kernel
theorem dX6_sum_18 : decode prog_8_method_24_code 18 = .ok (.ifCond .ne 5, 3) := by decide +kernel
theorem dX6_sum_21 : decode prog_8_method_24_code 21 = .ok (.iconst 0, 1) := by decide +kernel
theorem dX6_sum_22 : decode prog_8_method_24_code 22 = .ok (.ireturn, 1) := by decide +kernel
theorem dX6_sum_23 : decode prog_8_method_24_code 23 = .ok (.aload_n 0, 1) := by decide +kernel
theorem dX6_sum_24 : decode prog_8_method_24_code 24 = .ok (.getfield 20, 3) := by decide +kernel
theorem dX6_sum_27 : decode prog_8_method_24_code 27 = .ok (.iload_n 2, 1) := by decide +kernel
theorem dX6_sum_28 : decode prog_8_method_24_code 28 = .ok (.iaload, 1) := by decide +kernel
theorem dX6_sum_29 : decode prog_8_method_24_code 29 = .ok (.aload_n 0, 1) := by decide +kernel
theorem dX6_sum_30 : decode prog_8_method_24_code 30 = .ok (.getfield 20, 3) := by decide +kernel
theorem dX6_sum_33 : decode prog_8_method_24_code 33 = .ok (.iload_n 3, 1) := by decide +kernel
theorem dX6_sum_34 : decode prog_8_method_24_code 34 = .ok (.iaload, 1) := by decide +kernel
theorem dX6_sum_35 : decode prog_8_method_24_code 35 = .ok (.if_icmp .le 12, 3) := by decide +kernel
theorem dX6_sum_38 : decode prog_8_method_24_code 38 = .ok (.aload_n 0, 1) := by decide +kernel
theorem dX6_sum_39 : decode prog_8_method_24_code 39 = .ok (.getfield 20, 3) := by decide +kernel
theorem dX6_sum_42 : decode prog_8_method_24_code 42 = .ok (.iload_n 2, 1) := by decide +kernel
theorem dX6_sum_43 : decode prog_8_method_24_code 43 = .ok (.iaload, 1) := by decide +kernel
theorem dX6_sum_44 : decode prog_8_method_24_code 44 = .ok (.goto 9, 3) := by decide +kernel
theorem dX6_sum_47 : decode prog_8_method_24_code 47 = .ok (.aload_n 0, 1) := by decide +kernel
theorem dX6_sum_48 : decode prog_8_method_24_code 48 = .ok (.getfield 20, 3) := by decide +kernel
theorem dX6_sum_51 : decode prog_8_method_24_code 51 = .ok (.iload_n 3, 1) := by decide +kernel
theorem dX6_sum_52 : decode prog_8_method_24_code 52 = .ok (.iaload, 1) := by decide +kernel
theorem dX6_sum_53 : decode prog_8_method_24_code 53 = .ok (.istore 5, 2) := by decide +kernel
theorem dX6_sum_55 : decode prog_8_method_24_code 55 = .ok (.iload 5, 2) := by decide +kernel
theorem dX6_sum_57 : decode prog_8_method_24_code 57 = .ok (.i2l, 1) := by decide +kernel
theorem dX6_sum_58 : decode prog_8_method_24_code 58 = .ok (.aload_n 0, 1) := by decide +kernel
theorem dX6_sum_59 : decode prog_8_method_24_code 59 = .ok (.getfield 20, 3) := by decide +kernel
theorem dX6_sum_62 : decode prog_8_method_24_code 62 = .ok (.iload_n 2, 1) := by decide +kernel
theorem dX6_sum_63 : decode prog_8_method_24_code 63 = .ok (.iaload, 1) := by decide +kernel
theorem dX6_sum_64 : decode prog_8_method_24_code 64 = .ok (.i2l, 1) := by decide +kernel
theorem dX6_sum_65 : decode prog_8_method_24_code 65 = .ok (.lsub, 1) := by decide +kernel
theorem dX6_sum_66 : decode prog_8_method_24_code 66 = .ok (.lstore 6, 2) := by decide +kernel
theorem dX6_sum_68 : decode prog_8_method_24_code 68 = .ok (.iload 5, 2) := by decide +kernel
theorem dX6_sum_70 : decode prog_8_method_24_code 70 = .ok (.i2l, 1) := by decide +kernel
theorem dX6_sum_71 : decode prog_8_method_24_code 71 = .ok (.aload_n 0, 1) := by decide +kernel
theorem dX6_sum_72 : decode prog_8_method_24_code 72 = .ok (.getfield 20, 3) := by decide +kernel
theorem dX6_sum_75 : decode prog_8_method_24_code 75 = .ok (.iload_n 3, 1) := by decide +kernel
theorem dX6_sum_76 : decode prog_8_method_24_code 76 = .ok (.iaload, 1) := by decide +kernel
theorem dX6_sum_77 : decode prog_8_method_24_code 77 = .ok (.i2l, 1) := by decide +kernel
theorem dX6_sum_78 : decode prog_8_method_24_code 78 = .ok (.lsub, 1) := by decide +kernel
theorem dX6_sum_79 : decode prog_8_method_24_code 79 = .ok (.lstore 8, 2) := by decide +kernel
theorem dX6_sum_81 : decode prog_8_method_24_code 81 = .ok (.aload_n 0, 1) := by decide +kernel
theorem dX6_sum_82 : decode prog_8_method_24_code 82 = .ok (.getfield 14, 3) := by decide +kernel
theorem dX6_sum_85 : decode prog_8_method_24_code 85 = .ok (.iload_n 2, 1) := by decide +kernel
theorem dX6_sum_86 : decode prog_8_method_24_code 86 = .ok (.iaload, 1) := by decide +kernel
theorem dX6_sum_87 : decode prog_8_method_24_code 87 = .ok (.ifCond .le 20, 3) := by decide +kernel
theorem dX6_sum_90 : decode prog_8_method_24_code 90 = .ok (.aload_n 0, 1) := by decide +kernel
theorem dX6_sum_91 : decode prog_8_method_24_code 91 = .ok (.getfield 14, 3) := by decide +kernel
theorem dX6_sum_94 : decode prog_8_method_24_code 94 = .ok (.iload_n 2, 1) := by decide +kernel
theorem dX6_sum_95 : decode prog_8_method_24_code 95 = .ok (.iaload, 1) := by decide +kernel
theorem dX6_sum_96 : decode prog_8_method_24_code 96 = .ok (.i2l, 1) := by decide +kernel
theorem dX6_sum_97 : decode prog_8_method_24_code 97 = .ok (.lload 6, 2) := by decide +kernel
theorem dX6_sum_99 : decode prog_8_method_24_code 99 = .ok (.ladd, 1) := by decide +kernel
theorem dX6_sum_100 : decode prog_8_method_24_code 100 = .ok (.ldc2_w 92, 3) := by decide +kernel
theorem dX6_sum_103 : decode prog_8_method_24_code 103 = .ok (.lcmp, 1) := by decide +kernel
theorem dX6_sum_104 : decode prog_8_method_24_code 104 = .ok (.ifCond .gt 29, 3) := by decide +kernel
theorem dX6_sum_107 : decode prog_8_method_24_code 107 = .ok (.aload_n 0, 1) := by decide +kernel
theorem dX6_sum_108 : decode prog_8_method_24_code 108 = .ok (.getfield 14, 3) := by decide +kernel
theorem dX6_sum_111 : decode prog_8_method_24_code 111 = .ok (.iload_n 3, 1) := by decide +kernel
theorem dX6_sum_112 : decode prog_8_method_24_code 112 = .ok (.iaload, 1) := by decide +kernel
theorem dX6_sum_113 : decode prog_8_method_24_code 113 = .ok (.ifCond .le 22, 3) := by decide +kernel
theorem dX6_sum_116 : decode prog_8_method_24_code 116 = .ok (.aload_n 0, 1) := by decide +kernel
theorem dX6_sum_117 : decode prog_8_method_24_code 117 = .ok (.getfield 14, 3) := by decide +kernel
theorem dX6_sum_120 : decode prog_8_method_24_code 120 = .ok (.iload_n 3, 1) := by decide +kernel
theorem dX6_sum_121 : decode prog_8_method_24_code 121 = .ok (.iaload, 1) := by decide +kernel
theorem dX6_sum_122 : decode prog_8_method_24_code 122 = .ok (.i2l, 1) := by decide +kernel
theorem dX6_sum_123 : decode prog_8_method_24_code 123 = .ok (.lload 8, 2) := by decide +kernel
theorem dX6_sum_125 : decode prog_8_method_24_code 125 = .ok (.ladd, 1) := by decide +kernel
theorem dX6_sum_126 : decode prog_8_method_24_code 126 = .ok (.ldc2_w 92, 3) := by decide +kernel
theorem dX6_sum_129 : decode prog_8_method_24_code 129 = .ok (.lcmp, 1) := by decide +kernel
theorem dX6_sum_130 : decode prog_8_method_24_code 130 = .ok (.ifCond .le 5, 3) := by decide +kernel
theorem dX6_sum_133 : decode prog_8_method_24_code 133 = .ok (.iconst 0, 1) := by decide +kernel
theorem dX6_sum_134 : decode prog_8_method_24_code 134 = .ok (.ireturn, 1) := by decide +kernel
theorem dX6_sum_135 : decode prog_8_method_24_code 135 = .ok (.aload_n 0, 1) := by decide +kernel
theorem dX6_sum_136 : decode prog_8_method_24_code 136 = .ok (.iconst 0, 1) := by decide +kernel
theorem dX6_sum_137 : decode prog_8_method_24_code 137 = .ok (.iload_n 2, 1) := by decide +kernel
theorem dX6_sum_138 : decode prog_8_method_24_code 138 = .ok (.invokevirtual 89, 3) := by decide +kernel
theorem dX6_sum_141 : decode prog_8_method_24_code 141 = .ok (.aload_n 0, 1) := by decide +kernel
theorem dX6_sum_142 : decode prog_8_method_24_code 142 = .ok (.iconst 1, 1) := by decide +kernel
theorem dX6_sum_143 : decode prog_8_method_24_code 143 = .ok (.iload_n 3, 1) := by decide +kernel
theorem dX6_sum_144 : decode prog_8_method_24_code 144 = .ok (.invokevirtual 89, 3) := by decide +kernel
theorem dX6_sum_147 : decode prog_8_method_24_code 147 = .ok (.aload_n 0, 1) := by decide +kernel
theorem dX6_sum_148 : decode prog_8_method_24_code 148 = .ok (.getfield 27, 3) := by decide +kernel
theorem dX6_sum_151 : decode prog_8_method_24_code 151 = .ok (.iconst 0, 1) := by decide +kernel
theorem dX6_sum_152 : decode prog_8_method_24_code 152 = .ok (.iaload, 1) := by decide +kernel
theorem dX6_sum_153 : decode prog_8_method_24_code 153 = .ok (.ifCond .le 11, 3) := by decide +kernel
theorem dX6_sum_156 : decode prog_8_method_24_code 156 = .ok (.aload_n 0, 1) := by decide +kernel
theorem dX6_sum_157 : decode prog_8_method_24_code 157 = .ok (.iconst 0, 1) := by decide +kernel
theorem dX6_sum_158 : decode prog_8_method_24_code 158 = .ok (.lload 6, 2) := by decide +kernel
theorem dX6_sum_160 : decode prog_8_method_24_code 160 = .ok (.l2i, 1) := by decide +kernel
theorem dX6_sum_161 : decode prog_8_method_24_code 161 = .ok (.invokevirtual 49, 3) := by decide +kernel
theorem dX6_sum_164 : decode prog_8_method_24_code 164 = .ok (.aload_n 0, 1) := by decide +kernel
theorem dX6_sum_165 : decode prog_8_method_24_code 165 = .ok (.getfield 27, 3) := by decide +kernel
theorem dX6_sum_168 : decode prog_8_method_24_code 168 = .ok (.iconst 1, 1) := by decide +kernel
theorem dX6_sum_169 : decode prog_8_method_24_code 169 = .ok (.iaload, 1) := by decide +kernel
theorem dX6_sum_170 : decode prog_8_method_24_code 170 = .ok (.ifCond .le 11, 3) := by decide +kernel
theorem dX6_sum_173 : decode prog_8_method_24_code 173 = .ok (.aload_n 0, 1) := by decide +kernel
theorem dX6_sum_174 : decode prog_8_method_24_code 174 = .ok (.iconst 1, 1) := by decide +kernel
theorem dX6_sum_175 : decode prog_8_method_24_code 175 = .ok (.lload 8, 2) := by decide +kernel
theorem dX6_sum_177 : decode prog_8_method_24_code 177 = .ok (.l2i, 1) := by decide +kernel
theorem dX6_sum_178 : decode prog_8_method_24_code 178 = .ok (.invokevirtual 49, 3) := by decide +kernel
theorem dX6_sum_181 : decode prog_8_method_24_code 181 = .ok (.aload_n 0, 1) := by decide +kernel
theorem dX6_sum_182 : decode prog_8_method_24_code 182 = .ok (.getfield 17, 3) := by decide +kernel
theorem dX6_sum_185 : decode prog_8_method_24_code 185 = .ok (.iload_n 2, 1) := by decide +kernel
theorem dX6_sum_186 : decode prog_8_method_24_code 186 = .ok (.iaload, 1) := by decide +kernel
theorem dX6_sum_187 : decode prog_8_method_24_code 187 = .ok (.istore 10, 2) := by decide +kernel
theorem dX6_sum_189 : decode prog_8_method_24_code 189 = .ok (.iload 4, 2) := by decide +kernel
theorem dX6_sum_191 : decode prog_8_method_24_code 191 = .ok (.aload_n 0, 1) := by decide +kernel
theorem dX6_sum_192 : decode prog_8_method_24_code 192 = .ok (.getfield 17, 3) := by decide +kernel
theorem dX6_sum_195 : decode prog_8_method_24_code 195 = .ok (.iload_n 3, 1) := by decide +kernel
theorem dX6_sum_196 : decode prog_8_method_24_code 196 = .ok (.iaload, 1) := by decide +kernel
theorem dX6_sum_197 : decode prog_8_method_24_code 197 = .ok (.imul, 1) := by decide +kernel
theorem dX6_sum_198 : decode prog_8_method_24_code 198 = .ok (.istore 11, 2) := by decide +kernel
theorem dX6_sum_200 : decode prog_8_method_24_code 200 = .ok (.iload 10, 2) := by decide +kernel
theorem dX6_sum_202 : decode prog_8_method_24_code 202 = .ok (.iload 11, 2) := by decide +kernel
theorem dX6_sum_204 : decode prog_8_method_24_code 204 = .ok (.imul, 1) := by decide +kernel
theorem dX6_sum_205 : decode prog_8_method_24_code 205 = .ok (.ifCond .lt 31, 3) := by decide +kernel
theorem dX6_sum_208 : decode prog_8_method_24_code 208 = .ok (.aload_n 0, 1) := by decide +kernel
theorem dX6_sum_209 : decode prog_8_method_24_code 209 = .ok (.iconst 0, 1) := by decide +kernel
theorem dX6_sum_210 : decode prog_8_method_24_code 210 = .ok (.iconst 1, 1) := by decide +kernel
theorem dX6_sum_211 : decode prog_8_method_24_code 211 = .ok (.invokevirtual 94, 3) := by decide +kernel
theorem dX6_sum_214 : decode prog_8_method_24_code 214 = .ok (.aload_n 0, 1) := by decide +kernel
theorem dX6_sum_215 : decode prog_8_method_24_code 215 = .ok (.iload_n 1, 1) := by decide +kernel
theorem dX6_sum_216 : decode prog_8_method_24_code 216 = .ok (.iconst 0, 1) := by decide +kernel
theorem dX6_sum_217 : decode prog_8_method_24_code 217 = .ok (.iload 10, 2) := by decide +kernel
theorem dX6_sum_219 : decode prog_8_method_24_code 219 = .ok (.ifCond .eq 8, 3) := by decide +kernel
theorem dX6_sum_222 : decode prog_8_method_24_code 222 = .ok (.iload 10, 2) := by decide +kernel
theorem dX6_sum_224 : decode prog_8_method_24_code 224 = .ok (.goto 5, 3) := by decide +kernel
theorem dX6_sum_227 : decode prog_8_method_24_code 227 = .ok (.iload 11, 2) := by decide +kernel
theorem dX6_sum_229 : decode prog_8_method_24_code 229 = .ok (.iload 5, 2) := by decide +kernel
theorem dX6_sum_231 : decode prog_8_method_24_code 231 = .ok (.i2l, 1) := by decide +kernel
theorem dX6_sum_232 : decode prog_8_method_24_code 232 = .ok (.invokevirtual 75, 3) := by decide +kernel
theorem dX6_sum_235 : decode prog_8_method_24_code 235 = .ok (.ireturn, 1) := by decide +kernel
theorem dX6_sum_236 : decode prog_8_method_24_code 236 = .ok (.aload_n 0, 1) := by decide +kernel
theorem dX6_sum_237 : decode prog_8_method_24_code 237 = .ok (.iconst 0, 1) := by decide +kernel
theorem dX6_sum_238 : decode prog_8_method_24_code 238 = .ok (.iconst 1, 1) := by decide +kernel
theorem dX6_sum_239 : decode prog_8_method_24_code 239 = .ok (.invokevirtual 53, 3) := by decide +kernel
theorem dX6_sum_242 : decode prog_8_method_24_code 242 = .ok (.ifCond .lt 21, 3) := by decide +kernel
theorem dX6_sum_245 : decode prog_8_method_24_code 245 = .ok (.aload_n 0, 1) := by decide +kernel
theorem dX6_sum_246 : decode prog_8_method_24_code 246 = .ok (.iconst 0, 1) := by decide +kernel
theorem dX6_sum_247 : decode prog_8_method_24_code 247 = .ok (.iconst 1, 1) := by decide +kernel
theorem dX6_sum_248 : decode prog_8_method_24_code 248 = .ok (.invokevirtual 57, 3) := by decide +kernel
theorem dX6_sum_251 : decode prog_8_method_24_code 251 = .ok (.aload_n 0, 1) := by decide +kernel
theorem dX6_sum_252 : decode prog_8_method_24_code 252 = .ok (.iload_n 1, 1) := by decide +kernel
theorem dX6_sum_253 : decode prog_8_method_24_code 253 = .ok (.iconst 0, 1) := by decide +kernel
theorem dX6_sum_254 : decode prog_8_method_24_code 254 = .ok (.iload 10, 2) := by decide +kernel
theorem dX6_sum_256 : decode prog_8_method_24_code 256 = .ok (.iload 5, 2) := by decide +kernel
theorem dX6_sum_258 : decode prog_8_method_24_code 258 = .ok (.i2l, 1) := by decide +kernel
theorem dX6_sum_259 : decode prog_8_method_24_code 259 = .ok (.invokevirtual 75, 3) := by decide +kernel
theorem dX6_sum_262 : decode prog_8_method_24_code 262 = .ok (.ireturn, 1) := by decide +kernel
theorem dX6_sum_263 : decode prog_8_method_24_code 263 = .ok (.aload_n 0, 1) := by decide +kernel
theorem dX6_sum_264 : decode prog_8_method_24_code 264 = .ok (.iconst 1, 1) := by decide +kernel
theorem dX6_sum_265 : decode prog_8_method_24_code 265 = .ok (.iconst 0, 1) := by decide +kernel
theorem dX6_sum_266 : decode prog_8_method_24_code 266 = .ok (.invokevirtual 57, 3) := by decide +kernel
theorem dX6_sum_269 : decode prog_8_method_24_code 269 = .ok (.aload_n 0, 1) := by decide +kernel
theorem dX6_sum_270 : decode prog_8_method_24_code 270 = .ok (.iload_n 1, 1) := by decide +kernel
theorem dX6_sum_271 : decode prog_8_method_24_code 271 = .ok (.iconst 1, 1) := by decide +kernel
theorem dX6_sum_272 : decode prog_8_method_24_code 272 = .ok (.iload 11, 2) := by decide +kernel
theorem dX6_sum_274 : decode prog_8_method_24_code 274 = .ok (.iload 5, 2) := by decide +kernel
theorem dX6_sum_276 : decode prog_8_method_24_code 276 = .ok (.i2l, 1) := by decide +kernel
theorem dX6_sum_277 : decode prog_8_method_24_code 277 = .ok (.invokevirtual 75, 3) := by decide +kernel
theorem dX6_sum_280 : decode prog_8_method_24_code 280 = .ok (.ireturn, 1) := by decide +kernel
theorem dX6_add_0 : decode prog_8_method_25_code 0 = .ok (.aload_n 0, 1) := by decide +kernel
theorem dX6_add_1 : decode prog_8_method_25_code 1 = .ok (.iload_n 1, 1) := by decide +kernel
theorem dX6_add_2 : decode prog_8_method_25_code 2 = .ok (.iload_n 2, 1) := by decide +kernel
theorem dX6_add_3 : decode prog_8_method_25_code 3 = .ok (.iload_n 3, 1) := by decide +kernel
theorem dX6_add_4 : decode prog_8_method_25_code 4 = .ok (.iconst 1, 1) := by decide +kernel
theorem dX6_add_5 : decode prog_8_method_25_code 5 = .ok (.invokevirtual 97, 3) := by decide +kernel
theorem dX6_add_8 : decode prog_8_method_25_code 8 = .ok (.ireturn, 1) := by decide +kernel
theorem dX6_take_0 : decode prog_8_method_26_code 0 = .ok (.aload_n 0, 1) := by decide +kernel
theorem dX6_take_1 : decode prog_8_method_26_code 1 = .ok (.iload_n 1, 1) := by decide +kernel
theorem dX6_take_2 : decode prog_8_method_26_code 2 = .ok (.iload_n 2, 1) := by decide +kernel
theorem dX6_take_3 : decode prog_8_method_26_code 3 = .ok (.iload_n 3, 1) := by decide +kernel
theorem dX6_take_4 : decode prog_8_method_26_code 4 = .ok (.iconst (-1), 1) := by decide +kernel
theorem dX6_take_5 : decode prog_8_method_26_code 5 = .ok (.invokevirtual 97, 3) := by decide +kernel
theorem dX6_take_8 : decode prog_8_method_26_code 8 = .ok (.ireturn, 1) := by decide +kernel
theorem dX6_times_0 : decode prog_8_method_27_code 0 = .ok (.iload_n 1, 1) := by decide +kernel
theorem dX6_times_1 : decode prog_8_method_27_code 1 = .ok (.invokestatic 83, 3) := by decide +kernel
theorem dX6_times_4 : decode prog_8_method_27_code 4 = .ok (.ifCond .eq 17, 3) := by decide +kernel
theorem dX6_times_7 : decode prog_8_method_27_code 7 = .ok (.iload_n 2, 1) := by decide +kernel
theorem dX6_times_8 : decode prog_8_method_27_code 8 = .ok (.invokestatic 83, 3) := by decide +kernel
theorem dX6_times_11 : decode prog_8_method_27_code 11 = .ok (.ifCond .eq 10, 3) := by decide +kernel
theorem dX6_times_14 : decode prog_8_method_27_code 14 = .ok (.iload_n 3, 1) := by decide +kernel
theorem dX6_times_15 : decode prog_8_method_27_code 15 = .ok (.invokestatic 83, 3) := by decide +kernel
theorem dX6_times_18 : decode prog_8_method_27_code 18 = .ok (.ifCond .ne 5, 3) := by decide +kernel
theorem dX6_times_21 : decode prog_8_method_27_code 21 = .ok (.iconst 0, 1) := by decide +kernel
theorem dX6_times_22 : decode prog_8_method_27_code 22 = .ok (.ireturn, 1) := by decide +kernel
theorem dX6_times_23 : decode prog_8_method_27_code 23 = .ok (.aload_n 0, 1) := by decide +kernel
theorem dX6_times_24 : decode prog_8_method_27_code 24 = .ok (.iconst 0, 1) := by decide +kernel
theorem dX6_times_25 : decode prog_8_method_27_code 25 = .ok (.iload_n 2, 1) := by decide +kernel
theorem dX6_times_26 : decode prog_8_method_27_code 26 = .ok (.invokevirtual 89, 3) := by decide +kernel
theorem dX6_times_29 : decode prog_8_method_27_code 29 = .ok (.aload_n 0, 1) := by decide +kernel
theorem dX6_times_30 : decode prog_8_method_27_code 30 = .ok (.iconst 1, 1) := by decide +kernel
theorem dX6_times_31 : decode prog_8_method_27_code 31 = .ok (.iload_n 3, 1) := by decide +kernel
theorem dX6_times_32 : decode prog_8_method_27_code 32 = .ok (.invokevirtual 89, 3) := by decide +kernel
theorem dX6_times_35 : decode prog_8_method_27_code 35 = .ok (.aload_n 0, 1) := by decide +kernel
theorem dX6_times_36 : decode prog_8_method_27_code 36 = .ok (.invokevirtual 101, 3) := by decide +kernel
theorem dX6_times_39 : decode prog_8_method_27_code 39 = .ok (.aload_n 0, 1) := by decide +kernel
theorem dX6_times_40 : decode prog_8_method_27_code 40 = .ok (.iload_n 1, 1) := by decide +kernel
theorem dX6_times_41 : decode prog_8_method_27_code 41 = .ok (.iconst 2, 1) := by decide +kernel
theorem dX6_times_42 : decode prog_8_method_27_code 42 = .ok (.aload_n 0, 1) := by decide +kernel
theorem dX6_times_43 : decode prog_8_method_27_code 43 = .ok (.getfield 17, 3) := by decide +kernel
theorem dX6_times_46 : decode prog_8_method_27_code 46 = .ok (.iload_n 2, 1) := by decide +kernel
theorem dX6_times_47 : decode prog_8_method_27_code 47 = .ok (.iaload, 1) := by decide +kernel
theorem dX6_times_48 : decode prog_8_method_27_code 48 = .ok (.aload_n 0, 1) := by decide +kernel
theorem dX6_times_49 : decode prog_8_method_27_code 49 = .ok (.getfield 17, 3) := by decide +kernel
theorem dX6_times_52 : decode prog_8_method_27_code 52 = .ok (.iload_n 3, 1) := by decide +kernel
theorem dX6_times_53 : decode prog_8_method_27_code 53 = .ok (.iaload, 1) := by decide +kernel
theorem dX6_times_54 : decode prog_8_method_27_code 54 = .ok (.imul, 1) := by decide +kernel
theorem dX6_times_55 : decode prog_8_method_27_code 55 = .ok (.aload_n 0, 1) := by decide +kernel
theorem dX6_times_56 : decode prog_8_method_27_code 56 = .ok (.getfield 20, 3) := by decide +kernel
theorem dX6_times_59 : decode prog_8_method_27_code 59 = .ok (.iload_n 2, 1) := by decide +kernel
theorem dX6_times_60 : decode prog_8_method_27_code 60 = .ok (.iaload, 1) := by decide +kernel
theorem dX6_times_61 : decode prog_8_method_27_code 61 = .ok (.i2l, 1) := by decide +kernel
theorem dX6_times_62 : decode prog_8_method_27_code 62 = .ok (.aload_n 0, 1) := by decide +kernel
theorem dX6_times_63 : decode prog_8_method_27_code 63 = .ok (.getfield 20, 3) := by decide +kernel
theorem dX6_times_66 : decode prog_8_method_27_code 66 = .ok (.iload_n 3, 1) := by decide +kernel
theorem dX6_times_67 : decode prog_8_method_27_code 67 = .ok (.iaload, 1) := by decide +kernel
theorem dX6_times_68 : decode prog_8_method_27_code 68 = .ok (.i2l, 1) := by decide +kernel
theorem dX6_times_69 : decode prog_8_method_27_code 69 = .ok (.ladd, 1) := by decide +kernel
theorem dX6_times_70 : decode prog_8_method_27_code 70 = .ok (.invokevirtual 75, 3) := by decide +kernel
theorem dX6_times_73 : decode prog_8_method_27_code 73 = .ok (.ireturn, 1) := by decide +kernel
theorem dX6_power_0 : decode prog_8_method_28_code 0 = .ok (.iload_n 1, 1) := by decide +kernel
theorem dX6_power_1 : decode prog_8_method_28_code 1 = .ok (.invokestatic 83, 3) := by decide +kernel
theorem dX6_power_4 : decode prog_8_method_28_code 4 = .ok (.ifCond .eq 14, 3) := by decide +kernel
theorem dX6_power_7 : decode prog_8_method_28_code 7 = .ok (.iload_n 2, 1) := by decide +kernel
theorem dX6_power_8 : decode prog_8_method_28_code 8 = .ok (.invokestatic 83, 3) := by decide +kernel
theorem dX6_power_11 : decode prog_8_method_28_code 11 = .ok (.ifCond .eq 7, 3) := by decide +kernel
theorem dX6_power_14 : decode prog_8_method_28_code 14 = .ok (.iload_n 3, 1) := by decide +kernel
theorem dX6_power_15 : decode prog_8_method_28_code 15 = .ok (.ifCond .ge 5, 3) := by decide +kernel
theorem dX6_power_18 : decode prog_8_method_28_code 18 = .ok (.iconst 0, 1) := by decide +kernel
theorem dX6_power_19 : decode prog_8_method_28_code 19 = .ok (.ireturn, 1) := by decide +kernel
theorem dX6_power_20 : decode prog_8_method_28_code 20 = .ok (.aload_n 0, 1) := by decide +kernel
theorem dX6_power_21 : decode prog_8_method_28_code 21 = .ok (.getfield 20, 3) := by decide +kernel
theorem dX6_power_24 : decode prog_8_method_28_code 24 = .ok (.iload_n 2, 1) := by decide +kernel
theorem dX6_power_25 : decode prog_8_method_28_code 25 = .ok (.iaload, 1) := by decide +kernel
theorem dX6_power_26 : decode prog_8_method_28_code 26 = .ok (.i2l, 1) := by decide +kernel
theorem dX6_power_27 : decode prog_8_method_28_code 27 = .ok (.iload_n 3, 1) := by decide +kernel
theorem dX6_power_28 : decode prog_8_method_28_code 28 = .ok (.i2l, 1) := by decide +kernel
theorem dX6_power_29 : decode prog_8_method_28_code 29 = .ok (.lmul, 1) := by decide +kernel
theorem dX6_power_30 : decode prog_8_method_28_code 30 = .ok (.lstore 4, 2) := by decide +kernel
theorem dX6_power_32 : decode prog_8_method_28_code 32 = .ok (.aload_n 0, 1) := by decide +kernel
theorem dX6_power_33 : decode prog_8_method_28_code 33 = .ok (.iconst 1, 1) := by decide +kernel
theorem dX6_power_34 : decode prog_8_method_28_code 34 = .ok (.iload_n 2, 1) := by decide +kernel
theorem dX6_power_35 : decode prog_8_method_28_code 35 = .ok (.invokevirtual 89, 3) := by decide +kernel
theorem dX6_power_38 : decode prog_8_method_28_code 38 = .ok (.aload_n 0, 1) := by decide +kernel
theorem dX6_power_39 : decode prog_8_method_28_code 39 = .ok (.getfield 27, 3) := by decide +kernel
theorem dX6_power_42 : decode prog_8_method_28_code 42 = .ok (.iconst 0, 1) := by decide +kernel
theorem dX6_power_43 : decode prog_8_method_28_code 43 = .ok (.iconst 1, 1) := by decide +kernel
theorem dX6_power_44 : decode prog_8_method_28_code 44 = .ok (.iastore, 1) := by decide +kernel
theorem dX6_power_45 : decode prog_8_method_28_code 45 = .ok (.aload_n 0, 1) := by decide +kernel
theorem dX6_power_46 : decode prog_8_method_28_code 46 = .ok (.getfield 24, 3) := by decide +kernel
theorem dX6_power_49 : decode prog_8_method_28_code 49 = .ok (.iconst 0, 1) := by decide +kernel
theorem dX6_power_50 : decode prog_8_method_28_code 50 = .ok (.iconst 1, 1) := by decide +kernel
theorem dX6_power_51 : decode prog_8_method_28_code 51 = .ok (.iastore, 1) := by decide +kernel
theorem dX6_power_52 : decode prog_8_method_28_code 52 = .ok (.aload_n 0, 1) := by decide +kernel
theorem dX6_power_53 : decode prog_8_method_28_code 53 = .ok (.getfield 27, 3) := by decide +kernel
theorem dX6_power_56 : decode prog_8_method_28_code 56 = .ok (.iconst 1, 1) := by decide +kernel
theorem dX6_power_57 : decode prog_8_method_28_code 57 = .ok (.iaload, 1) := by decide +kernel
theorem dX6_power_58 : decode prog_8_method_28_code 58 = .ok (.ifCond .eq 25, 3) := by decide +kernel
theorem dX6_power_61 : decode prog_8_method_28_code 61 = .ok (.aload_n 0, 1) := by decide +kernel
theorem dX6_power_62 : decode prog_8_method_28_code 62 = .ok (.getfield 27, 3) := by decide +kernel
theorem dX6_power_65 : decode prog_8_method_28_code 65 = .ok (.iconst 1, 1) := by decide +kernel
theorem dX6_power_66 : decode prog_8_method_28_code 66 = .ok (.iaload, 1) := by decide +kernel
theorem dX6_power_67 : decode prog_8_method_28_code 67 = .ok (.iconst 1, 1) := by decide +kernel
theorem dX6_power_68 : decode prog_8_method_28_code 68 = .ok (.if_icmp .ne 19, 3) := by decide +kernel
theorem dX6_power_71 : decode prog_8_method_28_code 71 = .ok (.aload_n 0, 1) := by decide +kernel
theorem dX6_power_72 : decode prog_8_method_28_code 72 = .ok (.getfield 24, 3) := by decide +kernel
theorem dX6_power_75 : decode prog_8_method_28_code 75 = .ok (.sipush 17000, 3) := by decide +kernel
theorem dX6_power_78 : decode prog_8_method_28_code 78 = .ok (.iaload, 1) := by decide +kernel
theorem dX6_power_79 : decode prog_8_method_28_code 79 = .ok (.iconst 1, 1) := by decide +kernel
theorem dX6_power_80 : decode prog_8_method_28_code 80 = .ok (.if_icmp .ne 7, 3) := by decide +kernel
theorem dX6_power_83 : decode prog_8_method_28_code 83 = .ok (.iconst 1, 1) := by decide +kernel
theorem dX6_power_84 : decode prog_8_method_28_code 84 = .ok (.goto 4, 3) := by decide +kernel
theorem dX6_power_87 : decode prog_8_method_28_code 87 = .ok (.iconst 0, 1) := by decide +kernel
theorem dX6_power_88 : decode prog_8_method_28_code 88 = .ok (.istore 6, 2) := by decide +kernel
theorem dX6_power_90 : decode prog_8_method_28_code 90 = .ok (.aload_n 0, 1) := by decide +kernel
theorem dX6_power_91 : decode prog_8_method_28_code 91 = .ok (.getfield 27, 3) := by decide +kernel
theorem dX6_power_94 : decode prog_8_method_28_code 94 = .ok (.iconst 1, 1) := by decide +kernel
theorem dX6_power_95 : decode prog_8_method_28_code 95 = .ok (.iaload, 1) := by decide +kernel
theorem dX6_power_96 : decode prog_8_method_28_code 96 = .ok (.ifCond .ne 14, 3) := by decide +kernel
theorem dX6_power_99 : decode prog_8_method_28_code 99 = .ok (.iload_n 3, 1) := by decide +kernel
theorem dX6_power_100 : decode prog_8_method_28_code 100 = .ok (.ifCond .le 10, 3) := by decide +kernel
theorem dX6_power_103 : decode prog_8_method_28_code 103 = .ok (.aload_n 0, 1) := by decide +kernel
theorem dX6_power_104 : decode prog_8_method_28_code 104 = .ok (.getfield 27, 3) := by decide +kernel
theorem dX6_power_107 : decode prog_8_method_28_code 107 = .ok (.iconst 0, 1) := by decide +kernel
theorem dX6_power_108 : decode prog_8_method_28_code 108 = .ok (.iconst 0, 1) := by decide +kernel
theorem dX6_power_109 : decode prog_8_method_28_code 109 = .ok (.iastore, 1) := by decide +kernel
theorem dX6_power_110 : decode prog_8_method_28_code 110 = .ok (.iconst 0, 1) := by decide +kernel
theorem dX6_power_111 : decode prog_8_method_28_code 111 = .ok (.istore 7, 2) := by decide +kernel
theorem dX6_power_113 : decode prog_8_method_28_code 113 = .ok (.iload 7, 2) := by decide +kernel
theorem dX6_power_115 : decode prog_8_method_28_code 115 = .ok (.iload_n 3, 1) := by decide +kernel
theorem dX6_power_116 : decode prog_8_method_28_code 116 = .ok (.if_icmp .ge 81, 3) := by decide +kernel
theorem dX6_power_119 : decode prog_8_method_28_code 119 = .ok (.iload 6, 2) := by decide +kernel
theorem dX6_power_121 : decode prog_8_method_28_code 121 = .ok (.ifCond .ne 76, 3) := by decide +kernel
theorem dX6_power_124 : decode prog_8_method_28_code 124 = .ok (.aload_n 0, 1) := by decide +kernel
theorem dX6_power_125 : decode prog_8_method_28_code 125 = .ok (.invokevirtual 101, 3) := by decide +kernel
theorem dX6_power_128 : decode prog_8_method_28_code 128 = .ok (.aload_n 0, 1) := by decide +kernel
theorem dX6_power_129 : decode prog_8_method_28_code 129 = .ok (.getfield 27, 3) := by decide +kernel
theorem dX6_power_132 : decode prog_8_method_28_code 132 = .ok (.iconst 2, 1) := by decide +kernel
theorem dX6_power_133 : decode prog_8_method_28_code 133 = .ok (.iaload, 1) := by decide +kernel
theorem dX6_power_134 : decode prog_8_method_28_code 134 = .ok (.sipush 4096, 3) := by decide +kernel
theorem dX6_power_137 : decode prog_8_method_28_code 137 = .ok (.if_icmp .le 5, 3) := by decide +kernel
theorem dX6_power_140 : decode prog_8_method_28_code 140 = .ok (.iconst 0, 1) := by decide +kernel
theorem dX6_power_141 : decode prog_8_method_28_code 141 = .ok (.ireturn, 1) := by decide +kernel
theorem dX6_power_142 : decode prog_8_method_28_code 142 = .ok (.iconst 0, 1) := by decide +kernel
theorem dX6_power_143 : decode prog_8_method_28_code 143 = .ok (.istore 8, 2) := by decide +kernel
theorem dX6_power_145 : decode prog_8_method_28_code 145 = .ok (.iload 8, 2) := by decide +kernel
theorem dX6_power_147 : decode prog_8_method_28_code 147 = .ok (.aload_n 0, 1) := by decide +kernel
theorem dX6_power_148 : decode prog_8_method_28_code 148 = .ok (.getfield 27, 3) := by decide +kernel
theorem dX6_power_151 : decode prog_8_method_28_code 151 = .ok (.iconst 2, 1) := by decide +kernel
theorem dX6_power_152 : decode prog_8_method_28_code 152 = .ok (.iaload, 1) := by decide +kernel
theorem dX6_power_153 : decode prog_8_method_28_code 153 = .ok (.if_icmp .ge 26, 3) := by decide +kernel
theorem dX6_power_156 : decode prog_8_method_28_code 156 = .ok (.aload_n 0, 1) := by decide +kernel
theorem dX6_power_157 : decode prog_8_method_28_code 157 = .ok (.getfield 24, 3) := by decide +kernel
theorem dX6_power_160 : decode prog_8_method_28_code 160 = .ok (.iload 8, 2) := by decide +kernel
theorem dX6_power_162 : decode prog_8_method_28_code 162 = .ok (.aload_n 0, 1) := by decide +kernel
theorem dX6_power_163 : decode prog_8_method_28_code 163 = .ok (.getfield 24, 3) := by decide +kernel
theorem dX6_power_166 : decode prog_8_method_28_code 166 = .ok (.ldc 48, 2) := by decide +kernel
theorem dX6_power_168 : decode prog_8_method_28_code 168 = .ok (.iload 8, 2) := by decide +kernel
theorem dX6_power_170 : decode prog_8_method_28_code 170 = .ok (.iadd, 1) := by decide +kernel
theorem dX6_power_171 : decode prog_8_method_28_code 171 = .ok (.iaload, 1) := by decide +kernel
theorem dX6_power_172 : decode prog_8_method_28_code 172 = .ok (.iastore, 1) := by decide +kernel
theorem dX6_power_173 : decode prog_8_method_28_code 173 = .ok (.iinc 8 1, 3) := by decide +kernel
theorem dX6_power_176 : decode prog_8_method_28_code 176 = .ok (.goto (-31), 3) := by decide +kernel
theorem dX6_power_179 : decode prog_8_method_28_code 179 = .ok (.aload_n 0, 1) := by decide +kernel
theorem dX6_power_180 : decode prog_8_method_28_code 180 = .ok (.getfield 27, 3) := by decide +kernel
theorem dX6_power_183 : decode prog_8_method_28_code 183 = .ok (.iconst 0, 1) := by decide +kernel
theorem dX6_power_184 : decode prog_8_method_28_code 184 = .ok (.aload_n 0, 1) := by decide +kernel
theorem dX6_power_185 : decode prog_8_method_28_code 185 = .ok (.getfield 27, 3) := by decide +kernel
theorem dX6_power_188 : decode prog_8_method_28_code 188 = .ok (.iconst 2, 1) := by decide +kernel
theorem dX6_power_189 : decode prog_8_method_28_code 189 = .ok (.iaload, 1) := by decide +kernel
theorem dX6_power_190 : decode prog_8_method_28_code 190 = .ok (.iastore, 1) := by decide +kernel
theorem dX6_power_191 : decode prog_8_method_28_code 191 = .ok (.iinc 7 1, 3) := by decide +kernel
theorem dX6_power_194 : decode prog_8_method_28_code 194 = .ok (.goto (-81), 3) := by decide +kernel
theorem dX6_power_197 : decode prog_8_method_28_code 197 = .ok (.aload_n 0, 1) := by decide +kernel
theorem dX6_power_198 : decode prog_8_method_28_code 198 = .ok (.iload_n 1, 1) := by decide +kernel
theorem dX6_power_199 : decode prog_8_method_28_code 199 = .ok (.iconst 0, 1) := by decide +kernel
theorem dX6_power_200 : decode prog_8_method_28_code 200 = .ok (.iload_n 3, 1) := by decide +kernel
theorem dX6_power_201 : decode prog_8_method_28_code 201 = .ok (.iconst 2, 1) := by decide +kernel
theorem dX6_power_202 : decode prog_8_method_28_code 202 = .ok (.irem, 1) := by decide +kernel
theorem dX6_power_203 : decode prog_8_method_28_code 203 = .ok (.ifCond .ne 7, 3) := by decide +kernel
theorem dX6_power_206 : decode prog_8_method_28_code 206 = .ok (.iconst 1, 1) := by decide +kernel
theorem dX6_power_207 : decode prog_8_method_28_code 207 = .ok (.goto 9, 3) := by decide +kernel
theorem dX6_power_210 : decode prog_8_method_28_code 210 = .ok (.aload_n 0, 1) := by decide +kernel
theorem dX6_power_211 : decode prog_8_method_28_code 211 = .ok (.getfield 17, 3) := by decide +kernel
theorem dX6_power_214 : decode prog_8_method_28_code 214 = .ok (.iload_n 2, 1) := by decide +kernel
theorem dX6_power_215 : decode prog_8_method_28_code 215 = .ok (.iaload, 1) := by decide +kernel
theorem dX6_power_216 : decode prog_8_method_28_code 216 = .ok (.lload 4, 2) := by decide +kernel
theorem dX6_power_218 : decode prog_8_method_28_code 218 = .ok (.invokevirtual 75, 3) := by decide +kernel
theorem dX6_power_221 : decode prog_8_method_28_code 221 = .ok (.ireturn, 1) := by decide +kernel
theorem dX6_divide_0 : decode prog_8_method_29_code 0 = .ok (.iload_n 1, 1) := by decide +kernel
theorem dX6_divide_1 : decode prog_8_method_29_code 1 = .ok (.invokestatic 83, 3) := by decide +kernel
theorem dX6_divide_4 : decode prog_8_method_29_code 4 = .ok (.ifCond .eq 34, 3) := by decide +kernel
theorem dX6_divide_7 : decode prog_8_method_29_code 7 = .ok (.iload_n 2, 1) := by decide +kernel
theorem dX6_divide_8 : decode prog_8_method_29_code 8 = .ok (.invokestatic 83, 3) := by decide +kernel
theorem dX6_divide_11 : decode prog_8_method_29_code 11 = .ok (.ifCond .eq 27, 3) := by decide +kernel
theorem dX6_divide_14 : decode prog_8_method_29_code 14 = .ok (.iload_n 3, 1) := by decide +kernel
theorem dX6_divide_15 : decode prog_8_method_29_code 15 = .ok (.invokestatic 83, 3) := by decide +kernel
theorem dX6_divide_18 : decode prog_8_method_29_code 18 = .ok (.ifCond .eq 20, 3) := by decide +kernel
theorem dX6_divide_21 : decode prog_8_method_29_code 21 = .ok (.iload 5, 2) := by decide +kernel
theorem dX6_divide_23 : decode prog_8_method_29_code 23 = .ok (.invokestatic 104, 3) := by decide +kernel
theorem dX6_divide_26 : decode prog_8_method_29_code 26 = .ok (.ifCond .eq 12, 3) := by decide +kernel
theorem dX6_divide_29 : decode prog_8_method_29_code 29 = .ok (.aload_n 0, 1) := by decide +kernel
theorem dX6_divide_30 : decode prog_8_method_29_code 30 = .ok (.getfield 14, 3) := by decide +kernel
theorem dX6_divide_33 : decode prog_8_method_29_code 33 = .ok (.iload_n 3, 1) := by decide +kernel
theorem dX6_divide_34 : decode prog_8_method_29_code 34 = .ok (.iaload, 1) := by decide +kernel
theorem dX6_divide_35 : decode prog_8_method_29_code 35 = .ok (.ifCond .ne 5, 3) := by decide +kernel
theorem dX6_divide_38 : decode prog_8_method_29_code 38 = .ok (.iconst 0, 1) := by decide +kernel
theorem dX6_divide_39 : decode prog_8_method_29_code 39 = .ok (.ireturn, 1) := by decide +kernel
theorem dX6_divide_40 : decode prog_8_method_29_code 40 = .ok (.aload_n 0, 1) := by decide +kernel
theorem dX6_divide_41 : decode prog_8_method_29_code 41 = .ok (.getfield 17, 3) := by decide +kernel
theorem dX6_divide_44 : decode prog_8_method_29_code 44 = .ok (.iload_n 2, 1) := by decide +kernel
theorem dX6_divide_45 : decode prog_8_method_29_code 45 = .ok (.iaload, 1) := by decide +kernel
theorem dX6_divide_46 : decode prog_8_method_29_code 46 = .ok (.aload_n 0, 1) := by decide +kernel
theorem dX6_divide_47 : decode prog_8_method_29_code 47 = .ok (.getfield 17, 3) := by decide +kernel
theorem dX6_divide_50 : decode prog_8_method_29_code 50 = .ok (.iload_n 3, 1) := by decide +kernel
theorem dX6_divide_51 : decode prog_8_method_29_code 51 = .ok (.iaload, 1) := by decide +kernel
theorem dX6_divide_52 : decode prog_8_method_29_code 52 = .ok (.imul, 1) := by decide +kernel
theorem dX6_divide_53 : decode prog_8_method_29_code 53 = .ok (.istore 6, 2) := by decide +kernel
theorem dX6_divide_55 : decode prog_8_method_29_code 55 = .ok (.iload 4, 2) := by decide +kernel
theorem dX6_divide_57 : decode prog_8_method_29_code 57 = .ok (.i2l, 1) := by decide +kernel
theorem dX6_divide_58 : decode prog_8_method_29_code 58 = .ok (.aload_n 0, 1) := by decide +kernel
theorem dX6_divide_59 : decode prog_8_method_29_code 59 = .ok (.getfield 20, 3) := by decide +kernel
theorem dX6_divide_62 : decode prog_8_method_29_code 62 = .ok (.iload_n 2, 1) := by decide +kernel
theorem dX6_divide_63 : decode prog_8_method_29_code 63 = .ok (.iaload, 1) := by decide +kernel
theorem dX6_divide_64 : decode prog_8_method_29_code 64 = .ok (.i2l, 1) := by decide +kernel
theorem dX6_divide_65 : decode prog_8_method_29_code 65 = .ok (.lsub, 1) := by decide +kernel
theorem dX6_divide_66 : decode prog_8_method_29_code 66 = .ok (.aload_n 0, 1) := by decide +kernel
theorem dX6_divide_67 : decode prog_8_method_29_code 67 = .ok (.getfield 20, 3) := by decide +kernel
theorem dX6_divide_70 : decode prog_8_method_29_code 70 = .ok (.iload_n 3, 1) := by decide +kernel
theorem dX6_divide_71 : decode prog_8_method_29_code 71 = .ok (.iaload, 1) := by decide +kernel
theorem dX6_divide_72 : decode prog_8_method_29_code 72 = .ok (.i2l, 1) := by decide +kernel
theorem dX6_divide_73 : decode prog_8_method_29_code 73 = .ok (.ladd, 1) := by decide +kernel
theorem dX6_divide_74 : decode prog_8_method_29_code 74 = .ok (.lstore 7, 2) := by decide +kernel
theorem dX6_divide_76 : decode prog_8_method_29_code 76 = .ok (.aload_n 0, 1) := by decide +kernel
theorem dX6_divide_77 : decode prog_8_method_29_code 77 = .ok (.iconst 0, 1) := by decide +kernel
theorem dX6_divide_78 : decode prog_8_method_29_code 78 = .ok (.iload_n 2, 1) := by decide +kernel
theorem dX6_divide_79 : decode prog_8_method_29_code 79 = .ok (.invokevirtual 89, 3) := by decide +kernel
theorem dX6_divide_82 : decode prog_8_method_29_code 82 = .ok (.aload_n 0, 1) := by decide +kernel
theorem dX6_divide_83 : decode prog_8_method_29_code 83 = .ok (.iconst 1, 1) := by decide +kernel
theorem dX6_divide_84 : decode prog_8_method_29_code 84 = .ok (.iload_n 3, 1) := by decide +kernel
theorem dX6_divide_85 : decode prog_8_method_29_code 85 = .ok (.invokevirtual 89, 3) := by decide +kernel
theorem dX6_divide_88 : decode prog_8_method_29_code 88 = .ok (.aload_n 0, 1) := by decide +kernel
theorem dX6_divide_89 : decode prog_8_method_29_code 89 = .ok (.getfield 14, 3) := by decide +kernel
theorem dX6_divide_92 : decode prog_8_method_29_code 92 = .ok (.iload_n 2, 1) := by decide +kernel
theorem dX6_divide_93 : decode prog_8_method_29_code 93 = .ok (.iaload, 1) := by decide +kernel
theorem dX6_divide_94 : decode prog_8_method_29_code 94 = .ok (.i2l, 1) := by decide +kernel
theorem dX6_divide_95 : decode prog_8_method_29_code 95 = .ok (.lload 7, 2) := by decide +kernel
theorem dX6_divide_97 : decode prog_8_method_29_code 97 = .ok (.ladd, 1) := by decide +kernel
theorem dX6_divide_98 : decode prog_8_method_29_code 98 = .ok (.aload_n 0, 1) := by decide +kernel
theorem dX6_divide_99 : decode prog_8_method_29_code 99 = .ok (.getfield 14, 3) := by decide +kernel
theorem dX6_divide_102 : decode prog_8_method_29_code 102 = .ok (.iload_n 3, 1) := by decide +kernel
theorem dX6_divide_103 : decode prog_8_method_29_code 103 = .ok (.iaload, 1) := by decide +kernel
theorem dX6_divide_104 : decode prog_8_method_29_code 104 = .ok (.i2l, 1) := by decide +kernel
theorem dX6_divide_105 : decode prog_8_method_29_code 105 = .ok (.lsub, 1) := by decide +kernel
theorem dX6_divide_106 : decode prog_8_method_29_code 106 = .ok (.lstore 9, 2) := by decide +kernel
theorem dX6_divide_108 : decode prog_8_method_29_code 108 = .ok (.aload_n 0, 1) := by decide +kernel
theorem dX6_divide_109 : decode prog_8_method_29_code 109 = .ok (.iconst 0, 1) := by decide +kernel
theorem dX6_divide_110 : decode prog_8_method_29_code 110 = .ok (.putfield 40, 3) := by decide +kernel
theorem dX6_divide_113 : decode prog_8_method_29_code 113 = .ok (.aload_n 0, 1) := by decide +kernel
theorem dX6_divide_114 : decode prog_8_method_29_code 114 = .ok (.getfield 27, 3) := by decide +kernel
theorem dX6_divide_117 : decode prog_8_method_29_code 117 = .ok (.iconst 0, 1) := by decide +kernel
theorem dX6_divide_118 : decode prog_8_method_29_code 118 = .ok (.iaload, 1) := by decide +kernel
theorem dX6_divide_119 : decode prog_8_method_29_code 119 = .ok (.ifCond .ne 14, 3) := by decide +kernel
theorem dX6_divide_122 : decode prog_8_method_29_code 122 = .ok (.aload_n 0, 1) := by decide +kernel
theorem dX6_divide_123 : decode prog_8_method_29_code 123 = .ok (.iload_n 1, 1) := by decide +kernel
theorem dX6_divide_124 : decode prog_8_method_29_code 124 = .ok (.iconst 0, 1) := by decide +kernel
theorem dX6_divide_125 : decode prog_8_method_29_code 125 = .ok (.iconst 0, 1) := by decide +kernel
theorem dX6_divide_126 : decode prog_8_method_29_code 126 = .ok (.iload 4, 2) := by decide +kernel
theorem dX6_divide_128 : decode prog_8_method_29_code 128 = .ok (.i2l, 1) := by decide +kernel
theorem dX6_divide_129 : decode prog_8_method_29_code 129 = .ok (.invokevirtual 75, 3) := by decide +kernel
theorem dX6_divide_132 : decode prog_8_method_29_code 132 = .ok (.ireturn, 1) := by decide +kernel
theorem dX6_divide_133 : decode prog_8_method_29_code 133 = .ok (.lload 9, 2) := by decide +kernel
theorem dX6_divide_135 : decode prog_8_method_29_code 135 = .ok (.ldc2_w 107, 3) := by decide +kernel
theorem dX6_divide_138 : decode prog_8_method_29_code 138 = .ok (.lcmp, 1) := by decide +kernel
theorem dX6_divide_139 : decode prog_8_method_29_code 139 = .ok (.ifCond .le 5, 3) := by decide +kernel
theorem dX6_divide_142 : decode prog_8_method_29_code 142 = .ok (.iconst 0, 1) := by decide +kernel
theorem dX6_divide_143 : decode prog_8_method_29_code 143 = .ok (.ireturn, 1) := by decide +kernel
theorem dX6_divide_144 : decode prog_8_method_29_code 144 = .ok (.lload 9, 2) := by decide +kernel
theorem dX6_divide_146 : decode prog_8_method_29_code 146 = .ok (.ldc2_w 109, 3) := by decide +kernel
theorem dX6_divide_149 : decode prog_8_method_29_code 149 = .ok (.lcmp, 1) := by decide +kernel
theorem dX6_divide_150 : decode prog_8_method_29_code 150 = .ok (.ifCond .ge 18, 3) := by decide +kernel
theorem dX6_divide_153 : decode prog_8_method_29_code 153 = .ok (.aload_n 0, 1) := by decide +kernel
theorem dX6_divide_154 : decode prog_8_method_29_code 154 = .ok (.getfield 27, 3) := by decide +kernel
theorem dX6_divide_157 : decode prog_8_method_29_code 157 = .ok (.iconst 2, 1) := by decide +kernel
theorem dX6_divide_158 : decode prog_8_method_29_code 158 = .ok (.iconst 0, 1) := by decide +kernel
theorem dX6_divide_159 : decode prog_8_method_29_code 159 = .ok (.iastore, 1) := by decide +kernel
theorem dX6_divide_160 : decode prog_8_method_29_code 160 = .ok (.aload_n 0, 1) := by decide +kernel
theorem dX6_divide_161 : decode prog_8_method_29_code 161 = .ok (.iconst 1, 1) := by decide +kernel
theorem dX6_divide_162 : decode prog_8_method_29_code 162 = .ok (.putfield 40, 3) := by decide +kernel
theorem dX6_divide_165 : decode prog_8_method_29_code 165 = .ok (.goto 34, 3) := by decide +kernel
theorem dX6_divide_168 : decode prog_8_method_29_code 168 = .ok (.lload 7, 2) := by decide +kernel
theorem dX6_divide_170 : decode prog_8_method_29_code 170 = .ok (.lconst 0, 1) := by decide +kernel
theorem dX6_divide_171 : decode prog_8_method_29_code 171 = .ok (.lcmp, 1) := by decide +kernel
theorem dX6_divide_172 : decode prog_8_method_29_code 172 = .ok (.ifCond .lt 14, 3) := by decide +kernel
theorem dX6_divide_175 : decode prog_8_method_29_code 175 = .ok (.aload_n 0, 1) := by decide +kernel
theorem dX6_divide_176 : decode prog_8_method_29_code 176 = .ok (.iconst 0, 1) := by decide +kernel
theorem dX6_divide_177 : decode prog_8_method_29_code 177 = .ok (.lload 7, 2) := by decide +kernel
theorem dX6_divide_179 : decode prog_8_method_29_code 179 = .ok (.l2i, 1) := by decide +kernel
theorem dX6_divide_180 : decode prog_8_method_29_code 180 = .ok (.invokevirtual 49, 3) := by decide +kernel
theorem dX6_divide_183 : decode prog_8_method_29_code 183 = .ok (.goto 12, 3) := by decide +kernel
theorem dX6_divide_186 : decode prog_8_method_29_code 186 = .ok (.aload_n 0, 1) := by decide +kernel
theorem dX6_divide_187 : decode prog_8_method_29_code 187 = .ok (.iconst 1, 1) := by decide +kernel
theorem dX6_divide_188 : decode prog_8_method_29_code 188 = .ok (.lload 7, 2) := by decide +kernel
theorem dX6_divide_190 : decode prog_8_method_29_code 190 = .ok (.lneg, 1) := by decide +kernel
theorem dX6_divide_191 : decode prog_8_method_29_code 191 = .ok (.l2i, 1) := by decide +kernel
theorem dX6_divide_192 : decode prog_8_method_29_code 192 = .ok (.invokevirtual 49, 3) := by decide +kernel
theorem dX6_divide_195 : decode prog_8_method_29_code 195 = .ok (.aload_n 0, 1) := by decide +kernel
theorem dX6_divide_196 : decode prog_8_method_29_code 196 = .ok (.invokevirtual 111, 3) := by decide +kernel
theorem dX6_divide_199 : decode prog_8_method_29_code 199 = .ok (.aload_n 0, 1) := by decide +kernel
theorem dX6_divide_200 : decode prog_8_method_29_code 200 = .ok (.iload_n 1, 1) := by decide +kernel
theorem dX6_divide_201 : decode prog_8_method_29_code 201 = .ok (.iconst 2, 1) := by decide +kernel
theorem dX6_divide_202 : decode prog_8_method_29_code 202 = .ok (.iload 6, 2) := by decide +kernel
theorem dX6_divide_204 : decode prog_8_method_29_code 204 = .ok (.iload 4, 2) := by decide +kernel
theorem dX6_divide_206 : decode prog_8_method_29_code 206 = .ok (.i2l, 1) := by decide +kernel
theorem dX6_divide_207 : decode prog_8_method_29_code 207 = .ok (.iload 5, 2) := by decide +kernel
theorem dX6_divide_209 : decode prog_8_method_29_code 209 = .ok (.invokevirtual 114, 3) := by decide +kernel
theorem dX6_divide_212 : decode prog_8_method_29_code 212 = .ok (.ireturn, 1) := by decide +kernel
theorem dX6_ratio_0 : decode prog_8_method_30_code 0 = .ok (.iload_n 1, 1) := by decide +kernel
theorem dX6_ratio_1 : decode prog_8_method_30_code 1 = .ok (.invokestatic 83, 3) := by decide +kernel
theorem dX6_ratio_4 : decode prog_8_method_30_code 4 = .ok (.ifCond .eq 42, 3) := by decide +kernel
theorem dX6_ratio_7 : decode prog_8_method_30_code 7 = .ok (.iload_n 2, 1) := by decide +kernel
theorem dX6_ratio_8 : decode prog_8_method_30_code 8 = .ok (.invokestatic 83, 3) := by decide +kernel
theorem dX6_ratio_11 : decode prog_8_method_30_code 11 = .ok (.ifCond .eq 35, 3) := by decide +kernel
theorem dX6_ratio_14 : decode prog_8_method_30_code 14 = .ok (.iload_n 3, 1) := by decide +kernel
theorem dX6_ratio_15 : decode prog_8_method_30_code 15 = .ok (.invokestatic 83, 3) := by decide +kernel
theorem dX6_ratio_18 : decode prog_8_method_30_code 18 = .ok (.ifCond .eq 28, 3) := by decide +kernel
theorem dX6_ratio_21 : decode prog_8_method_30_code 21 = .ok (.iload 4, 2) := by decide +kernel
theorem dX6_ratio_23 : decode prog_8_method_30_code 23 = .ok (.invokestatic 118, 3) := by decide +kernel
theorem dX6_ratio_26 : decode prog_8_method_30_code 26 = .ok (.ifCond .eq 20, 3) := by decide +kernel
theorem dX6_ratio_29 : decode prog_8_method_30_code 29 = .ok (.iload 5, 2) := by decide +kernel
theorem dX6_ratio_31 : decode prog_8_method_30_code 31 = .ok (.invokestatic 104, 3) := by decide +kernel
theorem dX6_ratio_34 : decode prog_8_method_30_code 34 = .ok (.ifCond .eq 12, 3) := by decide +kernel
theorem dX6_ratio_37 : decode prog_8_method_30_code 37 = .ok (.aload_n 0, 1) := by decide +kernel
theorem dX6_ratio_38 : decode prog_8_method_30_code 38 = .ok (.getfield 14, 3) := by decide +kernel
theorem dX6_ratio_41 : decode prog_8_method_30_code 41 = .ok (.iload_n 3, 1) := by decide +kernel
theorem dX6_ratio_42 : decode prog_8_method_30_code 42 = .ok (.iaload, 1) := by decide +kernel
theorem dX6_ratio_43 : decode prog_8_method_30_code 43 = .ok (.ifCond .ne 5, 3) := by decide +kernel
theorem dX6_ratio_46 : decode prog_8_method_30_code 46 = .ok (.iconst 0, 1) := by decide +kernel
theorem dX6_ratio_47 : decode prog_8_method_30_code 47 = .ok (.ireturn, 1) := by decide +kernel
theorem dX6_ratio_48 : decode prog_8_method_30_code 48 = .ok (.aload_n 0, 1) := by decide +kernel
theorem dX6_ratio_49 : decode prog_8_method_30_code 49 = .ok (.getfield 17, 3) := by decide +kernel
theorem dX6_ratio_52 : decode prog_8_method_30_code 52 = .ok (.iload_n 2, 1) := by decide +kernel
theorem dX6_ratio_53 : decode prog_8_method_30_code 53 = .ok (.iaload, 1) := by decide +kernel
theorem dX6_ratio_54 : decode prog_8_method_30_code 54 = .ok (.aload_n 0, 1) := by decide +kernel
theorem dX6_ratio_55 : decode prog_8_method_30_code 55 = .ok (.getfield 17, 3) := by decide +kernel
theorem dX6_ratio_58 : decode prog_8_method_30_code 58 = .ok (.iload_n 3, 1) := by decide +kernel
theorem dX6_ratio_59 : decode prog_8_method_30_code 59 = .ok (.iaload, 1) := by decide +kernel
theorem dX6_ratio_60 : decode prog_8_method_30_code 60 = .ok (.imul, 1) := by decide +kernel
theorem dX6_ratio_61 : decode prog_8_method_30_code 61 = .ok (.istore 6, 2) := by decide +kernel
theorem dX6_ratio_63 : decode prog_8_method_30_code 63 = .ok (.aload_n 0, 1) := by decide +kernel
theorem dX6_ratio_64 : decode prog_8_method_30_code 64 = .ok (.getfield 20, 3) := by decide +kernel
theorem dX6_ratio_67 : decode prog_8_method_30_code 67 = .ok (.iload_n 2, 1) := by decide +kernel
theorem dX6_ratio_68 : decode prog_8_method_30_code 68 = .ok (.iaload, 1) := by decide +kernel
theorem dX6_ratio_69 : decode prog_8_method_30_code 69 = .ok (.i2l, 1) := by decide +kernel
theorem dX6_ratio_70 : decode prog_8_method_30_code 70 = .ok (.aload_n 0, 1) := by decide +kernel
theorem dX6_ratio_71 : decode prog_8_method_30_code 71 = .ok (.getfield 20, 3) := by decide +kernel
theorem dX6_ratio_74 : decode prog_8_method_30_code 74 = .ok (.iload_n 3, 1) := by decide +kernel
theorem dX6_ratio_75 : decode prog_8_method_30_code 75 = .ok (.iaload, 1) := by decide +kernel
theorem dX6_ratio_76 : decode prog_8_method_30_code 76 = .ok (.i2l, 1) := by decide +kernel
theorem dX6_ratio_77 : decode prog_8_method_30_code 77 = .ok (.lsub, 1) := by decide +kernel
theorem dX6_ratio_78 : decode prog_8_method_30_code 78 = .ok (.lstore 7, 2) := by decide +kernel
theorem dX6_ratio_80 : decode prog_8_method_30_code 80 = .ok (.aload_n 0, 1) := by decide +kernel
theorem dX6_ratio_81 : decode prog_8_method_30_code 81 = .ok (.iconst 0, 1) := by decide +kernel
theorem dX6_ratio_82 : decode prog_8_method_30_code 82 = .ok (.iload_n 2, 1) := by decide +kernel
theorem dX6_ratio_83 : decode prog_8_method_30_code 83 = .ok (.invokevirtual 89, 3) := by decide +kernel
theorem dX6_ratio_86 : decode prog_8_method_30_code 86 = .ok (.aload_n 0, 1) := by decide +kernel
theorem dX6_ratio_87 : decode prog_8_method_30_code 87 = .ok (.iconst 1, 1) := by decide +kernel
theorem dX6_ratio_88 : decode prog_8_method_30_code 88 = .ok (.iload_n 3, 1) := by decide +kernel
theorem dX6_ratio_89 : decode prog_8_method_30_code 89 = .ok (.invokevirtual 89, 3) := by decide +kernel
theorem dX6_ratio_92 : decode prog_8_method_30_code 92 = .ok (.aload_n 0, 1) := by decide +kernel
theorem dX6_ratio_93 : decode prog_8_method_30_code 93 = .ok (.getfield 27, 3) := by decide +kernel
theorem dX6_ratio_96 : decode prog_8_method_30_code 96 = .ok (.iconst 0, 1) := by decide +kernel
theorem dX6_ratio_97 : decode prog_8_method_30_code 97 = .ok (.iaload, 1) := by decide +kernel
theorem dX6_ratio_98 : decode prog_8_method_30_code 98 = .ok (.ifCond .ne 13, 3) := by decide +kernel
theorem dX6_ratio_101 : decode prog_8_method_30_code 101 = .ok (.aload_n 0, 1) := by decide +kernel
theorem dX6_ratio_102 : decode prog_8_method_30_code 102 = .ok (.iload_n 1, 1) := by decide +kernel
theorem dX6_ratio_103 : decode prog_8_method_30_code 103 = .ok (.iconst 0, 1) := by decide +kernel
theorem dX6_ratio_104 : decode prog_8_method_30_code 104 = .ok (.iconst 0, 1) := by decide +kernel
theorem dX6_ratio_105 : decode prog_8_method_30_code 105 = .ok (.lload 7, 2) := by decide +kernel
theorem dX6_ratio_107 : decode prog_8_method_30_code 107 = .ok (.invokevirtual 75, 3) := by decide +kernel
theorem dX6_ratio_110 : decode prog_8_method_30_code 110 = .ok (.ireturn, 1) := by decide +kernel
theorem dX6_ratio_111 : decode prog_8_method_30_code 111 = .ok (.iload 4, 2) := by decide +kernel
theorem dX6_ratio_113 : decode prog_8_method_30_code 113 = .ok (.ifCond .ne 13, 3) := by decide +kernel
theorem dX6_ratio_116 : decode prog_8_method_30_code 116 = .ok (.aload_n 0, 1) := by decide +kernel
theorem dX6_ratio_117 : decode prog_8_method_30_code 117 = .ok (.iload_n 1, 1) := by decide +kernel
theorem dX6_ratio_118 : decode prog_8_method_30_code 118 = .ok (.iload 6, 2) := by decide +kernel
theorem dX6_ratio_120 : decode prog_8_method_30_code 120 = .ok (.lload 7, 2) := by decide +kernel
theorem dX6_ratio_122 : decode prog_8_method_30_code 122 = .ok (.invokevirtual 121, 3) := by decide +kernel
theorem dX6_ratio_125 : decode prog_8_method_30_code 125 = .ok (.ireturn, 1) := by decide +kernel
theorem dX6_ratio_126 : decode prog_8_method_30_code 126 = .ok (.iload 4, 2) := by decide +kernel
theorem dX6_ratio_128 : decode prog_8_method_30_code 128 = .ok (.aload_n 0, 1) := by decide +kernel
theorem dX6_ratio_129 : decode prog_8_method_30_code 129 = .ok (.getfield 14, 3) := by decide +kernel
theorem dX6_ratio_132 : decode prog_8_method_30_code 132 = .ok (.iload_n 3, 1) := by decide +kernel
theorem dX6_ratio_133 : decode prog_8_method_30_code 133 = .ok (.iaload, 1) := by decide +kernel
theorem dX6_ratio_134 : decode prog_8_method_30_code 134 = .ok (.iadd, 1) := by decide +kernel
theorem dX6_ratio_135 : decode prog_8_method_30_code 135 = .ok (.aload_n 0, 1) := by decide +kernel
theorem dX6_ratio_136 : decode prog_8_method_30_code 136 = .ok (.getfield 14, 3) := by decide +kernel
theorem dX6_ratio_139 : decode prog_8_method_30_code 139 = .ok (.iload_n 2, 1) := by decide +kernel
theorem dX6_ratio_140 : decode prog_8_method_30_code 140 = .ok (.iaload, 1) := by decide +kernel
theorem dX6_ratio_141 : decode prog_8_method_30_code 141 = .ok (.isub, 1) := by decide +kernel
theorem dX6_ratio_142 : decode prog_8_method_30_code 142 = .ok (.istore 9, 2) := by decide +kernel
theorem dX6_ratio_144 : decode prog_8_method_30_code 144 = .ok (.iload 9, 2) := by decide +kernel
theorem dX6_ratio_146 : decode prog_8_method_30_code 146 = .ok (.ifCond .lt 13, 3) := by decide +kernel
theorem dX6_ratio_149 : decode prog_8_method_30_code 149 = .ok (.aload_n 0, 1) := by decide +kernel
theorem dX6_ratio_150 : decode prog_8_method_30_code 150 = .ok (.iconst 0, 1) := by decide +kernel
theorem dX6_ratio_151 : decode prog_8_method_30_code 151 = .ok (.iload 9, 2) := by decide +kernel
theorem dX6_ratio_153 : decode prog_8_method_30_code 153 = .ok (.invokevirtual 49, 3) := by decide +kernel
theorem dX6_ratio_156 : decode prog_8_method_30_code 156 = .ok (.goto 11, 3) := by decide +kernel
theorem dX6_ratio_159 : decode prog_8_method_30_code 159 = .ok (.aload_n 0, 1) := by decide +kernel
theorem dX6_ratio_160 : decode prog_8_method_30_code 160 = .ok (.iconst 1, 1) := by decide +kernel
theorem dX6_ratio_161 : decode prog_8_method_30_code 161 = .ok (.iload 9, 2) := by decide +kernel
theorem dX6_ratio_163 : decode prog_8_method_30_code 163 = .ok (.ineg, 1) := by decide +kernel
theorem dX6_ratio_164 : decode prog_8_method_30_code 164 = .ok (.invokevirtual 49, 3) := by decide +kernel
theorem dX6_ratio_167 : decode prog_8_method_30_code 167 = .ok (.aload_n 0, 1) := by decide +kernel
theorem dX6_ratio_168 : decode prog_8_method_30_code 168 = .ok (.invokevirtual 111, 3) := by decide +kernel
theorem dX6_ratio_171 : decode prog_8_method_30_code 171 = .ok (.iload 9, 2) := by decide +kernel
theorem dX6_ratio_173 : decode prog_8_method_30_code 173 = .ok (.i2l, 1) := by decide +kernel
theorem dX6_ratio_174 : decode prog_8_method_30_code 174 = .ok (.lload 7, 2) := by decide +kernel
theorem dX6_ratio_176 : decode prog_8_method_30_code 176 = .ok (.ladd, 1) := by decide +kernel
theorem dX6_ratio_177 : decode prog_8_method_30_code 177 = .ok (.lstore 10, 2) := by decide +kernel
theorem dX6_ratio_179 : decode prog_8_method_30_code 179 = .ok (.aload_n 0, 1) := by decide +kernel
theorem dX6_ratio_180 : decode prog_8_method_30_code 180 = .ok (.getfield 27, 3) := by decide +kernel
theorem dX6_ratio_183 : decode prog_8_method_30_code 183 = .ok (.iconst 2, 1) := by decide +kernel
theorem dX6_ratio_184 : decode prog_8_method_30_code 184 = .ok (.iaload, 1) := by decide +kernel
theorem dX6_ratio_185 : decode prog_8_method_30_code 185 = .ok (.iload 4, 2) := by decide +kernel
theorem dX6_ratio_187 : decode prog_8_method_30_code 187 = .ok (.if_icmp .le 88, 3) := by decide +kernel
theorem dX6_ratio_190 : decode prog_8_method_30_code 190 = .ok (.aload_n 0, 1) := by decide +kernel
theorem dX6_ratio_191 : decode prog_8_method_30_code 191 = .ok (.getfield 24, 3) := by decide +kernel
theorem dX6_ratio_194 : decode prog_8_method_30_code 194 = .ok (.ldc 48, 2) := by decide +kernel
theorem dX6_ratio_196 : decode prog_8_method_30_code 196 = .ok (.iaload, 1) := by decide +kernel
theorem dX6_ratio_197 : decode prog_8_method_30_code 197 = .ok (.istore 12, 2) := by decide +kernel
theorem dX6_ratio_199 : decode prog_8_method_30_code 199 = .ok (.aload_n 0, 1) := by decide +kernel
theorem dX6_ratio_200 : decode prog_8_method_30_code 200 = .ok (.getfield 40, 3) := by decide +kernel
theorem dX6_ratio_203 : decode prog_8_method_30_code 203 = .ok (.ifCond .le 7, 3) := by decide +kernel
theorem dX6_ratio_206 : decode prog_8_method_30_code 206 = .ok (.iconst 1, 1) := by decide +kernel
theorem dX6_ratio_207 : decode prog_8_method_30_code 207 = .ok (.goto 4, 3) := by decide +kernel
theorem dX6_ratio_210 : decode prog_8_method_30_code 210 = .ok (.iconst 0, 1) := by decide +kernel
theorem dX6_ratio_211 : decode prog_8_method_30_code 211 = .ok (.istore 13, 2) := by decide +kernel
theorem dX6_ratio_213 : decode prog_8_method_30_code 213 = .ok (.aload_n 0, 1) := by decide +kernel
theorem dX6_ratio_214 : decode prog_8_method_30_code 214 = .ok (.iconst 2, 1) := by decide +kernel
theorem dX6_ratio_215 : decode prog_8_method_30_code 215 = .ok (.lconst 1, 1) := by decide +kernel
theorem dX6_ratio_216 : decode prog_8_method_30_code 216 = .ok (.invokevirtual 79, 3) := by decide +kernel
theorem dX6_ratio_219 : decode prog_8_method_30_code 219 = .ok (.aload_n 0, 1) := by decide +kernel
theorem dX6_ratio_220 : decode prog_8_method_30_code 220 = .ok (.iload 12, 2) := by decide +kernel
theorem dX6_ratio_222 : decode prog_8_method_30_code 222 = .ok (.iconst 5, 1) := by decide +kernel
theorem dX6_ratio_223 : decode prog_8_method_30_code 223 = .ok (.if_icmp .gt 14, 3) := by decide +kernel
theorem dX6_ratio_226 : decode prog_8_method_30_code 226 = .ok (.iload 12, 2) := by decide +kernel
theorem dX6_ratio_228 : decode prog_8_method_30_code 228 = .ok (.iconst 5, 1) := by decide +kernel
theorem dX6_ratio_229 : decode prog_8_method_30_code 229 = .ok (.if_icmp .ne 12, 3) := by decide +kernel
theorem dX6_ratio_232 : decode prog_8_method_30_code 232 = .ok (.iload 13, 2) := by decide +kernel
theorem dX6_ratio_234 : decode prog_8_method_30_code 234 = .ok (.ifCond .eq 7, 3) := by decide +kernel
theorem dX6_ratio_237 : decode prog_8_method_30_code 237 = .ok (.iconst 3, 1) := by decide +kernel
theorem dX6_ratio_238 : decode prog_8_method_30_code 238 = .ok (.goto 28, 3) := by decide +kernel
theorem dX6_ratio_241 : decode prog_8_method_30_code 241 = .ok (.iload 12, 2) := by decide +kernel
theorem dX6_ratio_243 : decode prog_8_method_30_code 243 = .ok (.iconst 5, 1) := by decide +kernel
theorem dX6_ratio_244 : decode prog_8_method_30_code 244 = .ok (.if_icmp .ne 7, 3) := by decide +kernel
theorem dX6_ratio_247 : decode prog_8_method_30_code 247 = .ok (.iconst 2, 1) := by decide +kernel
theorem dX6_ratio_248 : decode prog_8_method_30_code 248 = .ok (.goto 18, 3) := by decide +kernel
theorem dX6_ratio_251 : decode prog_8_method_30_code 251 = .ok (.iload 12, 2) := by decide +kernel
theorem dX6_ratio_253 : decode prog_8_method_30_code 253 = .ok (.ifCond .gt 8, 3) := by decide +kernel
theorem dX6_ratio_256 : decode prog_8_method_30_code 256 = .ok (.iload 13, 2) := by decide +kernel
theorem dX6_ratio_258 : decode prog_8_method_30_code 258 = .ok (.ifCond .eq 7, 3) := by decide +kernel
theorem dX6_ratio_261 : decode prog_8_method_30_code 261 = .ok (.iconst 1, 1) := by decide +kernel
theorem dX6_ratio_262 : decode prog_8_method_30_code 262 = .ok (.goto 4, 3) := by decide +kernel
theorem dX6_ratio_265 : decode prog_8_method_30_code 265 = .ok (.iconst 0, 1) := by decide +kernel
theorem dX6_ratio_266 : decode prog_8_method_30_code 266 = .ok (.putfield 40, 3) := by decide +kernel
theorem dX6_ratio_269 : decode prog_8_method_30_code 269 = .ok (.lload 10, 2) := by decide +kernel
theorem dX6_ratio_271 : decode prog_8_method_30_code 271 = .ok (.lconst 1, 1) := by decide +kernel
theorem dX6_ratio_272 : decode prog_8_method_30_code 272 = .ok (.lsub, 1) := by decide +kernel
theorem dX6_ratio_273 : decode prog_8_method_30_code 273 = .ok (.lstore 10, 2) := by decide +kernel
theorem dX6_ratio_275 : decode prog_8_method_30_code 275 = .ok (.aload_n 0, 1) := by decide +kernel
theorem dX6_ratio_276 : decode prog_8_method_30_code 276 = .ok (.getfield 40, 3) := by decide +kernel
theorem dX6_ratio_279 : decode prog_8_method_30_code 279 = .ok (.ifCond .le 18, 3) := by decide +kernel
theorem dX6_ratio_282 : decode prog_8_method_30_code 282 = .ok (.aload_n 0, 1) := by decide +kernel
theorem dX6_ratio_283 : decode prog_8_method_30_code 283 = .ok (.iload_n 1, 1) := by decide +kernel
theorem dX6_ratio_284 : decode prog_8_method_30_code 284 = .ok (.iconst 2, 1) := by decide +kernel
theorem dX6_ratio_285 : decode prog_8_method_30_code 285 = .ok (.iload 6, 2) := by decide +kernel
theorem dX6_ratio_287 : decode prog_8_method_30_code 287 = .ok (.lload 10, 2) := by decide +kernel
theorem dX6_ratio_289 : decode prog_8_method_30_code 289 = .ok (.iload 5, 2) := by decide +kernel
theorem dX6_ratio_291 : decode prog_8_method_30_code 291 = .ok (.iload 4, 2) := by decide +kernel
theorem dX6_ratio_293 : decode prog_8_method_30_code 293 = .ok (.invokevirtual 125, 3) := by decide +kernel
theorem dX6_ratio_296 : decode prog_8_method_30_code 296 = .ok (.ireturn, 1) := by decide +kernel
theorem dX6_ratio_297 : decode prog_8_method_30_code 297 = .ok (.aload_n 0, 1) := by decide +kernel
theorem dX6_ratio_298 : decode prog_8_method_30_code 298 = .ok (.iload_n 1, 1) := by decide +kernel
theorem dX6_ratio_299 : decode prog_8_method_30_code 299 = .ok (.iload 6, 2) := by decide +kernel
theorem dX6_ratio_301 : decode prog_8_method_30_code 301 = .ok (.lload 10, 2) := by decide +kernel
theorem dX6_ratio_303 : decode prog_8_method_30_code 303 = .ok (.lload 7, 2) := by decide +kernel
theorem dX6_ratio_305 : decode prog_8_method_30_code 305 = .ok (.iload 4, 2) := by decide +kernel
theorem dX6_ratio_307 : decode prog_8_method_30_code 307 = .ok (.invokevirtual 129, 3) := by decide +kernel
theorem dX6_ratio_310 : decode prog_8_method_30_code 310 = .ok (.ireturn, 1) := by decide +kernel
theorem dX6_settle_0 : decode prog_8_method_31_code 0 = .ok (.aload_n 0, 1) := by decide +kernel
theorem dX6_settle_1 : decode prog_8_method_31_code 1 = .ok (.iconst 2, 1) := by decide +kernel
theorem dX6_settle_2 : decode prog_8_method_31_code 2 = .ok (.invokevirtual 133, 3) := by decide +kernel
theorem dX6_settle_5 : decode prog_8_method_31_code 5 = .ok (.istore 8, 2) := by decide +kernel
theorem dX6_settle_7 : decode prog_8_method_31_code 7 = .ok (.aload_n 0, 1) := by decide +kernel
theorem dX6_settle_8 : decode prog_8_method_31_code 8 = .ok (.iconst 2, 1) := by decide +kernel
theorem dX6_settle_9 : decode prog_8_method_31_code 9 = .ok (.iload 8, 2) := by decide +kernel
theorem dX6_settle_11 : decode prog_8_method_31_code 11 = .ok (.i2l, 1) := by decide +kernel
theorem dX6_settle_12 : decode prog_8_method_31_code 12 = .ok (.invokevirtual 79, 3) := by decide +kernel
theorem dX6_settle_15 : decode prog_8_method_31_code 15 = .ok (.lload_n 3, 1) := by decide +kernel
theorem dX6_settle_16 : decode prog_8_method_31_code 16 = .ok (.iload 8, 2) := by decide +kernel
theorem dX6_settle_18 : decode prog_8_method_31_code 18 = .ok (.i2l, 1) := by decide +kernel
theorem dX6_settle_19 : decode prog_8_method_31_code 19 = .ok (.lsub, 1) := by decide +kernel
theorem dX6_settle_20 : decode prog_8_method_31_code 20 = .ok (.lstore 9, 2) := by decide +kernel
theorem dX6_settle_22 : decode prog_8_method_31_code 22 = .ok (.lload 5, 2) := by decide +kernel
theorem dX6_settle_24 : decode prog_8_method_31_code 24 = .ok (.lload 9, 2) := by decide +kernel
theorem dX6_settle_26 : decode prog_8_method_31_code 26 = .ok (.lcmp, 1) := by decide +kernel
theorem dX6_settle_27 : decode prog_8_method_31_code 27 = .ok (.ifCond .le 8, 3) := by decide +kernel
theorem dX6_settle_30 : decode prog_8_method_31_code 30 = .ok (.lload 5, 2) := by decide +kernel
theorem dX6_settle_32 : decode prog_8_method_31_code 32 = .ok (.goto 5, 3) := by decide +kernel
theorem dX6_settle_35 : decode prog_8_method_31_code 35 = .ok (.lload 9, 2) := by decide +kernel
theorem dX6_settle_37 : decode prog_8_method_31_code 37 = .ok (.lstore 11, 2) := by decide +kernel
theorem dX6_settle_39 : decode prog_8_method_31_code 39 = .ok (.lload 11, 2) := by decide +kernel
theorem dX6_settle_41 : decode prog_8_method_31_code 41 = .ok (.lload 9, 2) := by decide +kernel
theorem dX6_settle_43 : decode prog_8_method_31_code 43 = .ok (.iload 7, 2) := by decide +kernel
theorem dX6_settle_45 : decode prog_8_method_31_code 45 = .ok (.i2l, 1) := by decide +kernel
theorem dX6_settle_46 : decode prog_8_method_31_code 46 = .ok (.ladd, 1) := by decide +kernel
theorem dX6_settle_47 : decode prog_8_method_31_code 47 = .ok (.aload_n 0, 1) := by decide +kernel
theorem dX6_settle_48 : decode prog_8_method_31_code 48 = .ok (.getfield 27, 3) := by decide +kernel
theorem dX6_settle_51 : decode prog_8_method_31_code 51 = .ok (.iconst 2, 1) := by decide +kernel
theorem dX6_settle_52 : decode prog_8_method_31_code 52 = .ok (.iaload, 1) := by decide +kernel
theorem dX6_settle_53 : decode prog_8_method_31_code 53 = .ok (.i2l, 1) := by decide +kernel
theorem dX6_settle_54 : decode prog_8_method_31_code 54 = .ok (.lsub, 1) := by decide +kernel
theorem dX6_settle_55 : decode prog_8_method_31_code 55 = .ok (.lcmp, 1) := by decide +kernel
theorem dX6_settle_56 : decode prog_8_method_31_code 56 = .ok (.ifCond .le 20, 3) := by decide +kernel
theorem dX6_settle_59 : decode prog_8_method_31_code 59 = .ok (.lload 9, 2) := by decide +kernel
theorem dX6_settle_61 : decode prog_8_method_31_code 61 = .ok (.iload 7, 2) := by decide +kernel
theorem dX6_settle_63 : decode prog_8_method_31_code 63 = .ok (.i2l, 1) := by decide +kernel
theorem dX6_settle_64 : decode prog_8_method_31_code 64 = .ok (.ladd, 1) := by decide +kernel
theorem dX6_settle_65 : decode prog_8_method_31_code 65 = .ok (.aload_n 0, 1) := by decide +kernel
theorem dX6_settle_66 : decode prog_8_method_31_code 66 = .ok (.getfield 27, 3) := by decide +kernel
theorem dX6_settle_69 : decode prog_8_method_31_code 69 = .ok (.iconst 2, 1) := by decide +kernel
theorem dX6_settle_70 : decode prog_8_method_31_code 70 = .ok (.iaload, 1) := by decide +kernel
theorem dX6_settle_71 : decode prog_8_method_31_code 71 = .ok (.i2l, 1) := by decide +kernel
theorem dX6_settle_72 : decode prog_8_method_31_code 72 = .ok (.lsub, 1) := by decide +kernel
theorem dX6_settle_73 : decode prog_8_method_31_code 73 = .ok (.goto 5, 3) := by decide +kernel
theorem dX6_settle_76 : decode prog_8_method_31_code 76 = .ok (.lload 11, 2) := by decide +kernel
theorem dX6_settle_78 : decode prog_8_method_31_code 78 = .ok (.lstore 11, 2) := by decide +kernel
theorem dX6_settle_80 : decode prog_8_method_31_code 80 = .ok (.aload_n 0, 1) := by decide +kernel
theorem dX6_settle_81 : decode prog_8_method_31_code 81 = .ok (.iconst 2, 1) := by decide +kernel
theorem dX6_settle_82 : decode prog_8_method_31_code 82 = .ok (.lload 11, 2) := by decide +kernel
theorem dX6_settle_84 : decode prog_8_method_31_code 84 = .ok (.lload 9, 2) := by decide +kernel
theorem dX6_settle_86 : decode prog_8_method_31_code 86 = .ok (.lsub, 1) := by decide +kernel
theorem dX6_settle_87 : decode prog_8_method_31_code 87 = .ok (.l2i, 1) := by decide +kernel
theorem dX6_settle_88 : decode prog_8_method_31_code 88 = .ok (.invokevirtual 49, 3) := by decide +kernel
theorem dX6_settle_91 : decode prog_8_method_31_code 91 = .ok (.aload_n 0, 1) := by decide +kernel
theorem dX6_settle_92 : decode prog_8_method_31_code 92 = .ok (.iload_n 1, 1) := by decide +kernel
theorem dX6_settle_93 : decode prog_8_method_31_code 93 = .ok (.iconst 2, 1) := by decide +kernel
theorem dX6_settle_94 : decode prog_8_method_31_code 94 = .ok (.iload_n 2, 1) := by decide +kernel
theorem dX6_settle_95 : decode prog_8_method_31_code 95 = .ok (.lload 11, 2) := by decide +kernel
theorem dX6_settle_97 : decode prog_8_method_31_code 97 = .ok (.invokevirtual 75, 3) := by decide +kernel
theorem dX6_settle_100 : decode prog_8_method_31_code 100 = .ok (.ireturn, 1) := by decide +kernel
theorem dX6_exact_0 : decode prog_8_method_32_code 0 = .ok (.aload_n 0, 1) := by decide +kernel
theorem dX6_exact_1 : decode prog_8_method_32_code 1 = .ok (.invokevirtual 111, 3) := by decide +kernel
theorem dX6_exact_4 : decode prog_8_method_32_code 4 = .ok (.iconst 0, 1) := by decide +kernel
theorem dX6_exact_5 : decode prog_8_method_32_code 5 = .ok (.istore 5, 2) := by decide +kernel
theorem dX6_exact_7 : decode prog_8_method_32_code 7 = .ok (.aload_n 0, 1) := by decide +kernel
theorem dX6_exact_8 : decode prog_8_method_32_code 8 = .ok (.getfield 27, 3) := by decide +kernel
theorem dX6_exact_11 : decode prog_8_method_32_code 11 = .ok (.iconst 3, 1) := by decide +kernel
theorem dX6_exact_12 : decode prog_8_method_32_code 12 = .ok (.iaload, 1) := by decide +kernel
theorem dX6_exact_13 : decode prog_8_method_32_code 13 = .ok (.ifCond .le 81, 3) := by decide +kernel
theorem dX6_exact_16 : decode prog_8_method_32_code 16 = .ok (.iload 5, 2) := by decide +kernel
theorem dX6_exact_18 : decode prog_8_method_32_code 18 = .ok (.sipush 8200, 3) := by decide +kernel
theorem dX6_exact_21 : decode prog_8_method_32_code 21 = .ok (.if_icmp .ge 73, 3) := by decide +kernel
theorem dX6_exact_24 : decode prog_8_method_32_code 24 = .ok (.aload_n 0, 1) := by decide +kernel
theorem dX6_exact_25 : decode prog_8_method_32_code 25 = .ok (.getfield 27, 3) := by decide +kernel
theorem dX6_exact_28 : decode prog_8_method_32_code 28 = .ok (.iconst 2, 1) := by decide +kernel
theorem dX6_exact_29 : decode prog_8_method_32_code 29 = .ok (.iaload, 1) := by decide +kernel
theorem dX6_exact_30 : decode prog_8_method_32_code 30 = .ok (.sipush 4096, 3) := by decide +kernel
theorem dX6_exact_33 : decode prog_8_method_32_code 33 = .ok (.if_icmp .gt 61, 3) := by decide +kernel
theorem dX6_exact_36 : decode prog_8_method_32_code 36 = .ok (.aload_n 0, 1) := by decide +kernel
theorem dX6_exact_37 : decode prog_8_method_32_code 37 = .ok (.iconst 0, 1) := by decide +kernel
theorem dX6_exact_38 : decode prog_8_method_32_code 38 = .ok (.invokevirtual 60, 3) := by decide +kernel
theorem dX6_exact_41 : decode prog_8_method_32_code 41 = .ok (.istore 6, 2) := by decide +kernel
theorem dX6_exact_43 : decode prog_8_method_32_code 43 = .ok (.aload_n 0, 1) := by decide +kernel
theorem dX6_exact_44 : decode prog_8_method_32_code 44 = .ok (.iconst 2, 1) := by decide +kernel
theorem dX6_exact_45 : decode prog_8_method_32_code 45 = .ok (.iconst 1, 1) := by decide +kernel
theorem dX6_exact_46 : decode prog_8_method_32_code 46 = .ok (.invokevirtual 49, 3) := by decide +kernel
theorem dX6_exact_49 : decode prog_8_method_32_code 49 = .ok (.aload_n 0, 1) := by decide +kernel
theorem dX6_exact_50 : decode prog_8_method_32_code 50 = .ok (.getfield 27, 3) := by decide +kernel
theorem dX6_exact_53 : decode prog_8_method_32_code 53 = .ok (.iconst 2, 1) := by decide +kernel
theorem dX6_exact_54 : decode prog_8_method_32_code 54 = .ok (.iaload, 1) := by decide +kernel
theorem dX6_exact_55 : decode prog_8_method_32_code 55 = .ok (.ifCond .ne 15, 3) := by decide +kernel
theorem dX6_exact_58 : decode prog_8_method_32_code 58 = .ok (.iload 6, 2) := by decide +kernel
theorem dX6_exact_60 : decode prog_8_method_32_code 60 = .ok (.ifCond .le 10, 3) := by decide +kernel
theorem dX6_exact_63 : decode prog_8_method_32_code 63 = .ok (.aload_n 0, 1) := by decide +kernel
theorem dX6_exact_64 : decode prog_8_method_32_code 64 = .ok (.getfield 27, 3) := by decide +kernel
theorem dX6_exact_67 : decode prog_8_method_32_code 67 = .ok (.iconst 2, 1) := by decide +kernel
theorem dX6_exact_68 : decode prog_8_method_32_code 68 = .ok (.iconst 1, 1) := by decide +kernel
theorem dX6_exact_69 : decode prog_8_method_32_code 69 = .ok (.iastore, 1) := by decide +kernel
theorem dX6_exact_70 : decode prog_8_method_32_code 70 = .ok (.aload_n 0, 1) := by decide +kernel
theorem dX6_exact_71 : decode prog_8_method_32_code 71 = .ok (.getfield 27, 3) := by decide +kernel
theorem dX6_exact_74 : decode prog_8_method_32_code 74 = .ok (.iconst 2, 1) := by decide +kernel
theorem dX6_exact_75 : decode prog_8_method_32_code 75 = .ok (.iaload, 1) := by decide +kernel
theorem dX6_exact_76 : decode prog_8_method_32_code 76 = .ok (.ifCond .le 12, 3) := by decide +kernel
theorem dX6_exact_79 : decode prog_8_method_32_code 79 = .ok (.aload_n 0, 1) := by decide +kernel
theorem dX6_exact_80 : decode prog_8_method_32_code 80 = .ok (.getfield 24, 3) := by decide +kernel
theorem dX6_exact_83 : decode prog_8_method_32_code 83 = .ok (.ldc 48, 2) := by decide +kernel
theorem dX6_exact_85 : decode prog_8_method_32_code 85 = .ok (.iload 6, 2) := by decide +kernel
theorem dX6_exact_87 : decode prog_8_method_32_code 87 = .ok (.iastore, 1) := by decide +kernel
theorem dX6_exact_88 : decode prog_8_method_32_code 88 = .ok (.iinc 5 1, 3) := by decide +kernel
theorem dX6_exact_91 : decode prog_8_method_32_code 91 = .ok (.goto (-84), 3) := by decide +kernel
theorem dX6_exact_94 : decode prog_8_method_32_code 94 = .ok (.aload_n 0, 1) := by decide +kernel
theorem dX6_exact_95 : decode prog_8_method_32_code 95 = .ok (.getfield 27, 3) := by decide +kernel
theorem dX6_exact_98 : decode prog_8_method_32_code 98 = .ok (.iconst 3, 1) := by decide +kernel
theorem dX6_exact_99 : decode prog_8_method_32_code 99 = .ok (.iaload, 1) := by decide +kernel
theorem dX6_exact_100 : decode prog_8_method_32_code 100 = .ok (.ifCond .ne 22, 3) := by decide +kernel
theorem dX6_exact_103 : decode prog_8_method_32_code 103 = .ok (.aload_n 0, 1) := by decide +kernel
theorem dX6_exact_104 : decode prog_8_method_32_code 104 = .ok (.iload_n 1, 1) := by decide +kernel
theorem dX6_exact_105 : decode prog_8_method_32_code 105 = .ok (.iconst 2, 1) := by decide +kernel
theorem dX6_exact_106 : decode prog_8_method_32_code 106 = .ok (.iload_n 2, 1) := by decide +kernel
theorem dX6_exact_107 : decode prog_8_method_32_code 107 = .ok (.lload_n 3, 1) := by decide +kernel
theorem dX6_exact_108 : decode prog_8_method_32_code 108 = .ok (.iload 5, 2) := by decide +kernel
theorem dX6_exact_110 : decode prog_8_method_32_code 110 = .ok (.i2l, 1) := by decide +kernel
theorem dX6_exact_111 : decode prog_8_method_32_code 111 = .ok (.ladd, 1) := by decide +kernel
theorem dX6_exact_112 : decode prog_8_method_32_code 112 = .ok (.invokevirtual 75, 3) := by decide +kernel
theorem dX6_exact_115 : decode prog_8_method_32_code 115 = .ok (.ifCond .eq 7, 3) := by decide +kernel
theorem dX6_exact_118 : decode prog_8_method_32_code 118 = .ok (.iconst 1, 1) := by decide +kernel
theorem dX6_exact_119 : decode prog_8_method_32_code 119 = .ok (.goto 4, 3) := by decide +kernel
theorem dX6_exact_122 : decode prog_8_method_32_code 122 = .ok (.iconst 0, 1) := by decide +kernel
theorem dX6_exact_123 : decode prog_8_method_32_code 123 = .ok (.ireturn, 1) := by decide +kernel
theorem dX6_whole_0 : decode prog_8_method_33_code 0 = .ok (.iload_n 1, 1) := by decide +kernel
theorem dX6_whole_1 : decode prog_8_method_33_code 1 = .ok (.invokestatic 83, 3) := by decide +kernel
theorem dX6_whole_4 : decode prog_8_method_33_code 4 = .ok (.ifCond .eq 40, 3) := by decide +kernel
theorem dX6_whole_7 : decode prog_8_method_33_code 7 = .ok (.iload_n 2, 1) := by decide +kernel
theorem dX6_whole_8 : decode prog_8_method_33_code 8 = .ok (.invokestatic 83, 3) := by decide +kernel
theorem dX6_whole_11 : decode prog_8_method_33_code 11 = .ok (.ifCond .eq 33, 3) := by decide +kernel
theorem dX6_whole_14 : decode prog_8_method_33_code 14 = .ok (.iload_n 3, 1) := by decide +kernel
theorem dX6_whole_15 : decode prog_8_method_33_code 15 = .ok (.invokestatic 83, 3) := by decide +kernel
theorem dX6_whole_18 : decode prog_8_method_33_code 18 = .ok (.ifCond .eq 26, 3) := by decide +kernel
theorem dX6_whole_21 : decode prog_8_method_33_code 21 = .ok (.iload 4, 2) := by decide +kernel
theorem dX6_whole_23 : decode prog_8_method_33_code 23 = .ok (.invokestatic 83, 3) := by decide +kernel
theorem dX6_whole_26 : decode prog_8_method_33_code 26 = .ok (.ifCond .eq 18, 3) := by decide +kernel
theorem dX6_whole_29 : decode prog_8_method_33_code 29 = .ok (.iload_n 1, 1) := by decide +kernel
theorem dX6_whole_30 : decode prog_8_method_33_code 30 = .ok (.iload_n 2, 1) := by decide +kernel
theorem dX6_whole_31 : decode prog_8_method_33_code 31 = .ok (.if_icmp .eq 13, 3) := by decide +kernel
theorem dX6_whole_34 : decode prog_8_method_33_code 34 = .ok (.aload_n 0, 1) := by decide +kernel
theorem dX6_whole_35 : decode prog_8_method_33_code 35 = .ok (.getfield 14, 3) := by decide +kernel
theorem dX6_whole_38 : decode prog_8_method_33_code 38 = .ok (.iload 4, 2) := by decide +kernel
theorem dX6_whole_40 : decode prog_8_method_33_code 40 = .ok (.iaload, 1) := by decide +kernel
theorem dX6_whole_41 : decode prog_8_method_33_code 41 = .ok (.ifCond .ne 5, 3) := by decide +kernel
theorem dX6_whole_44 : decode prog_8_method_33_code 44 = .ok (.iconst 0, 1) := by decide +kernel
theorem dX6_whole_45 : decode prog_8_method_33_code 45 = .ok (.ireturn, 1) := by decide +kernel
theorem dX6_whole_46 : decode prog_8_method_33_code 46 = .ok (.aload_n 0, 1) := by decide +kernel
theorem dX6_whole_47 : decode prog_8_method_33_code 47 = .ok (.getfield 17, 3) := by decide +kernel
theorem dX6_whole_50 : decode prog_8_method_33_code 50 = .ok (.iload_n 3, 1) := by decide +kernel
theorem dX6_whole_51 : decode prog_8_method_33_code 51 = .ok (.iaload, 1) := by decide +kernel
theorem dX6_whole_52 : decode prog_8_method_33_code 52 = .ok (.aload_n 0, 1) := by decide +kernel
theorem dX6_whole_53 : decode prog_8_method_33_code 53 = .ok (.getfield 17, 3) := by decide +kernel
theorem dX6_whole_56 : decode prog_8_method_33_code 56 = .ok (.iload 4, 2) := by decide +kernel
theorem dX6_whole_58 : decode prog_8_method_33_code 58 = .ok (.iaload, 1) := by decide +kernel
theorem dX6_whole_59 : decode prog_8_method_33_code 59 = .ok (.imul, 1) := by decide +kernel
theorem dX6_whole_60 : decode prog_8_method_33_code 60 = .ok (.istore 5, 2) := by decide +kernel
theorem dX6_whole_62 : decode prog_8_method_33_code 62 = .ok (.aload_n 0, 1) := by decide +kernel
theorem dX6_whole_63 : decode prog_8_method_33_code 63 = .ok (.getfield 17, 3) := by decide +kernel
theorem dX6_whole_66 : decode prog_8_method_33_code 66 = .ok (.iload_n 3, 1) := by decide +kernel
theorem dX6_whole_67 : decode prog_8_method_33_code 67 = .ok (.iaload, 1) := by decide +kernel
theorem dX6_whole_68 : decode prog_8_method_33_code 68 = .ok (.istore 6, 2) := by decide +kernel
theorem dX6_whole_70 : decode prog_8_method_33_code 70 = .ok (.aload_n 0, 1) := by decide +kernel
theorem dX6_whole_71 : decode prog_8_method_33_code 71 = .ok (.getfield 20, 3) := by decide +kernel
theorem dX6_whole_74 : decode prog_8_method_33_code 74 = .ok (.iload_n 3, 1) := by decide +kernel
theorem dX6_whole_75 : decode prog_8_method_33_code 75 = .ok (.iaload, 1) := by decide +kernel
theorem dX6_whole_76 : decode prog_8_method_33_code 76 = .ok (.i2l, 1) := by decide +kernel
theorem dX6_whole_77 : decode prog_8_method_33_code 77 = .ok (.aload_n 0, 1) := by decide +kernel
theorem dX6_whole_78 : decode prog_8_method_33_code 78 = .ok (.getfield 20, 3) := by decide +kernel
theorem dX6_whole_81 : decode prog_8_method_33_code 81 = .ok (.iload 4, 2) := by decide +kernel
theorem dX6_whole_83 : decode prog_8_method_33_code 83 = .ok (.iaload, 1) := by decide +kernel
theorem dX6_whole_84 : decode prog_8_method_33_code 84 = .ok (.i2l, 1) := by decide +kernel
theorem dX6_whole_85 : decode prog_8_method_33_code 85 = .ok (.lsub, 1) := by decide +kernel
theorem dX6_whole_86 : decode prog_8_method_33_code 86 = .ok (.lstore 7, 2) := by decide +kernel
theorem dX6_whole_88 : decode prog_8_method_33_code 88 = .ok (.aload_n 0, 1) := by decide +kernel
theorem dX6_whole_89 : decode prog_8_method_33_code 89 = .ok (.iconst 0, 1) := by decide +kernel
theorem dX6_whole_90 : decode prog_8_method_33_code 90 = .ok (.iload_n 3, 1) := by decide +kernel
theorem dX6_whole_91 : decode prog_8_method_33_code 91 = .ok (.invokevirtual 89, 3) := by decide +kernel
theorem dX6_whole_94 : decode prog_8_method_33_code 94 = .ok (.aload_n 0, 1) := by decide +kernel
theorem dX6_whole_95 : decode prog_8_method_33_code 95 = .ok (.iconst 1, 1) := by decide +kernel
theorem dX6_whole_96 : decode prog_8_method_33_code 96 = .ok (.iload 4, 2) := by decide +kernel
theorem dX6_whole_98 : decode prog_8_method_33_code 98 = .ok (.invokevirtual 89, 3) := by decide +kernel
theorem dX6_whole_101 : decode prog_8_method_33_code 101 = .ok (.lload 7, 2) := by decide +kernel
theorem dX6_whole_103 : decode prog_8_method_33_code 103 = .ok (.lstore 9, 2) := by decide +kernel
theorem dX6_whole_105 : decode prog_8_method_33_code 105 = .ok (.iconst 0, 1) := by decide +kernel
theorem dX6_whole_106 : decode prog_8_method_33_code 106 = .ok (.istore 11, 2) := by decide +kernel
theorem dX6_whole_108 : decode prog_8_method_33_code 108 = .ok (.lload 7, 2) := by decide +kernel
theorem dX6_whole_110 : decode prog_8_method_33_code 110 = .ok (.lconst 0, 1) := by decide +kernel
theorem dX6_whole_111 : decode prog_8_method_33_code 111 = .ok (.lcmp, 1) := by decide +kernel
theorem dX6_whole_112 : decode prog_8_method_33_code 112 = .ok (.ifCond .le 84, 3) := by decide +kernel
theorem dX6_whole_115 : decode prog_8_method_33_code 115 = .ok (.aload_n 0, 1) := by decide +kernel
theorem dX6_whole_116 : decode prog_8_method_33_code 116 = .ok (.getfield 14, 3) := by decide +kernel
theorem dX6_whole_119 : decode prog_8_method_33_code 119 = .ok (.iload_n 3, 1) := by decide +kernel
theorem dX6_whole_120 : decode prog_8_method_33_code 120 = .ok (.iaload, 1) := by decide +kernel
theorem dX6_whole_121 : decode prog_8_method_33_code 121 = .ok (.i2l, 1) := by decide +kernel
theorem dX6_whole_122 : decode prog_8_method_33_code 122 = .ok (.aload_n 0, 1) := by decide +kernel
theorem dX6_whole_123 : decode prog_8_method_33_code 123 = .ok (.getfield 14, 3) := by decide +kernel
theorem dX6_whole_126 : decode prog_8_method_33_code 126 = .ok (.iload 4, 2) := by decide +kernel
theorem dX6_whole_128 : decode prog_8_method_33_code 128 = .ok (.iaload, 1) := by decide +kernel
theorem dX6_whole_129 : decode prog_8_method_33_code 129 = .ok (.i2l, 1) := by decide +kernel
theorem dX6_whole_130 : decode prog_8_method_33_code 130 = .ok (.lload 7, 2) := by decide +kernel
theorem dX6_whole_132 : decode prog_8_method_33_code 132 = .ok (.ladd, 1) := by decide +kernel
theorem dX6_whole_133 : decode prog_8_method_33_code 133 = .ok (.lcmp, 1) := by decide +kernel
theorem dX6_whole_134 : decode prog_8_method_33_code 134 = .ok (.ifCond .ge 13, 3) := by decide +kernel
theorem dX6_whole_137 : decode prog_8_method_33_code 137 = .ok (.aload_n 0, 1) := by decide +kernel
theorem dX6_whole_138 : decode prog_8_method_33_code 138 = .ok (.getfield 27, 3) := by decide +kernel
theorem dX6_whole_141 : decode prog_8_method_33_code 141 = .ok (.iconst 2, 1) := by decide +kernel
theorem dX6_whole_142 : decode prog_8_method_33_code 142 = .ok (.iconst 0, 1) := by decide +kernel
theorem dX6_whole_143 : decode prog_8_method_33_code 143 = .ok (.iastore, 1) := by decide +kernel
theorem dX6_whole_144 : decode prog_8_method_33_code 144 = .ok (.goto 220, 3) := by decide +kernel
theorem dX6_whole_147 : decode prog_8_method_33_code 147 = .ok (.aload_n 0, 1) := by decide +kernel
theorem dX6_whole_148 : decode prog_8_method_33_code 148 = .ok (.iconst 1, 1) := by decide +kernel
theorem dX6_whole_149 : decode prog_8_method_33_code 149 = .ok (.lload 7, 2) := by decide +kernel
theorem dX6_whole_151 : decode prog_8_method_33_code 151 = .ok (.l2i, 1) := by decide +kernel
theorem dX6_whole_152 : decode prog_8_method_33_code 152 = .ok (.invokevirtual 49, 3) := by decide +kernel
theorem dX6_whole_155 : decode prog_8_method_33_code 155 = .ok (.aload_n 0, 1) := by decide +kernel
theorem dX6_whole_156 : decode prog_8_method_33_code 156 = .ok (.invokevirtual 111, 3) := by decide +kernel
theorem dX6_whole_159 : decode prog_8_method_33_code 159 = .ok (.aload_n 0, 1) := by decide +kernel
theorem dX6_whole_160 : decode prog_8_method_33_code 160 = .ok (.iconst 1, 1) := by decide +kernel
theorem dX6_whole_161 : decode prog_8_method_33_code 161 = .ok (.iload 4, 2) := by decide +kernel
theorem dX6_whole_163 : decode prog_8_method_33_code 163 = .ok (.invokevirtual 89, 3) := by decide +kernel
theorem dX6_whole_166 : decode prog_8_method_33_code 166 = .ok (.aload_n 0, 1) := by decide +kernel
theorem dX6_whole_167 : decode prog_8_method_33_code 167 = .ok (.getfield 27, 3) := by decide +kernel
theorem dX6_whole_170 : decode prog_8_method_33_code 170 = .ok (.iconst 2, 1) := by decide +kernel
theorem dX6_whole_171 : decode prog_8_method_33_code 171 = .ok (.iaload, 1) := by decide +kernel
theorem dX6_whole_172 : decode prog_8_method_33_code 172 = .ok (.i2l, 1) := by decide +kernel
theorem dX6_whole_173 : decode prog_8_method_33_code 173 = .ok (.lload 7, 2) := by decide +kernel
theorem dX6_whole_175 : decode prog_8_method_33_code 175 = .ok (.ladd, 1) := by decide +kernel
theorem dX6_whole_176 : decode prog_8_method_33_code 176 = .ok (.ldc2_w 107, 3) := by decide +kernel
theorem dX6_whole_179 : decode prog_8_method_33_code 179 = .ok (.lcmp, 1) := by decide +kernel
theorem dX6_whole_180 : decode prog_8_method_33_code 180 = .ok (.ifCond .le 5, 3) := by decide +kernel
theorem dX6_whole_183 : decode prog_8_method_33_code 183 = .ok (.iconst 0, 1) := by decide +kernel
theorem dX6_whole_184 : decode prog_8_method_33_code 184 = .ok (.ireturn, 1) := by decide +kernel
theorem dX6_whole_185 : decode prog_8_method_33_code 185 = .ok (.aload_n 0, 1) := by decide +kernel
theorem dX6_whole_186 : decode prog_8_method_33_code 186 = .ok (.iconst 2, 1) := by decide +kernel
theorem dX6_whole_187 : decode prog_8_method_33_code 187 = .ok (.lload 7, 2) := by decide +kernel
theorem dX6_whole_189 : decode prog_8_method_33_code 189 = .ok (.l2i, 1) := by decide +kernel
theorem dX6_whole_190 : decode prog_8_method_33_code 190 = .ok (.invokevirtual 49, 3) := by decide +kernel
theorem dX6_whole_193 : decode prog_8_method_33_code 193 = .ok (.goto 171, 3) := by decide +kernel
theorem dX6_whole_196 : decode prog_8_method_33_code 196 = .ok (.aload_n 0, 1) := by decide +kernel
theorem dX6_whole_197 : decode prog_8_method_33_code 197 = .ok (.invokevirtual 111, 3) := by decide +kernel
theorem dX6_whole_200 : decode prog_8_method_33_code 200 = .ok (.iconst 0, 1) := by decide +kernel
theorem dX6_whole_201 : decode prog_8_method_33_code 201 = .ok (.istore 12, 2) := by decide +kernel
theorem dX6_whole_203 : decode prog_8_method_33_code 203 = .ok (.aload_n 0, 1) := by decide +kernel
theorem dX6_whole_204 : decode prog_8_method_33_code 204 = .ok (.getfield 27, 3) := by decide +kernel
theorem dX6_whole_207 : decode prog_8_method_33_code 207 = .ok (.iconst 3, 1) := by decide +kernel
theorem dX6_whole_208 : decode prog_8_method_33_code 208 = .ok (.iaload, 1) := by decide +kernel
theorem dX6_whole_209 : decode prog_8_method_33_code 209 = .ok (.ifCond .le 79, 3) := by decide +kernel
theorem dX6_whole_212 : decode prog_8_method_33_code 212 = .ok (.iload 12, 2) := by decide +kernel
theorem dX6_whole_214 : decode prog_8_method_33_code 214 = .ok (.i2l, 1) := by decide +kernel
theorem dX6_whole_215 : decode prog_8_method_33_code 215 = .ok (.lload 7, 2) := by decide +kernel
theorem dX6_whole_217 : decode prog_8_method_33_code 217 = .ok (.lneg, 1) := by decide +kernel
theorem dX6_whole_218 : decode prog_8_method_33_code 218 = .ok (.lcmp, 1) := by decide +kernel
theorem dX6_whole_219 : decode prog_8_method_33_code 219 = .ok (.ifCond .ge 69, 3) := by decide +kernel
theorem dX6_whole_222 : decode prog_8_method_33_code 222 = .ok (.iload 12, 2) := by decide +kernel
theorem dX6_whole_224 : decode prog_8_method_33_code 224 = .ok (.sipush 12500, 3) := by decide +kernel
theorem dX6_whole_227 : decode prog_8_method_33_code 227 = .ok (.if_icmp .ge 61, 3) := by decide +kernel
theorem dX6_whole_230 : decode prog_8_method_33_code 230 = .ok (.aload_n 0, 1) := by decide +kernel
theorem dX6_whole_231 : decode prog_8_method_33_code 231 = .ok (.iconst 0, 1) := by decide +kernel
theorem dX6_whole_232 : decode prog_8_method_33_code 232 = .ok (.invokevirtual 60, 3) := by decide +kernel
theorem dX6_whole_235 : decode prog_8_method_33_code 235 = .ok (.istore 13, 2) := by decide +kernel
theorem dX6_whole_237 : decode prog_8_method_33_code 237 = .ok (.aload_n 0, 1) := by decide +kernel
theorem dX6_whole_238 : decode prog_8_method_33_code 238 = .ok (.iconst 2, 1) := by decide +kernel
theorem dX6_whole_239 : decode prog_8_method_33_code 239 = .ok (.iconst 1, 1) := by decide +kernel
theorem dX6_whole_240 : decode prog_8_method_33_code 240 = .ok (.invokevirtual 49, 3) := by decide +kernel
theorem dX6_whole_243 : decode prog_8_method_33_code 243 = .ok (.aload_n 0, 1) := by decide +kernel
theorem dX6_whole_244 : decode prog_8_method_33_code 244 = .ok (.getfield 27, 3) := by decide +kernel
theorem dX6_whole_247 : decode prog_8_method_33_code 247 = .ok (.iconst 2, 1) := by decide +kernel
theorem dX6_whole_248 : decode prog_8_method_33_code 248 = .ok (.iaload, 1) := by decide +kernel
theorem dX6_whole_249 : decode prog_8_method_33_code 249 = .ok (.ifCond .ne 15, 3) := by decide +kernel
theorem dX6_whole_252 : decode prog_8_method_33_code 252 = .ok (.iload 13, 2) := by decide +kernel
theorem dX6_whole_254 : decode prog_8_method_33_code 254 = .ok (.ifCond .le 10, 3) := by decide +kernel
theorem dX6_whole_257 : decode prog_8_method_33_code 257 = .ok (.aload_n 0, 1) := by decide +kernel
theorem dX6_whole_258 : decode prog_8_method_33_code 258 = .ok (.getfield 27, 3) := by decide +kernel
theorem dX6_whole_261 : decode prog_8_method_33_code 261 = .ok (.iconst 2, 1) := by decide +kernel
theorem dX6_whole_262 : decode prog_8_method_33_code 262 = .ok (.iconst 1, 1) := by decide +kernel
theorem dX6_whole_263 : decode prog_8_method_33_code 263 = .ok (.iastore, 1) := by decide +kernel
theorem dX6_whole_264 : decode prog_8_method_33_code 264 = .ok (.aload_n 0, 1) := by decide +kernel
theorem dX6_whole_265 : decode prog_8_method_33_code 265 = .ok (.getfield 27, 3) := by decide +kernel
theorem dX6_whole_268 : decode prog_8_method_33_code 268 = .ok (.iconst 2, 1) := by decide +kernel
theorem dX6_whole_269 : decode prog_8_method_33_code 269 = .ok (.iaload, 1) := by decide +kernel
theorem dX6_whole_270 : decode prog_8_method_33_code 270 = .ok (.ifCond .le 12, 3) := by decide +kernel
theorem dX6_whole_273 : decode prog_8_method_33_code 273 = .ok (.aload_n 0, 1) := by decide +kernel
theorem dX6_whole_274 : decode prog_8_method_33_code 274 = .ok (.getfield 24, 3) := by decide +kernel
theorem dX6_whole_277 : decode prog_8_method_33_code 277 = .ok (.ldc 48, 2) := by decide +kernel
theorem dX6_whole_279 : decode prog_8_method_33_code 279 = .ok (.iload 13, 2) := by decide +kernel
theorem dX6_whole_281 : decode prog_8_method_33_code 281 = .ok (.iastore, 1) := by decide +kernel
theorem dX6_whole_282 : decode prog_8_method_33_code 282 = .ok (.iinc 12 1, 3) := by decide +kernel
theorem dX6_whole_285 : decode prog_8_method_33_code 285 = .ok (.goto (-82), 3) := by decide +kernel
theorem dX6_whole_288 : decode prog_8_method_33_code 288 = .ok (.aload_n 0, 1) := by decide +kernel
theorem dX6_whole_289 : decode prog_8_method_33_code 289 = .ok (.getfield 27, 3) := by decide +kernel
theorem dX6_whole_292 : decode prog_8_method_33_code 292 = .ok (.iconst 3, 1) := by decide +kernel
theorem dX6_whole_293 : decode prog_8_method_33_code 293 = .ok (.iaload, 1) := by decide +kernel
theorem dX6_whole_294 : decode prog_8_method_33_code 294 = .ok (.ifCond .le 15, 3) := by decide +kernel
theorem dX6_whole_297 : decode prog_8_method_33_code 297 = .ok (.iload 12, 2) := by decide +kernel
theorem dX6_whole_299 : decode prog_8_method_33_code 299 = .ok (.i2l, 1) := by decide +kernel
theorem dX6_whole_300 : decode prog_8_method_33_code 300 = .ok (.lload 7, 2) := by decide +kernel
theorem dX6_whole_302 : decode prog_8_method_33_code 302 = .ok (.lneg, 1) := by decide +kernel
theorem dX6_whole_303 : decode prog_8_method_33_code 303 = .ok (.lcmp, 1) := by decide +kernel
theorem dX6_whole_304 : decode prog_8_method_33_code 304 = .ok (.ifCond .ge 5, 3) := by decide +kernel
theorem dX6_whole_307 : decode prog_8_method_33_code 307 = .ok (.iconst 0, 1) := by decide +kernel
theorem dX6_whole_308 : decode prog_8_method_33_code 308 = .ok (.ireturn, 1) := by decide +kernel
theorem dX6_whole_309 : decode prog_8_method_33_code 309 = .ok (.aload_n 0, 1) := by decide +kernel
theorem dX6_whole_310 : decode prog_8_method_33_code 310 = .ok (.iconst 2, 1) := by decide +kernel
theorem dX6_whole_311 : decode prog_8_method_33_code 311 = .ok (.invokevirtual 133, 3) := by decide +kernel
theorem dX6_whole_314 : decode prog_8_method_33_code 314 = .ok (.istore 13, 2) := by decide +kernel
theorem dX6_whole_316 : decode prog_8_method_33_code 316 = .ok (.aload_n 0, 1) := by decide +kernel
theorem dX6_whole_317 : decode prog_8_method_33_code 317 = .ok (.getfield 27, 3) := by decide +kernel
theorem dX6_whole_320 : decode prog_8_method_33_code 320 = .ok (.iconst 2, 1) := by decide +kernel
