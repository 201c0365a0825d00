theorem xd_0_0 : decode prog_1_method_1_code 0 = .ok (.aload_n 0, 1) := by decide +kernel
theorem xd_0_1 : decode prog_1_method_1_code 1 = .ok (.invokespecial 1, 3) := by decide +kernel
theorem xd_0_4 : decode prog_1_method_1_code 4 = .ok (.aload_n 0, 1) := by decide +kernel
theorem xd_0_5 : decode prog_1_method_1_code 5 = .ok (.new 7, 3) := by decide +kernel
theorem xd_0_8 : decode prog_1_method_1_code 8 = .ok (.dup, 1) := by decide +kernel
theorem xd_0_9 : decode prog_1_method_1_code 9 = .ok (.invokespecial 9, 3) := by decide +kernel
theorem xd_0_12 : decode prog_1_method_1_code 12 = .ok (.putfield 10, 3) := by decide +kernel
theorem xd_0_15 : decode prog_1_method_1_code 15 = .ok (.aload_n 0, 1) := by decide +kernel
theorem xd_0_16 : decode prog_1_method_1_code 16 = .ok (.new 7, 3) := by decide +kernel
theorem xd_0_19 : decode prog_1_method_1_code 19 = .ok (.dup, 1) := by decide +kernel
theorem xd_0_20 : decode prog_1_method_1_code 20 = .ok (.invokespecial 9, 3) := by decide +kernel
theorem xd_0_23 : decode prog_1_method_1_code 23 = .ok (.putfield 16, 3) := by decide +kernel
theorem xd_0_26 : decode prog_1_method_1_code 26 = .ok (.aload_n 0, 1) := by decide +kernel
theorem xd_0_27 : decode prog_1_method_1_code 27 = .ok (.new 19, 3) := by decide +kernel
theorem xd_0_30 : decode prog_1_method_1_code 30 = .ok (.dup, 1) := by decide +kernel
theorem xd_0_31 : decode prog_1_method_1_code 31 = .ok (.invokespecial 21, 3) := by decide +kernel
theorem xd_0_34 : decode prog_1_method_1_code 34 = .ok (.putfield 22, 3) := by decide +kernel
theorem xd_0_37 : decode prog_1_method_1_code 37 = .ok (.aload_n 0, 1) := by decide +kernel
theorem xd_0_38 : decode prog_1_method_1_code 38 = .ok (.new 19, 3) := by decide +kernel
theorem xd_0_41 : decode prog_1_method_1_code 41 = .ok (.dup, 1) := by decide +kernel
theorem xd_0_42 : decode prog_1_method_1_code 42 = .ok (.invokespecial 21, 3) := by decide +kernel
theorem xd_0_45 : decode prog_1_method_1_code 45 = .ok (.putfield 26, 3) := by decide +kernel
theorem xd_0_48 : decode prog_1_method_1_code 48 = .ok (.aload_n 0, 1) := by decide +kernel
theorem xd_0_49 : decode prog_1_method_1_code 49 = .ok (.new 29, 3) := by decide +kernel
theorem xd_0_52 : decode prog_1_method_1_code 52 = .ok (.dup, 1) := by decide +kernel
theorem xd_0_53 : decode prog_1_method_1_code 53 = .ok (.invokespecial 31, 3) := by decide +kernel
theorem xd_0_56 : decode prog_1_method_1_code 56 = .ok (.putfield 32, 3) := by decide +kernel
theorem xd_0_59 : decode prog_1_method_1_code 59 = .ok (.aload_n 0, 1) := by decide +kernel
theorem xd_0_60 : decode prog_1_method_1_code 60 = .ok (.new 29, 3) := by decide +kernel
theorem xd_0_63 : decode prog_1_method_1_code 63 = .ok (.dup, 1) := by decide +kernel
theorem xd_0_64 : decode prog_1_method_1_code 64 = .ok (.invokespecial 31, 3) := by decide +kernel
theorem xd_0_67 : decode prog_1_method_1_code 67 = .ok (.putfield 36, 3) := by decide +kernel
theorem xd_0_70 : decode prog_1_method_1_code 70 = .ok (.aload_n 0, 1) := by decide +kernel
theorem xd_0_71 : decode prog_1_method_1_code 71 = .ok (.new 29, 3) := by decide +kernel
theorem xd_0_74 : decode prog_1_method_1_code 74 = .ok (.dup, 1) := by decide +kernel
theorem xd_0_75 : decode prog_1_method_1_code 75 = .ok (.invokespecial 31, 3) := by decide +kernel
theorem xd_0_78 : decode prog_1_method_1_code 78 = .ok (.putfield 39, 3) := by decide +kernel
theorem xd_0_81 : decode prog_1_method_1_code 81 = .ok (.aload_n 0, 1) := by decide +kernel
theorem xd_0_82 : decode prog_1_method_1_code 82 = .ok (.new 42, 3) := by decide +kernel
theorem xd_0_85 : decode prog_1_method_1_code 85 = .ok (.dup, 1) := by decide +kernel
theorem xd_0_86 : decode prog_1_method_1_code 86 = .ok (.aload_n 0, 1) := by decide +kernel
theorem xd_0_87 : decode prog_1_method_1_code 87 = .ok (.getfield 32, 3) := by decide +kernel
theorem xd_0_90 : decode prog_1_method_1_code 90 = .ok (.invokespecial 44, 3) := by decide +kernel
theorem xd_0_93 : decode prog_1_method_1_code 93 = .ok (.putfield 47, 3) := by decide +kernel
theorem xd_0_96 : decode prog_1_method_1_code 96 = .ok (.aload_n 0, 1) := by decide +kernel
theorem xd_0_97 : decode prog_1_method_1_code 97 = .ok (.new 51, 3) := by decide +kernel
theorem xd_0_100 : decode prog_1_method_1_code 100 = .ok (.dup, 1) := by decide +kernel
theorem xd_0_101 : decode prog_1_method_1_code 101 = .ok (.iconst 0, 1) := by decide +kernel
theorem xd_0_102 : decode prog_1_method_1_code 102 = .ok (.invokespecial 53, 3) := by decide +kernel
theorem xd_0_105 : decode prog_1_method_1_code 105 = .ok (.putfield 56, 3) := by decide +kernel
theorem xd_0_108 : decode prog_1_method_1_code 108 = .ok (.new 60, 3) := by decide +kernel
theorem xd_0_111 : decode prog_1_method_1_code 111 = .ok (.dup, 1) := by decide +kernel
theorem xd_0_112 : decode prog_1_method_1_code 112 = .ok (.aload_n 0, 1) := by decide +kernel
theorem xd_0_113 : decode prog_1_method_1_code 113 = .ok (.getfield 10, 3) := by decide +kernel
theorem xd_0_116 : decode prog_1_method_1_code 116 = .ok (.invokespecial 62, 3) := by decide +kernel
theorem xd_0_119 : decode prog_1_method_1_code 119 = .ok (.astore_n 1, 1) := by decide +kernel
theorem xd_0_120 : decode prog_1_method_1_code 120 = .ok (.aload_n 0, 1) := by decide +kernel
theorem xd_0_121 : decode prog_1_method_1_code 121 = .ok (.new 65, 3) := by decide +kernel
theorem xd_0_124 : decode prog_1_method_1_code 124 = .ok (.dup, 1) := by decide +kernel
theorem xd_0_125 : decode prog_1_method_1_code 125 = .ok (.aload_n 1, 1) := by decide +kernel
theorem xd_0_126 : decode prog_1_method_1_code 126 = .ok (.aload_n 0, 1) := by decide +kernel
theorem xd_0_127 : decode prog_1_method_1_code 127 = .ok (.getfield 26, 3) := by decide +kernel
theorem xd_0_130 : decode prog_1_method_1_code 130 = .ok (.invokespecial 67, 3) := by decide +kernel
theorem xd_0_133 : decode prog_1_method_1_code 133 = .ok (.putfield 70, 3) := by decide +kernel
theorem xd_0_136 : decode prog_1_method_1_code 136 = .ok (.aload_n 0, 1) := by decide +kernel
theorem xd_0_137 : decode prog_1_method_1_code 137 = .ok (.new 74, 3) := by decide +kernel
theorem xd_0_140 : decode prog_1_method_1_code 140 = .ok (.dup, 1) := by decide +kernel
theorem xd_0_141 : decode prog_1_method_1_code 141 = .ok (.aload_n 1, 1) := by decide +kernel
theorem xd_0_142 : decode prog_1_method_1_code 142 = .ok (.aload_n 0, 1) := by decide +kernel
theorem xd_0_143 : decode prog_1_method_1_code 143 = .ok (.getfield 36, 3) := by decide +kernel
theorem xd_0_146 : decode prog_1_method_1_code 146 = .ok (.invokespecial 76, 3) := by decide +kernel
theorem xd_0_149 : decode prog_1_method_1_code 149 = .ok (.putfield 79, 3) := by decide +kernel
theorem xd_0_152 : decode prog_1_method_1_code 152 = .ok (.return_, 1) := by decide +kernel
theorem xd_1_0 : decode prog_1_method_2_code 0 = .ok (.iconst 0, 1) := by decide +kernel
theorem xd_1_1 : decode prog_1_method_2_code 1 = .ok (.istore_n 3, 1) := by decide +kernel
theorem xd_1_2 : decode prog_1_method_2_code 2 = .ok (.bipush 56, 2) := by decide +kernel
theorem xd_1_4 : decode prog_1_method_2_code 4 = .ok (.istore 4, 2) := by decide +kernel
theorem xd_1_6 : decode prog_1_method_2_code 6 = .ok (.iload 4, 2) := by decide +kernel
theorem xd_1_8 : decode prog_1_method_2_code 8 = .ok (.ifCond .lt 59, 3) := by decide +kernel
theorem xd_1_11 : decode prog_1_method_2_code 11 = .ok (.lload_n 1, 1) := by decide +kernel
theorem xd_1_12 : decode prog_1_method_2_code 12 = .ok (.iload 4, 2) := by decide +kernel
theorem xd_1_14 : decode prog_1_method_2_code 14 = .ok (.invokestatic 83, 3) := by decide +kernel
theorem xd_1_17 : decode prog_1_method_2_code 17 = .ok (.istore 5, 2) := by decide +kernel
theorem xd_1_19 : decode prog_1_method_2_code 19 = .ok (.iload 5, 2) := by decide +kernel
theorem xd_1_21 : decode prog_1_method_2_code 21 = .ok (.ifCond .eq 27, 3) := by decide +kernel
theorem xd_1_24 : decode prog_1_method_2_code 24 = .ok (.iload 5, 2) := by decide +kernel
theorem xd_1_26 : decode prog_1_method_2_code 26 = .ok (.bipush 32, 2) := by decide +kernel
theorem xd_1_28 : decode prog_1_method_2_code 28 = .ok (.if_icmp .lt 10, 3) := by decide +kernel
theorem xd_1_31 : decode prog_1_method_2_code 31 = .ok (.iload 5, 2) := by decide +kernel
theorem xd_1_33 : decode prog_1_method_2_code 33 = .ok (.bipush 126, 2) := by decide +kernel
theorem xd_1_35 : decode prog_1_method_2_code 35 = .ok (.if_icmp .le 13, 3) := by decide +kernel
theorem xd_1_38 : decode prog_1_method_2_code 38 = .ok (.new 87, 3) := by decide +kernel
theorem xd_1_41 : decode prog_1_method_2_code 41 = .ok (.dup, 1) := by decide +kernel
theorem xd_1_42 : decode prog_1_method_2_code 42 = .ok (.ldc 89, 2) := by decide +kernel
theorem xd_1_44 : decode prog_1_method_2_code 44 = .ok (.invokespecial 91, 3) := by decide +kernel
theorem xd_1_47 : decode prog_1_method_2_code 47 = .ok (.athrow, 1) := by decide +kernel
theorem xd_1_48 : decode prog_1_method_2_code 48 = .ok (.iload_n 3, 1) := by decide +kernel
theorem xd_1_49 : decode prog_1_method_2_code 49 = .ok (.iload 5, 2) := by decide +kernel
theorem xd_1_51 : decode prog_1_method_2_code 51 = .ok (.ifCond .ne 7, 3) := by decide +kernel
theorem xd_1_54 : decode prog_1_method_2_code 54 = .ok (.iconst 0, 1) := by decide +kernel
theorem xd_1_55 : decode prog_1_method_2_code 55 = .ok (.goto 4, 3) := by decide +kernel
theorem xd_1_58 : decode prog_1_method_2_code 58 = .ok (.iconst 1, 1) := by decide +kernel
theorem xd_1_59 : decode prog_1_method_2_code 59 = .ok (.iadd, 1) := by decide +kernel
theorem xd_1_60 : decode prog_1_method_2_code 60 = .ok (.istore_n 3, 1) := by decide +kernel
theorem xd_1_61 : decode prog_1_method_2_code 61 = .ok (.iinc 4 (-8), 3) := by decide +kernel
theorem xd_1_64 : decode prog_1_method_2_code 64 = .ok (.goto (-58), 3) := by decide +kernel
theorem xd_1_67 : decode prog_1_method_2_code 67 = .ok (.aload_n 0, 1) := by decide +kernel
theorem xd_1_68 : decode prog_1_method_2_code 68 = .ok (.getfield 10, 3) := by decide +kernel
theorem xd_1_71 : decode prog_1_method_2_code 71 = .ok (.getfield 94, 3) := by decide +kernel
theorem xd_1_74 : decode prog_1_method_2_code 74 = .ok (.iload_n 3, 1) := by decide +kernel
theorem xd_1_75 : decode prog_1_method_2_code 75 = .ok (.iadd, 1) := by decide +kernel
theorem xd_1_76 : decode prog_1_method_2_code 76 = .ok (.sipush 1200, 3) := by decide +kernel
theorem xd_1_79 : decode prog_1_method_2_code 79 = .ok (.if_icmp .le 13, 3) := by decide +kernel
theorem xd_1_82 : decode prog_1_method_2_code 82 = .ok (.new 98, 3) := by decide +kernel
theorem xd_1_85 : decode prog_1_method_2_code 85 = .ok (.dup, 1) := by decide +kernel
theorem xd_1_86 : decode prog_1_method_2_code 86 = .ok (.ldc 100, 2) := by decide +kernel
theorem xd_1_88 : decode prog_1_method_2_code 88 = .ok (.invokespecial 102, 3) := by decide +kernel
theorem xd_1_91 : decode prog_1_method_2_code 91 = .ok (.athrow, 1) := by decide +kernel
theorem xd_1_92 : decode prog_1_method_2_code 92 = .ok (.aload_n 0, 1) := by decide +kernel
theorem xd_1_93 : decode prog_1_method_2_code 93 = .ok (.getfield 10, 3) := by decide +kernel
theorem xd_1_96 : decode prog_1_method_2_code 96 = .ok (.lload_n 1, 1) := by decide +kernel
theorem xd_1_97 : decode prog_1_method_2_code 97 = .ok (.invokevirtual 103, 3) := by decide +kernel
theorem xd_1_100 : decode prog_1_method_2_code 100 = .ok (.aload_n 0, 1) := by decide +kernel
theorem xd_1_101 : decode prog_1_method_2_code 101 = .ok (.getfield 10, 3) := by decide +kernel
theorem xd_1_104 : decode prog_1_method_2_code 104 = .ok (.getfield 94, 3) := by decide +kernel
theorem xd_1_107 : decode prog_1_method_2_code 107 = .ok (.ireturn, 1) := by decide +kernel
theorem xd_2_0 : decode prog_1_method_3_code 0 = .ok (.iload_n 1, 1) := by decide +kernel
theorem xd_2_1 : decode prog_1_method_3_code 1 = .ok (.ifCond .lt 14, 3) := by decide +kernel
theorem xd_2_4 : decode prog_1_method_3_code 4 = .ok (.iload_n 1, 1) := by decide +kernel
theorem xd_2_5 : decode prog_1_method_3_code 5 = .ok (.aload_n 0, 1) := by decide +kernel
theorem xd_2_6 : decode prog_1_method_3_code 6 = .ok (.getfield 10, 3) := by decide +kernel
theorem xd_2_9 : decode prog_1_method_3_code 9 = .ok (.getfield 94, 3) := by decide +kernel
theorem xd_2_12 : decode prog_1_method_3_code 12 = .ok (.if_icmp .le 13, 3) := by decide +kernel
theorem xd_2_15 : decode prog_1_method_3_code 15 = .ok (.new 87, 3) := by decide +kernel
theorem xd_2_18 : decode prog_1_method_3_code 18 = .ok (.dup, 1) := by decide +kernel
theorem xd_2_19 : decode prog_1_method_3_code 19 = .ok (.ldc 107, 2) := by decide +kernel
theorem xd_2_21 : decode prog_1_method_3_code 21 = .ok (.invokespecial 91, 3) := by decide +kernel
theorem xd_2_24 : decode prog_1_method_3_code 24 = .ok (.athrow, 1) := by decide +kernel
theorem xd_2_25 : decode prog_1_method_3_code 25 = .ok (.aload_n 0, 1) := by decide +kernel
theorem xd_2_26 : decode prog_1_method_3_code 26 = .ok (.getfield 10, 3) := by decide +kernel
theorem xd_2_29 : decode prog_1_method_3_code 29 = .ok (.dup, 1) := by decide +kernel
theorem xd_2_30 : decode prog_1_method_3_code 30 = .ok (.getfield 94, 3) := by decide +kernel
theorem xd_2_33 : decode prog_1_method_3_code 33 = .ok (.iload_n 1, 1) := by decide +kernel
theorem xd_2_34 : decode prog_1_method_3_code 34 = .ok (.isub, 1) := by decide +kernel
theorem xd_2_35 : decode prog_1_method_3_code 35 = .ok (.putfield 94, 3) := by decide +kernel
theorem xd_2_38 : decode prog_1_method_3_code 38 = .ok (.aload_n 0, 1) := by decide +kernel
theorem xd_2_39 : decode prog_1_method_3_code 39 = .ok (.getfield 10, 3) := by decide +kernel
theorem xd_2_42 : decode prog_1_method_3_code 42 = .ok (.getfield 94, 3) := by decide +kernel
theorem xd_2_45 : decode prog_1_method_3_code 45 = .ok (.ireturn, 1) := by decide +kernel
theorem xd_3_0 : decode prog_1_method_4_code 0 = .ok (.iload_n 1, 1) := by decide +kernel
theorem xd_3_1 : decode prog_1_method_4_code 1 = .ok (.ifCond .lt 14, 3) := by decide +kernel
theorem xd_3_4 : decode prog_1_method_4_code 4 = .ok (.iload_n 1, 1) := by decide +kernel
theorem xd_3_5 : decode prog_1_method_4_code 5 = .ok (.aload_n 0, 1) := by decide +kernel
theorem xd_3_6 : decode prog_1_method_4_code 6 = .ok (.getfield 10, 3) := by decide +kernel
theorem xd_3_9 : decode prog_1_method_4_code 9 = .ok (.getfield 94, 3) := by decide +kernel
theorem xd_3_12 : decode prog_1_method_4_code 12 = .ok (.if_icmp .lt 13, 3) := by decide +kernel
theorem xd_3_15 : decode prog_1_method_4_code 15 = .ok (.new 87, 3) := by decide +kernel
theorem xd_3_18 : decode prog_1_method_4_code 18 = .ok (.dup, 1) := by decide +kernel
theorem xd_3_19 : decode prog_1_method_4_code 19 = .ok (.ldc 109, 2) := by decide +kernel
theorem xd_3_21 : decode prog_1_method_4_code 21 = .ok (.invokespecial 91, 3) := by decide +kernel
theorem xd_3_24 : decode prog_1_method_4_code 24 = .ok (.athrow, 1) := by decide +kernel
theorem xd_3_25 : decode prog_1_method_4_code 25 = .ok (.aload_n 0, 1) := by decide +kernel
theorem xd_3_26 : decode prog_1_method_4_code 26 = .ok (.getfield 10, 3) := by decide +kernel
theorem xd_3_29 : decode prog_1_method_4_code 29 = .ok (.iload_n 1, 1) := by decide +kernel
theorem xd_3_30 : decode prog_1_method_4_code 30 = .ok (.invokevirtual 111, 3) := by decide +kernel
theorem xd_3_33 : decode prog_1_method_4_code 33 = .ok (.ireturn, 1) := by decide +kernel
theorem xd_4_0 : decode prog_1_method_5_code 0 = .ok (.aload_n 0, 1) := by decide +kernel
theorem xd_4_1 : decode prog_1_method_5_code 1 = .ok (.getfield 70, 3) := by decide +kernel
theorem xd_4_4 : decode prog_1_method_5_code 4 = .ok (.invokevirtual 115, 3) := by decide +kernel
theorem xd_4_7 : decode prog_1_method_5_code 7 = .ok (.ifCond .ne 16, 3) := by decide +kernel
theorem xd_4_10 : decode prog_1_method_5_code 10 = .ok (.iconst (-1), 1) := by decide +kernel
theorem xd_4_11 : decode prog_1_method_5_code 11 = .ok (.aload_n 0, 1) := by decide +kernel
theorem xd_4_12 : decode prog_1_method_5_code 12 = .ok (.getfield 70, 3) := by decide +kernel
theorem xd_4_15 : decode prog_1_method_5_code 15 = .ok (.getfield 119, 3) := by decide +kernel
theorem xd_4_18 : decode prog_1_method_5_code 18 = .ok (.invokevirtual 123, 3) := by decide +kernel
theorem xd_4_21 : decode prog_1_method_5_code 21 = .ok (.isub, 1) := by decide +kernel
theorem xd_4_22 : decode prog_1_method_5_code 22 = .ok (.ireturn, 1) := by decide +kernel
theorem xd_4_23 : decode prog_1_method_5_code 23 = .ok (.aload_n 0, 1) := by decide +kernel
theorem xd_4_24 : decode prog_1_method_5_code 24 = .ok (.getfield 22, 3) := by decide +kernel
theorem xd_4_27 : decode prog_1_method_5_code 27 = .ok (.aload_n 0, 1) := by decide +kernel
theorem xd_4_28 : decode prog_1_method_5_code 28 = .ok (.getfield 26, 3) := by decide +kernel
theorem xd_4_31 : decode prog_1_method_5_code 31 = .ok (.invokevirtual 127, 3) := by decide +kernel
theorem xd_4_34 : decode prog_1_method_5_code 34 = .ok (.aload_n 0, 1) := by decide +kernel
theorem xd_4_35 : decode prog_1_method_5_code 35 = .ok (.getfield 10, 3) := by decide +kernel
theorem xd_4_38 : decode prog_1_method_5_code 38 = .ok (.invokevirtual 131, 3) := by decide +kernel
theorem xd_4_41 : decode prog_1_method_5_code 41 = .ok (.aload_n 0, 1) := by decide +kernel
theorem xd_4_42 : decode prog_1_method_5_code 42 = .ok (.getfield 22, 3) := by decide +kernel
theorem xd_4_45 : decode prog_1_method_5_code 45 = .ok (.getfield 134, 3) := by decide +kernel
theorem xd_4_48 : decode prog_1_method_5_code 48 = .ok (.ireturn, 1) := by decide +kernel
theorem xd_5_0 : decode prog_1_method_6_code 0 = .ok (.aload_n 0, 1) := by decide +kernel
theorem xd_5_1 : decode prog_1_method_6_code 1 = .ok (.getfield 79, 3) := by decide +kernel
theorem xd_5_4 : decode prog_1_method_6_code 4 = .ok (.invokevirtual 137, 3) := by decide +kernel
theorem xd_5_7 : decode prog_1_method_6_code 7 = .ok (.ifCond .ne 16, 3) := by decide +kernel
theorem xd_5_10 : decode prog_1_method_6_code 10 = .ok (.iconst (-1), 1) := by decide +kernel
theorem xd_5_11 : decode prog_1_method_6_code 11 = .ok (.aload_n 0, 1) := by decide +kernel
theorem xd_5_12 : decode prog_1_method_6_code 12 = .ok (.getfield 79, 3) := by decide +kernel
theorem xd_5_15 : decode prog_1_method_6_code 15 = .ok (.getfield 138, 3) := by decide +kernel
theorem xd_5_18 : decode prog_1_method_6_code 18 = .ok (.invokevirtual 123, 3) := by decide +kernel
theorem xd_5_21 : decode prog_1_method_6_code 21 = .ok (.isub, 1) := by decide +kernel
theorem xd_5_22 : decode prog_1_method_6_code 22 = .ok (.ireturn, 1) := by decide +kernel
theorem xd_5_23 : decode prog_1_method_6_code 23 = .ok (.aload_n 0, 1) := by decide +kernel
theorem xd_5_24 : decode prog_1_method_6_code 24 = .ok (.getfield 36, 3) := by decide +kernel
theorem xd_5_27 : decode prog_1_method_6_code 27 = .ok (.invokevirtual 139, 3) := by decide +kernel
theorem xd_5_30 : decode prog_1_method_6_code 30 = .ok (.istore_n 1, 1) := by decide +kernel
theorem xd_5_31 : decode prog_1_method_6_code 31 = .ok (.iload_n 1, 1) := by decide +kernel
theorem xd_5_32 : decode prog_1_method_6_code 32 = .ok (.iconst (-1), 1) := by decide +kernel
theorem xd_5_33 : decode prog_1_method_6_code 33 = .ok (.if_icmp .eq 9, 3) := by decide +kernel
theorem xd_5_36 : decode prog_1_method_6_code 36 = .ok (.sipush (-10000), 3) := by decide +kernel
theorem xd_5_39 : decode prog_1_method_6_code 39 = .ok (.iload_n 1, 1) := by decide +kernel
theorem xd_5_40 : decode prog_1_method_6_code 40 = .ok (.isub, 1) := by decide +kernel
theorem xd_5_41 : decode prog_1_method_6_code 41 = .ok (.ireturn, 1) := by decide +kernel
theorem xd_5_42 : decode prog_1_method_6_code 42 = .ok (.aload_n 0, 1) := by decide +kernel
theorem xd_5_43 : decode prog_1_method_6_code 43 = .ok (.getfield 32, 3) := by decide +kernel
theorem xd_5_46 : decode prog_1_method_6_code 46 = .ok (.aload_n 0, 1) := by decide +kernel
theorem xd_5_47 : decode prog_1_method_6_code 47 = .ok (.getfield 36, 3) := by decide +kernel
theorem xd_5_50 : decode prog_1_method_6_code 50 = .ok (.invokevirtual 142, 3) := by decide +kernel
theorem xd_5_53 : decode prog_1_method_6_code 53 = .ok (.aload_n 0, 1) := by decide +kernel
theorem xd_5_54 : decode prog_1_method_6_code 54 = .ok (.getfield 47, 3) := by decide +kernel
theorem xd_5_57 : decode prog_1_method_6_code 57 = .ok (.invokevirtual 144, 3) := by decide +kernel
theorem xd_5_60 : decode prog_1_method_6_code 60 = .ok (.aload_n 0, 1) := by decide +kernel
theorem xd_5_61 : decode prog_1_method_6_code 61 = .ok (.getfield 10, 3) := by decide +kernel
theorem xd_5_64 : decode prog_1_method_6_code 64 = .ok (.invokevirtual 131, 3) := by decide +kernel
theorem xd_5_67 : decode prog_1_method_6_code 67 = .ok (.aload_n 0, 1) := by decide +kernel
theorem xd_5_68 : decode prog_1_method_6_code 68 = .ok (.getfield 32, 3) := by decide +kernel
theorem xd_5_71 : decode prog_1_method_6_code 71 = .ok (.getfield 147, 3) := by decide +kernel
theorem xd_5_74 : decode prog_1_method_6_code 74 = .ok (.ireturn, 1) := by decide +kernel
theorem xd_6_0 : decode prog_1_method_7_code 0 = .ok (.aload_n 0, 1) := by decide +kernel
theorem xd_6_1 : decode prog_1_method_7_code 1 = .ok (.getfield 16, 3) := by decide +kernel
theorem xd_6_4 : decode prog_1_method_7_code 4 = .ok (.invokevirtual 131, 3) := by decide +kernel
theorem xd_6_7 : decode prog_1_method_7_code 7 = .ok (.iconst 0, 1) := by decide +kernel
theorem xd_6_8 : decode prog_1_method_7_code 8 = .ok (.istore_n 1, 1) := by decide +kernel
theorem xd_6_9 : decode prog_1_method_7_code 9 = .ok (.iload_n 1, 1) := by decide +kernel
theorem xd_6_10 : decode prog_1_method_7_code 10 = .ok (.aload_n 0, 1) := by decide +kernel
theorem xd_6_11 : decode prog_1_method_7_code 11 = .ok (.getfield 32, 3) := by decide +kernel
theorem xd_6_14 : decode prog_1_method_7_code 14 = .ok (.getfield 147, 3) := by decide +kernel
theorem xd_6_17 : decode prog_1_method_7_code 17 = .ok (.if_icmp .ge 28, 3) := by decide +kernel
theorem xd_6_20 : decode prog_1_method_7_code 20 = .ok (.aload_n 0, 1) := by decide +kernel
theorem xd_6_21 : decode prog_1_method_7_code 21 = .ok (.getfield 32, 3) := by decide +kernel
theorem xd_6_24 : decode prog_1_method_7_code 24 = .ok (.aload_n 0, 1) := by decide +kernel
theorem xd_6_25 : decode prog_1_method_7_code 25 = .ok (.getfield 32, 3) := by decide +kernel
theorem xd_6_28 : decode prog_1_method_7_code 28 = .ok (.iload_n 1, 1) := by decide +kernel
theorem xd_6_29 : decode prog_1_method_7_code 29 = .ok (.invokevirtual 150, 3) := by decide +kernel
theorem xd_6_32 : decode prog_1_method_7_code 32 = .ok (.aload_n 0, 1) := by decide +kernel
theorem xd_6_33 : decode prog_1_method_7_code 33 = .ok (.getfield 16, 3) := by decide +kernel
theorem xd_6_36 : decode prog_1_method_7_code 36 = .ok (.invokestatic 154, 3) := by decide +kernel
theorem xd_6_39 : decode prog_1_method_7_code 39 = .ok (.iinc 1 1, 3) := by decide +kernel
theorem xd_6_42 : decode prog_1_method_7_code 42 = .ok (.goto (-33), 3) := by decide +kernel
theorem xd_6_45 : decode prog_1_method_7_code 45 = .ok (.aload_n 0, 1) := by decide +kernel
theorem xd_6_46 : decode prog_1_method_7_code 46 = .ok (.getfield 16, 3) := by decide +kernel
theorem xd_6_49 : decode prog_1_method_7_code 49 = .ok (.getfield 160, 3) := by decide +kernel
theorem xd_6_52 : decode prog_1_method_7_code 52 = .ok (.ifCond .eq 6, 3) := by decide +kernel
theorem xd_6_55 : decode prog_1_method_7_code 55 = .ok (.bipush (-2), 2) := by decide +kernel
theorem xd_6_57 : decode prog_1_method_7_code 57 = .ok (.ireturn, 1) := by decide +kernel
theorem xd_6_58 : decode prog_1_method_7_code 58 = .ok (.aload_n 0, 1) := by decide +kernel
theorem xd_6_59 : decode prog_1_method_7_code 59 = .ok (.getfield 10, 3) := by decide +kernel
theorem xd_6_62 : decode prog_1_method_7_code 62 = .ok (.aload_n 0, 1) := by decide +kernel
theorem xd_6_63 : decode prog_1_method_7_code 63 = .ok (.getfield 16, 3) := by decide +kernel
theorem xd_6_66 : decode prog_1_method_7_code 66 = .ok (.invokevirtual 164, 3) := by decide +kernel
theorem xd_6_69 : decode prog_1_method_7_code 69 = .ok (.aload_n 0, 1) := by decide +kernel
theorem xd_6_70 : decode prog_1_method_7_code 70 = .ok (.getfield 10, 3) := by decide +kernel
theorem xd_6_73 : decode prog_1_method_7_code 73 = .ok (.getfield 94, 3) := by decide +kernel
theorem xd_6_76 : decode prog_1_method_7_code 76 = .ok (.ireturn, 1) := by decide +kernel
theorem xd_7_0 : decode prog_1_method_8_code 0 = .ok (.aload_n 0, 1) := by decide +kernel
theorem xd_7_1 : decode prog_1_method_8_code 1 = .ok (.getfield 39, 3) := by decide +kernel
theorem xd_7_4 : decode prog_1_method_8_code 4 = .ok (.aload_n 0, 1) := by decide +kernel
theorem xd_7_5 : decode prog_1_method_8_code 5 = .ok (.getfield 32, 3) := by decide +kernel
theorem xd_7_8 : decode prog_1_method_8_code 8 = .ok (.invokevirtual 142, 3) := by decide +kernel
theorem xd_7_11 : decode prog_1_method_8_code 11 = .ok (.aload_n 0, 1) := by decide +kernel
theorem xd_7_12 : decode prog_1_method_8_code 12 = .ok (.getfield 39, 3) := by decide +kernel
theorem xd_7_15 : decode prog_1_method_8_code 15 = .ok (.getfield 147, 3) := by decide +kernel
theorem xd_7_18 : decode prog_1_method_8_code 18 = .ok (.ireturn, 1) := by decide +kernel
theorem xd_8_0 : decode prog_1_method_9_code 0 = .ok (.iload_n 1, 1) := by decide +kernel
theorem xd_8_1 : decode prog_1_method_9_code 1 = .ok (.ifCond .lt 7, 3) := by decide +kernel
theorem xd_8_4 : decode prog_1_method_9_code 4 = .ok (.iconst 1, 1) := by decide +kernel
theorem xd_8_5 : decode prog_1_method_9_code 5 = .ok (.goto 4, 3) := by decide +kernel
theorem xd_8_8 : decode prog_1_method_9_code 8 = .ok (.iconst 0, 1) := by decide +kernel
theorem xd_8_9 : decode prog_1_method_9_code 9 = .ok (.invokestatic 166, 3) := by decide +kernel
theorem xd_8_12 : decode prog_1_method_9_code 12 = .ok (.aload_n 0, 1) := by decide +kernel
theorem xd_8_13 : decode prog_1_method_9_code 13 = .ok (.getfield 32, 3) := by decide +kernel
theorem xd_8_16 : decode prog_1_method_9_code 16 = .ok (.iload_n 1, 1) := by decide +kernel
theorem xd_8_17 : decode prog_1_method_9_code 17 = .ok (.invokevirtual 150, 3) := by decide +kernel
theorem xd_8_20 : decode prog_1_method_9_code 20 = .ok (.istore_n 2, 1) := by decide +kernel
theorem xd_8_21 : decode prog_1_method_9_code 21 = .ok (.iload_n 2, 1) := by decide +kernel
theorem xd_8_22 : decode prog_1_method_9_code 22 = .ok (.iconst (-1), 1) := by decide +kernel
theorem xd_8_23 : decode prog_1_method_9_code 23 = .ok (.if_icmp .ne 7, 3) := by decide +kernel
theorem xd_8_26 : decode prog_1_method_9_code 26 = .ok (.iconst (-1), 1) := by decide +kernel
theorem xd_8_27 : decode prog_1_method_9_code 27 = .ok (.goto 12, 3) := by decide +kernel
theorem xd_8_30 : decode prog_1_method_9_code 30 = .ok (.aload_n 0, 1) := by decide +kernel
theorem xd_8_31 : decode prog_1_method_9_code 31 = .ok (.getfield 32, 3) := by decide +kernel
theorem xd_8_34 : decode prog_1_method_9_code 34 = .ok (.getfield 170, 3) := by decide +kernel
theorem xd_8_37 : decode prog_1_method_9_code 37 = .ok (.iload_n 2, 1) := by decide +kernel
theorem xd_8_38 : decode prog_1_method_9_code 38 = .ok (.iaload, 1) := by decide +kernel
theorem xd_8_39 : decode prog_1_method_9_code 39 = .ok (.ireturn, 1) := by decide +kernel
theorem xd_9_0 : decode prog_1_method_10_code 0 = .ok (.aload_n 0, 1) := by decide +kernel
theorem xd_9_1 : decode prog_1_method_10_code 1 = .ok (.iload_n 1, 1) := by decide +kernel
theorem xd_9_2 : decode prog_1_method_10_code 2 = .ok (.invokevirtual 174, 3) := by decide +kernel
theorem xd_9_5 : decode prog_1_method_10_code 5 = .ok (.istore_n 3, 1) := by decide +kernel
theorem xd_9_6 : decode prog_1_method_10_code 6 = .ok (.iload_n 2, 1) := by decide +kernel
theorem xd_9_7 : decode prog_1_method_10_code 7 = .ok (.ifCond .lt 12, 3) := by decide +kernel
theorem xd_9_10 : decode prog_1_method_10_code 10 = .ok (.iload_n 2, 1) := by decide +kernel
theorem xd_9_11 : decode prog_1_method_10_code 11 = .ok (.iconst 3, 1) := by decide +kernel
theorem xd_9_12 : decode prog_1_method_10_code 12 = .ok (.if_icmp .gt 7, 3) := by decide +kernel
theorem xd_9_15 : decode prog_1_method_10_code 15 = .ok (.iconst 1, 1) := by decide +kernel
theorem xd_9_16 : decode prog_1_method_10_code 16 = .ok (.goto 4, 3) := by decide +kernel
theorem xd_9_19 : decode prog_1_method_10_code 19 = .ok (.iconst 0, 1) := by decide +kernel
theorem xd_9_20 : decode prog_1_method_10_code 20 = .ok (.invokestatic 166, 3) := by decide +kernel
theorem xd_9_23 : decode prog_1_method_10_code 23 = .ok (.iload_n 2, 1) := by decide +kernel
theorem xd_9_24 : decode prog_1_method_10_code 24 = .ok (.ifCond .ne 20, 3) := by decide +kernel
theorem xd_9_27 : decode prog_1_method_10_code 27 = .ok (.aload_n 0, 1) := by decide +kernel
theorem xd_9_28 : decode prog_1_method_10_code 28 = .ok (.getfield 22, 3) := by decide +kernel
theorem xd_9_31 : decode prog_1_method_10_code 31 = .ok (.aload_n 0, 1) := by decide +kernel
theorem xd_9_32 : decode prog_1_method_10_code 32 = .ok (.getfield 32, 3) := by decide +kernel
theorem xd_9_35 : decode prog_1_method_10_code 35 = .ok (.getfield 177, 3) := by decide +kernel
theorem xd_9_38 : decode prog_1_method_10_code 38 = .ok (.iload_n 3, 1) := by decide +kernel
theorem xd_9_39 : decode prog_1_method_10_code 39 = .ok (.laload, 1) := by decide +kernel
theorem xd_9_40 : decode prog_1_method_10_code 40 = .ok (.invokevirtual 181, 3) := by decide +kernel
theorem xd_9_43 : decode prog_1_method_10_code 43 = .ok (.ireturn, 1) := by decide +kernel
theorem xd_9_44 : decode prog_1_method_10_code 44 = .ok (.iload_n 2, 1) := by decide +kernel
theorem xd_9_45 : decode prog_1_method_10_code 45 = .ok (.iconst 1, 1) := by decide +kernel
theorem xd_9_46 : decode prog_1_method_10_code 46 = .ok (.if_icmp .ne 13, 3) := by decide +kernel
theorem xd_9_49 : decode prog_1_method_10_code 49 = .ok (.aload_n 0, 1) := by decide +kernel
theorem xd_9_50 : decode prog_1_method_10_code 50 = .ok (.getfield 32, 3) := by decide +kernel
theorem xd_9_53 : decode prog_1_method_10_code 53 = .ok (.getfield 185, 3) := by decide +kernel
theorem xd_9_56 : decode prog_1_method_10_code 56 = .ok (.iload_n 3, 1) := by decide +kernel
theorem xd_9_57 : decode prog_1_method_10_code 57 = .ok (.iaload, 1) := by decide +kernel
theorem xd_9_58 : decode prog_1_method_10_code 58 = .ok (.ireturn, 1) := by decide +kernel
theorem xd_9_59 : decode prog_1_method_10_code 59 = .ok (.iload_n 2, 1) := by decide +kernel
theorem xd_9_60 : decode prog_1_method_10_code 60 = .ok (.iconst 2, 1) := by decide +kernel
theorem xd_9_61 : decode prog_1_method_10_code 61 = .ok (.if_icmp .ne 14, 3) := by decide +kernel
theorem xd_9_64 : decode prog_1_method_10_code 64 = .ok (.aload_n 0, 1) := by decide +kernel
theorem xd_9_65 : decode prog_1_method_10_code 65 = .ok (.getfield 32, 3) := by decide +kernel
theorem xd_9_68 : decode prog_1_method_10_code 68 = .ok (.iload_n 3, 1) := by decide +kernel
theorem xd_9_69 : decode prog_1_method_10_code 69 = .ok (.invokevirtual 188, 3) := by decide +kernel
theorem xd_9_72 : decode prog_1_method_10_code 72 = .ok (.goto 12, 3) := by decide +kernel
theorem xd_9_75 : decode prog_1_method_10_code 75 = .ok (.aload_n 0, 1) := by decide +kernel
theorem xd_9_76 : decode prog_1_method_10_code 76 = .ok (.getfield 47, 3) := by decide +kernel
theorem xd_9_79 : decode prog_1_method_10_code 79 = .ok (.getfield 191, 3) := by decide +kernel
theorem xd_9_82 : decode prog_1_method_10_code 82 = .ok (.iload_n 3, 1) := by decide +kernel
theorem xd_9_83 : decode prog_1_method_10_code 83 = .ok (.iaload, 1) := by decide +kernel
theorem xd_9_84 : decode prog_1_method_10_code 84 = .ok (.ireturn, 1) := by decide +kernel
theorem xd_10_0 : decode prog_1_method_11_code 0 = .ok (.aload_n 0, 1) := by decide +kernel
theorem xd_10_1 : decode prog_1_method_11_code 1 = .ok (.iload_n 1, 1) := by decide +kernel
theorem xd_10_2 : decode prog_1_method_11_code 2 = .ok (.iload_n 2, 1) := by decide +kernel
theorem xd_10_3 : decode prog_1_method_11_code 3 = .ok (.invokevirtual 194, 3) := by decide +kernel
theorem xd_10_6 : decode prog_1_method_11_code 6 = .ok (.istore 4, 2) := by decide +kernel
theorem xd_10_8 : decode prog_1_method_11_code 8 = .ok (.iload_n 3, 1) := by decide +kernel
theorem xd_10_9 : decode prog_1_method_11_code 9 = .ok (.ifCond .eq 8, 3) := by decide +kernel
theorem xd_10_12 : decode prog_1_method_11_code 12 = .ok (.iload_n 3, 1) := by decide +kernel
theorem xd_10_13 : decode prog_1_method_11_code 13 = .ok (.iconst 1, 1) := by decide +kernel
theorem xd_10_14 : decode prog_1_method_11_code 14 = .ok (.if_icmp .ne 7, 3) := by decide +kernel
theorem xd_10_17 : decode prog_1_method_11_code 17 = .ok (.iconst 1, 1) := by decide +kernel
theorem xd_10_18 : decode prog_1_method_11_code 18 = .ok (.goto 4, 3) := by decide +kernel
theorem xd_10_21 : decode prog_1_method_11_code 21 = .ok (.iconst 0, 1) := by decide +kernel
theorem xd_10_22 : decode prog_1_method_11_code 22 = .ok (.invokestatic 166, 3) := by decide +kernel
theorem xd_10_25 : decode prog_1_method_11_code 25 = .ok (.iload_n 3, 1) := by decide +kernel
theorem xd_10_26 : decode prog_1_method_11_code 26 = .ok (.ifCond .ne 16, 3) := by decide +kernel
theorem xd_10_29 : decode prog_1_method_11_code 29 = .ok (.aload_n 0, 1) := by decide +kernel
theorem xd_10_30 : decode prog_1_method_11_code 30 = .ok (.getfield 32, 3) := by decide +kernel
theorem xd_10_33 : decode prog_1_method_11_code 33 = .ok (.getfield 198, 3) := by decide +kernel
theorem xd_10_36 : decode prog_1_method_11_code 36 = .ok (.iload 4, 2) := by decide +kernel
theorem xd_10_38 : decode prog_1_method_11_code 38 = .ok (.iaload, 1) := by decide +kernel
theorem xd_10_39 : decode prog_1_method_11_code 39 = .ok (.goto 13, 3) := by decide +kernel
theorem xd_10_42 : decode prog_1_method_11_code 42 = .ok (.aload_n 0, 1) := by decide +kernel
theorem xd_10_43 : decode prog_1_method_11_code 43 = .ok (.getfield 32, 3) := by decide +kernel
theorem xd_10_46 : decode prog_1_method_11_code 46 = .ok (.getfield 201, 3) := by decide +kernel
theorem xd_10_49 : decode prog_1_method_11_code 49 = .ok (.iload 4, 2) := by decide +kernel
theorem xd_10_51 : decode prog_1_method_11_code 51 = .ok (.iaload, 1) := by decide +kernel
theorem xd_10_52 : decode prog_1_method_11_code 52 = .ok (.ireturn, 1) := by decide +kernel
theorem xd_11_0 : decode prog_1_method_12_code 0 = .ok (.aload_n 0, 1) := by decide +kernel
theorem xd_11_1 : decode prog_1_method_12_code 1 = .ok (.iload_n 1, 1) := by decide +kernel
theorem xd_11_2 : decode prog_1_method_12_code 2 = .ok (.iload_n 2, 1) := by decide +kernel
theorem xd_11_3 : decode prog_1_method_12_code 3 = .ok (.invokevirtual 194, 3) := by decide +kernel
theorem xd_11_6 : decode prog_1_method_12_code 6 = .ok (.istore 4, 2) := by decide +kernel
theorem xd_11_8 : decode prog_1_method_12_code 8 = .ok (.iload_n 3, 1) := by decide +kernel
theorem xd_11_9 : decode prog_1_method_12_code 9 = .ok (.ifCond .lt 20, 3) := by decide +kernel
theorem xd_11_12 : decode prog_1_method_12_code 12 = .ok (.iload_n 3, 1) := by decide +kernel
theorem xd_11_13 : decode prog_1_method_12_code 13 = .ok (.aload_n 0, 1) := by decide +kernel
theorem xd_11_14 : decode prog_1_method_12_code 14 = .ok (.getfield 32, 3) := by decide +kernel
theorem xd_11_17 : decode prog_1_method_12_code 17 = .ok (.iload 4, 2) := by decide +kernel
theorem xd_11_19 : decode prog_1_method_12_code 19 = .ok (.invokevirtual 204, 3) := by decide +kernel
theorem xd_11_22 : decode prog_1_method_12_code 22 = .ok (.if_icmp .ge 7, 3) := by decide +kernel
theorem xd_11_25 : decode prog_1_method_12_code 25 = .ok (.iconst 1, 1) := by decide +kernel
theorem xd_11_26 : decode prog_1_method_12_code 26 = .ok (.goto 4, 3) := by decide +kernel
theorem xd_11_29 : decode prog_1_method_12_code 29 = .ok (.iconst 0, 1) := by decide +kernel
theorem xd_11_30 : decode prog_1_method_12_code 30 = .ok (.invokestatic 166, 3) := by decide +kernel
theorem xd_11_33 : decode prog_1_method_12_code 33 = .ok (.aload_n 0, 1) := by decide +kernel
theorem xd_11_34 : decode prog_1_method_12_code 34 = .ok (.getfield 32, 3) := by decide +kernel
theorem xd_11_37 : decode prog_1_method_12_code 37 = .ok (.iload 4, 2) := by decide +kernel
theorem xd_11_39 : decode prog_1_method_12_code 39 = .ok (.iload_n 3, 1) := by decide +kernel
theorem xd_11_40 : decode prog_1_method_12_code 40 = .ok (.invokevirtual 207, 3) := by decide +kernel
theorem xd_11_43 : decode prog_1_method_12_code 43 = .ok (.ireturn, 1) := by decide +kernel
theorem xd_12_0 : decode prog_1_method_13_code 0 = .ok (.aload_n 0, 1) := by decide +kernel
theorem xd_12_1 : decode prog_1_method_13_code 1 = .ok (.iload_n 1, 1) := by decide +kernel
theorem xd_12_2 : decode prog_1_method_13_code 2 = .ok (.iload_n 2, 1) := by decide +kernel
theorem xd_12_3 : decode prog_1_method_13_code 3 = .ok (.invokevirtual 194, 3) := by decide +kernel
theorem xd_12_6 : decode prog_1_method_13_code 6 = .ok (.istore 4, 2) := by decide +kernel
theorem xd_12_8 : decode prog_1_method_13_code 8 = .ok (.iload_n 3, 1) := by decide +kernel
theorem xd_12_9 : decode prog_1_method_13_code 9 = .ok (.ldc 210, 2) := by decide +kernel
theorem xd_12_11 : decode prog_1_method_13_code 11 = .ok (.if_icmp .lt 13, 3) := by decide +kernel
theorem xd_12_14 : decode prog_1_method_13_code 14 = .ok (.iload_n 3, 1) := by decide +kernel
theorem xd_12_15 : decode prog_1_method_13_code 15 = .ok (.ldc 211, 2) := by decide +kernel
theorem xd_12_17 : decode prog_1_method_13_code 17 = .ok (.if_icmp .gt 7, 3) := by decide +kernel
theorem xd_12_20 : decode prog_1_method_13_code 20 = .ok (.iconst 1, 1) := by decide +kernel
theorem xd_12_21 : decode prog_1_method_13_code 21 = .ok (.goto 4, 3) := by decide +kernel
theorem xd_12_24 : decode prog_1_method_13_code 24 = .ok (.iconst 0, 1) := by decide +kernel
theorem xd_12_25 : decode prog_1_method_13_code 25 = .ok (.invokestatic 166, 3) := by decide +kernel
theorem xd_12_28 : decode prog_1_method_13_code 28 = .ok (.aload_n 0, 1) := by decide +kernel
theorem xd_12_29 : decode prog_1_method_13_code 29 = .ok (.getfield 32, 3) := by decide +kernel
theorem xd_12_32 : decode prog_1_method_13_code 32 = .ok (.getfield 198, 3) := by decide +kernel
theorem xd_12_35 : decode prog_1_method_13_code 35 = .ok (.iload 4, 2) := by decide +kernel
theorem xd_12_37 : decode prog_1_method_13_code 37 = .ok (.iaload, 1) := by decide +kernel
theorem xd_12_38 : decode prog_1_method_13_code 38 = .ok (.ifCond .ne 7, 3) := by decide +kernel
theorem xd_12_41 : decode prog_1_method_13_code 41 = .ok (.iconst 1, 1) := by decide +kernel
theorem xd_12_42 : decode prog_1_method_13_code 42 = .ok (.goto 4, 3) := by decide +kernel
theorem xd_12_45 : decode prog_1_method_13_code 45 = .ok (.iconst 0, 1) := by decide +kernel
theorem xd_12_46 : decode prog_1_method_13_code 46 = .ok (.invokestatic 166, 3) := by decide +kernel
theorem xd_12_49 : decode prog_1_method_13_code 49 = .ok (.aload_n 0, 1) := by decide +kernel
theorem xd_12_50 : decode prog_1_method_13_code 50 = .ok (.getfield 32, 3) := by decide +kernel
theorem xd_12_53 : decode prog_1_method_13_code 53 = .ok (.getfield 201, 3) := by decide +kernel
theorem xd_12_56 : decode prog_1_method_13_code 56 = .ok (.iload 4, 2) := by decide +kernel
theorem xd_12_58 : decode prog_1_method_13_code 58 = .ok (.iaload, 1) := by decide +kernel
theorem xd_12_59 : decode prog_1_method_13_code 59 = .ok (.istore 5, 2) := by decide +kernel
theorem xd_12_61 : decode prog_1_method_13_code 61 = .ok (.aload_n 0, 1) := by decide +kernel
theorem xd_12_62 : decode prog_1_method_13_code 62 = .ok (.getfield 32, 3) := by decide +kernel
theorem xd_12_65 : decode prog_1_method_13_code 65 = .ok (.getfield 201, 3) := by decide +kernel
theorem xd_12_68 : decode prog_1_method_13_code 68 = .ok (.iload 4, 2) := by decide +kernel
theorem xd_12_70 : decode prog_1_method_13_code 70 = .ok (.iload_n 3, 1) := by decide +kernel
theorem xd_12_71 : decode prog_1_method_13_code 71 = .ok (.iastore, 1) := by decide +kernel
theorem xd_12_72 : decode prog_1_method_13_code 72 = .ok (.aload_n 0, 1) := by decide +kernel
theorem xd_12_73 : decode prog_1_method_13_code 73 = .ok (.getfield 47, 3) := by decide +kernel
theorem xd_12_76 : decode prog_1_method_13_code 76 = .ok (.invokevirtual 212, 3) := by decide +kernel
theorem xd_12_79 : decode prog_1_method_13_code 79 = .ok (.iload 5, 2) := by decide +kernel
theorem xd_12_81 : decode prog_1_method_13_code 81 = .ok (.ireturn, 1) := by decide +kernel
theorem xd_13_0 : decode prog_1_method_14_code 0 = .ok (.iload_n 1, 1) := by decide +kernel
theorem xd_13_1 : decode prog_1_method_14_code 1 = .ok (.ifCond .lt 16, 3) := by decide +kernel
theorem xd_13_4 : decode prog_1_method_14_code 4 = .ok (.iload_n 2, 1) := by decide +kernel
theorem xd_13_5 : decode prog_1_method_14_code 5 = .ok (.ifCond .lt 12, 3) := by decide +kernel
theorem xd_13_8 : decode prog_1_method_14_code 8 = .ok (.iload_n 2, 1) := by decide +kernel
theorem xd_13_9 : decode prog_1_method_14_code 9 = .ok (.iconst 2, 1) := by decide +kernel
theorem xd_13_10 : decode prog_1_method_14_code 10 = .ok (.if_icmp .gt 7, 3) := by decide +kernel
theorem xd_13_13 : decode prog_1_method_14_code 13 = .ok (.iconst 1, 1) := by decide +kernel
theorem xd_13_14 : decode prog_1_method_14_code 14 = .ok (.goto 4, 3) := by decide +kernel
theorem xd_13_17 : decode prog_1_method_14_code 17 = .ok (.iconst 0, 1) := by decide +kernel
theorem xd_13_18 : decode prog_1_method_14_code 18 = .ok (.invokestatic 166, 3) := by decide +kernel
theorem xd_13_21 : decode prog_1_method_14_code 21 = .ok (.iload_n 1, 1) := by decide +kernel
theorem xd_13_22 : decode prog_1_method_14_code 22 = .ok (.istore_n 3, 1) := by decide +kernel
theorem xd_13_23 : decode prog_1_method_14_code 23 = .ok (.iconst 0, 1) := by decide +kernel
theorem xd_13_24 : decode prog_1_method_14_code 24 = .ok (.istore 4, 2) := by decide +kernel
theorem xd_13_26 : decode prog_1_method_14_code 26 = .ok (.iload 4, 2) := by decide +kernel
theorem xd_13_28 : decode prog_1_method_14_code 28 = .ok (.aload_n 0, 1) := by decide +kernel
theorem xd_13_29 : decode prog_1_method_14_code 29 = .ok (.getfield 32, 3) := by decide +kernel
theorem xd_13_32 : decode prog_1_method_14_code 32 = .ok (.getfield 147, 3) := by decide +kernel
theorem xd_13_35 : decode prog_1_method_14_code 35 = .ok (.if_icmp .ge 84, 3) := by decide +kernel
theorem xd_13_38 : decode prog_1_method_14_code 38 = .ok (.aload_n 0, 1) := by decide +kernel
theorem xd_13_39 : decode prog_1_method_14_code 39 = .ok (.getfield 32, 3) := by decide +kernel
theorem xd_13_42 : decode prog_1_method_14_code 42 = .ok (.iload 4, 2) := by decide +kernel
theorem xd_13_44 : decode prog_1_method_14_code 44 = .ok (.invokevirtual 150, 3) := by decide +kernel
theorem xd_13_47 : decode prog_1_method_14_code 47 = .ok (.istore 5, 2) := by decide +kernel
theorem xd_13_49 : decode prog_1_method_14_code 49 = .ok (.aload_n 0, 1) := by decide +kernel
theorem xd_13_50 : decode prog_1_method_14_code 50 = .ok (.iload 5, 2) := by decide +kernel
theorem xd_13_52 : decode prog_1_method_14_code 52 = .ok (.invokevirtual 215, 3) := by decide +kernel
theorem xd_13_55 : decode prog_1_method_14_code 55 = .ok (.istore 6, 2) := by decide +kernel
theorem xd_13_57 : decode prog_1_method_14_code 57 = .ok (.iload 6, 2) := by decide +kernel
theorem xd_13_59 : decode prog_1_method_14_code 59 = .ok (.ifCond .eq 41, 3) := by decide +kernel
theorem xd_13_62 : decode prog_1_method_14_code 62 = .ok (.iload_n 3, 1) := by decide +kernel
theorem xd_13_63 : decode prog_1_method_14_code 63 = .ok (.ifCond .ne 37, 3) := by decide +kernel
theorem xd_13_66 : decode prog_1_method_14_code 66 = .ok (.iload_n 2, 1) := by decide +kernel
theorem xd_13_67 : decode prog_1_method_14_code 67 = .ok (.ifCond .ne 14, 3) := by decide +kernel
theorem xd_13_70 : decode prog_1_method_14_code 70 = .ok (.aload_n 0, 1) := by decide +kernel
theorem xd_13_71 : decode prog_1_method_14_code 71 = .ok (.getfield 32, 3) := by decide +kernel
theorem xd_13_74 : decode prog_1_method_14_code 74 = .ok (.getfield 170, 3) := by decide +kernel
theorem xd_13_77 : decode prog_1_method_14_code 77 = .ok (.iload 5, 2) := by decide +kernel
theorem xd_13_79 : decode prog_1_method_14_code 79 = .ok (.iaload, 1) := by decide +kernel
theorem xd_13_80 : decode prog_1_method_14_code 80 = .ok (.ireturn, 1) := by decide +kernel
theorem xd_13_81 : decode prog_1_method_14_code 81 = .ok (.iload_n 2, 1) := by decide +kernel
theorem xd_13_82 : decode prog_1_method_14_code 82 = .ok (.iconst 1, 1) := by decide +kernel
theorem xd_13_83 : decode prog_1_method_14_code 83 = .ok (.if_icmp .ne 8, 3) := by decide +kernel
theorem xd_13_86 : decode prog_1_method_14_code 86 = .ok (.iload 6, 2) := by decide +kernel
theorem xd_13_88 : decode prog_1_method_14_code 88 = .ok (.goto 11, 3) := by decide +kernel
theorem xd_13_91 : decode prog_1_method_14_code 91 = .ok (.aload_n 0, 1) := by decide +kernel
theorem xd_13_92 : decode prog_1_method_14_code 92 = .ok (.iload 5, 2) := by decide +kernel
theorem xd_13_94 : decode prog_1_method_14_code 94 = .ok (.iload 6, 2) := by decide +kernel
theorem xd_13_96 : decode prog_1_method_14_code 96 = .ok (.invokevirtual 218, 3) := by decide +kernel
theorem xd_13_99 : decode prog_1_method_14_code 99 = .ok (.ireturn, 1) := by decide +kernel
theorem xd_13_100 : decode prog_1_method_14_code 100 = .ok (.iload_n 3, 1) := by decide +kernel
theorem xd_13_101 : decode prog_1_method_14_code 101 = .ok (.iload 6, 2) := by decide +kernel
theorem xd_13_103 : decode prog_1_method_14_code 103 = .ok (.ifCond .eq 7, 3) := by decide +kernel
theorem xd_13_106 : decode prog_1_method_14_code 106 = .ok (.iconst 1, 1) := by decide +kernel
theorem xd_13_107 : decode prog_1_method_14_code 107 = .ok (.goto 4, 3) := by decide +kernel
theorem xd_13_110 : decode prog_1_method_14_code 110 = .ok (.iconst 0, 1) := by decide +kernel
theorem xd_13_111 : decode prog_1_method_14_code 111 = .ok (.isub, 1) := by decide +kernel
theorem xd_13_112 : decode prog_1_method_14_code 112 = .ok (.istore_n 3, 1) := by decide +kernel
theorem xd_13_113 : decode prog_1_method_14_code 113 = .ok (.iinc 4 1, 3) := by decide +kernel
theorem xd_13_116 : decode prog_1_method_14_code 116 = .ok (.goto (-90), 3) := by decide +kernel
theorem xd_13_119 : decode prog_1_method_14_code 119 = .ok (.iconst (-1), 1) := by decide +kernel
theorem xd_13_120 : decode prog_1_method_14_code 120 = .ok (.ireturn, 1) := by decide +kernel
theorem xd_14_0 : decode prog_1_method_15_code 0 = .ok (.aload_n 0, 1) := by decide +kernel
theorem xd_14_1 : decode prog_1_method_15_code 1 = .ok (.iload_n 1, 1) := by decide +kernel
theorem xd_14_2 : decode prog_1_method_15_code 2 = .ok (.invokevirtual 174, 3) := by decide +kernel
theorem xd_14_5 : decode prog_1_method_15_code 5 = .ok (.istore_n 3, 1) := by decide +kernel
theorem xd_14_6 : decode prog_1_method_15_code 6 = .ok (.iload_n 2, 1) := by decide +kernel
theorem xd_14_7 : decode prog_1_method_15_code 7 = .ok (.ifCond .lt 7, 3) := by decide +kernel
theorem xd_14_10 : decode prog_1_method_15_code 10 = .ok (.iconst 1, 1) := by decide +kernel
theorem xd_14_11 : decode prog_1_method_15_code 11 = .ok (.goto 4, 3) := by decide +kernel
theorem xd_14_14 : decode prog_1_method_15_code 14 = .ok (.iconst 0, 1) := by decide +kernel
theorem xd_14_15 : decode prog_1_method_15_code 15 = .ok (.invokestatic 166, 3) := by decide +kernel
theorem xd_14_18 : decode prog_1_method_15_code 18 = .ok (.iload_n 2, 1) := by decide +kernel
theorem xd_14_19 : decode prog_1_method_15_code 19 = .ok (.istore 4, 2) := by decide +kernel
theorem xd_14_21 : decode prog_1_method_15_code 21 = .ok (.iconst 0, 1) := by decide +kernel
theorem xd_14_22 : decode prog_1_method_15_code 22 = .ok (.istore 5, 2) := by decide +kernel
theorem xd_14_24 : decode prog_1_method_15_code 24 = .ok (.iload 5, 2) := by decide +kernel
theorem xd_14_26 : decode prog_1_method_15_code 26 = .ok (.aload_n 0, 1) := by decide +kernel
theorem xd_14_27 : decode prog_1_method_15_code 27 = .ok (.getfield 32, 3) := by decide +kernel
theorem xd_14_30 : decode prog_1_method_15_code 30 = .ok (.getfield 147, 3) := by decide +kernel
theorem xd_14_33 : decode prog_1_method_15_code 33 = .ok (.if_icmp .ge 52, 3) := by decide +kernel
theorem xd_14_36 : decode prog_1_method_15_code 36 = .ok (.aload_n 0, 1) := by decide +kernel
theorem xd_14_37 : decode prog_1_method_15_code 37 = .ok (.getfield 32, 3) := by decide +kernel
theorem xd_14_40 : decode prog_1_method_15_code 40 = .ok (.iload 5, 2) := by decide +kernel
theorem xd_14_42 : decode prog_1_method_15_code 42 = .ok (.invokevirtual 150, 3) := by decide +kernel
theorem xd_14_45 : decode prog_1_method_15_code 45 = .ok (.istore 6, 2) := by decide +kernel
theorem xd_14_47 : decode prog_1_method_15_code 47 = .ok (.aload_n 0, 1) := by decide +kernel
theorem xd_14_48 : decode prog_1_method_15_code 48 = .ok (.getfield 47, 3) := by decide +kernel
theorem xd_14_51 : decode prog_1_method_15_code 51 = .ok (.iload 6, 2) := by decide +kernel
theorem xd_14_53 : decode prog_1_method_15_code 53 = .ok (.iload_n 3, 1) := by decide +kernel
theorem xd_14_54 : decode prog_1_method_15_code 54 = .ok (.invokevirtual 221, 3) := by decide +kernel
theorem xd_14_57 : decode prog_1_method_15_code 57 = .ok (.ifCond .eq 22, 3) := by decide +kernel
theorem xd_14_60 : decode prog_1_method_15_code 60 = .ok (.iload 4, 2) := by decide +kernel
theorem xd_14_62 : decode prog_1_method_15_code 62 = .ok (.ifCond .ne 14, 3) := by decide +kernel
theorem xd_14_65 : decode prog_1_method_15_code 65 = .ok (.aload_n 0, 1) := by decide +kernel
theorem xd_14_66 : decode prog_1_method_15_code 66 = .ok (.getfield 32, 3) := by decide +kernel
theorem xd_14_69 : decode prog_1_method_15_code 69 = .ok (.getfield 170, 3) := by decide +kernel
theorem xd_14_72 : decode prog_1_method_15_code 72 = .ok (.iload 6, 2) := by decide +kernel
theorem xd_14_74 : decode prog_1_method_15_code 74 = .ok (.iaload, 1) := by decide +kernel
theorem xd_14_75 : decode prog_1_method_15_code 75 = .ok (.ireturn, 1) := by decide +kernel
theorem xd_14_76 : decode prog_1_method_15_code 76 = .ok (.iinc 4 (-1), 3) := by decide +kernel
theorem xd_14_79 : decode prog_1_method_15_code 79 = .ok (.iinc 5 1, 3) := by decide +kernel
theorem xd_14_82 : decode prog_1_method_15_code 82 = .ok (.goto (-58), 3) := by decide +kernel
theorem xd_14_85 : decode prog_1_method_15_code 85 = .ok (.iconst (-1), 1) := by decide +kernel
theorem xd_14_86 : decode prog_1_method_15_code 86 = .ok (.ireturn, 1) := by decide +kernel
theorem xd_15_0 : decode prog_1_method_16_code 0 = .ok (.iload_n 1, 1) := by decide +kernel
theorem xd_15_1 : decode prog_1_method_16_code 1 = .ok (.ifCond .lt 7, 3) := by decide +kernel
theorem xd_15_4 : decode prog_1_method_16_code 4 = .ok (.iconst 1, 1) := by decide +kernel
theorem xd_15_5 : decode prog_1_method_16_code 5 = .ok (.goto 4, 3) := by decide +kernel
theorem xd_15_8 : decode prog_1_method_16_code 8 = .ok (.iconst 0, 1) := by decide +kernel
theorem xd_15_9 : decode prog_1_method_16_code 9 = .ok (.invokestatic 166, 3) := by decide +kernel
theorem xd_15_12 : decode prog_1_method_16_code 12 = .ok (.iload_n 1, 1) := by decide +kernel
theorem xd_15_13 : decode prog_1_method_16_code 13 = .ok (.istore_n 2, 1) := by decide +kernel
theorem xd_15_14 : decode prog_1_method_16_code 14 = .ok (.iconst 0, 1) := by decide +kernel
theorem xd_15_15 : decode prog_1_method_16_code 15 = .ok (.istore_n 3, 1) := by decide +kernel
theorem xd_15_16 : decode prog_1_method_16_code 16 = .ok (.iload_n 3, 1) := by decide +kernel
theorem xd_15_17 : decode prog_1_method_16_code 17 = .ok (.aload_n 0, 1) := by decide +kernel
theorem xd_15_18 : decode prog_1_method_16_code 18 = .ok (.getfield 32, 3) := by decide +kernel
theorem xd_15_21 : decode prog_1_method_16_code 21 = .ok (.getfield 147, 3) := by decide +kernel
theorem xd_15_24 : decode prog_1_method_16_code 24 = .ok (.if_icmp .ge 49, 3) := by decide +kernel
theorem xd_15_27 : decode prog_1_method_16_code 27 = .ok (.aload_n 0, 1) := by decide +kernel
theorem xd_15_28 : decode prog_1_method_16_code 28 = .ok (.getfield 32, 3) := by decide +kernel
theorem xd_15_31 : decode prog_1_method_16_code 31 = .ok (.iload_n 3, 1) := by decide +kernel
theorem xd_15_32 : decode prog_1_method_16_code 32 = .ok (.invokevirtual 150, 3) := by decide +kernel
theorem xd_15_35 : decode prog_1_method_16_code 35 = .ok (.istore 4, 2) := by decide +kernel
theorem xd_15_37 : decode prog_1_method_16_code 37 = .ok (.aload_n 0, 1) := by decide +kernel
theorem xd_15_38 : decode prog_1_method_16_code 38 = .ok (.getfield 47, 3) := by decide +kernel
theorem xd_15_41 : decode prog_1_method_16_code 41 = .ok (.iload 4, 2) := by decide +kernel
theorem xd_15_43 : decode prog_1_method_16_code 43 = .ok (.invokevirtual 225, 3) := by decide +kernel
theorem xd_15_46 : decode prog_1_method_16_code 46 = .ok (.ifCond .eq 21, 3) := by decide +kernel
theorem xd_15_49 : decode prog_1_method_16_code 49 = .ok (.iload_n 2, 1) := by decide +kernel
theorem xd_15_50 : decode prog_1_method_16_code 50 = .ok (.ifCond .ne 14, 3) := by decide +kernel
theorem xd_15_53 : decode prog_1_method_16_code 53 = .ok (.aload_n 0, 1) := by decide +kernel
theorem xd_15_54 : decode prog_1_method_16_code 54 = .ok (.getfield 32, 3) := by decide +kernel
theorem xd_15_57 : decode prog_1_method_16_code 57 = .ok (.getfield 170, 3) := by decide +kernel
theorem xd_15_60 : decode prog_1_method_16_code 60 = .ok (.iload 4, 2) := by decide +kernel
theorem xd_15_62 : decode prog_1_method_16_code 62 = .ok (.iaload, 1) := by decide +kernel
theorem xd_15_63 : decode prog_1_method_16_code 63 = .ok (.ireturn, 1) := by decide +kernel
theorem xd_15_64 : decode prog_1_method_16_code 64 = .ok (.iinc 2 (-1), 3) := by decide +kernel
theorem xd_15_67 : decode prog_1_method_16_code 67 = .ok (.iinc 3 1, 3) := by decide +kernel
theorem xd_15_70 : decode prog_1_method_16_code 70 = .ok (.goto (-54), 3) := by decide +kernel
theorem xd_15_73 : decode prog_1_method_16_code 73 = .ok (.iconst (-1), 1) := by decide +kernel
theorem xd_15_74 : decode prog_1_method_16_code 74 = .ok (.ireturn, 1) := by decide +kernel
theorem xd_16_0 : decode prog_1_method_17_code 0 = .ok (.aload_n 0, 1) := by decide +kernel
theorem xd_16_1 : decode prog_1_method_17_code 1 = .ok (.iload_n 1, 1) := by decide +kernel
theorem xd_16_2 : decode prog_1_method_17_code 2 = .ok (.invokevirtual 174, 3) := by decide +kernel
theorem xd_16_5 : decode prog_1_method_17_code 5 = .ok (.istore_n 3, 1) := by decide +kernel
theorem xd_16_6 : decode prog_1_method_17_code 6 = .ok (.iload_n 2, 1) := by decide +kernel
theorem xd_16_7 : decode prog_1_method_17_code 7 = .ok (.ifCond .lt 12, 3) := by decide +kernel
theorem xd_16_10 : decode prog_1_method_17_code 10 = .ok (.iload_n 2, 1) := by decide +kernel
theorem xd_16_11 : decode prog_1_method_17_code 11 = .ok (.iconst 3, 1) := by decide +kernel
theorem xd_16_12 : decode prog_1_method_17_code 12 = .ok (.if_icmp .ge 7, 3) := by decide +kernel
theorem xd_16_15 : decode prog_1_method_17_code 15 = .ok (.iconst 1, 1) := by decide +kernel
theorem xd_16_16 : decode prog_1_method_17_code 16 = .ok (.goto 4, 3) := by decide +kernel
theorem xd_16_19 : decode prog_1_method_17_code 19 = .ok (.iconst 0, 1) := by decide +kernel
theorem xd_16_20 : decode prog_1_method_17_code 20 = .ok (.invokestatic 166, 3) := by decide +kernel
theorem xd_16_23 : decode prog_1_method_17_code 23 = .ok (.aload_n 0, 1) := by decide +kernel
theorem xd_16_24 : decode prog_1_method_17_code 24 = .ok (.getfield 32, 3) := by decide +kernel
theorem xd_16_27 : decode prog_1_method_17_code 27 = .ok (.iload_n 3, 1) := by decide +kernel
theorem xd_16_28 : decode prog_1_method_17_code 28 = .ok (.invokevirtual 229, 3) := by decide +kernel
theorem xd_16_31 : decode prog_1_method_17_code 31 = .ok (.invokestatic 166, 3) := by decide +kernel
theorem xd_16_34 : decode prog_1_method_17_code 34 = .ok (.lconst 0, 1) := by decide +kernel
theorem xd_16_35 : decode prog_1_method_17_code 35 = .ok (.lstore 4, 2) := by decide +kernel
theorem xd_16_37 : decode prog_1_method_17_code 37 = .ok (.iconst 0, 1) := by decide +kernel
theorem xd_16_38 : decode prog_1_method_17_code 38 = .ok (.istore 6, 2) := by decide +kernel
theorem xd_16_40 : decode prog_1_method_17_code 40 = .ok (.iload 6, 2) := by decide +kernel
theorem xd_16_42 : decode prog_1_method_17_code 42 = .ok (.aload_n 0, 1) := by decide +kernel
theorem xd_16_43 : decode prog_1_method_17_code 43 = .ok (.getfield 32, 3) := by decide +kernel
theorem xd_16_46 : decode prog_1_method_17_code 46 = .ok (.getfield 147, 3) := by decide +kernel
theorem xd_16_49 : decode prog_1_method_17_code 49 = .ok (.if_icmp .ge 51, 3) := by decide +kernel
theorem xd_16_52 : decode prog_1_method_17_code 52 = .ok (.lload 4, 2) := by decide +kernel
theorem xd_16_54 : decode prog_1_method_17_code 54 = .ok (.aload_n 0, 1) := by decide +kernel
theorem xd_16_55 : decode prog_1_method_17_code 55 = .ok (.getfield 32, 3) := by decide +kernel
theorem xd_16_58 : decode prog_1_method_17_code 58 = .ok (.getfield 201, 3) := by decide +kernel
theorem xd_16_61 : decode prog_1_method_17_code 61 = .ok (.iload_n 3, 1) := by decide +kernel
theorem xd_16_62 : decode prog_1_method_17_code 62 = .ok (.bipush 8, 2) := by decide +kernel
theorem xd_16_64 : decode prog_1_method_17_code 64 = .ok (.imul, 1) := by decide +kernel
theorem xd_16_65 : decode prog_1_method_17_code 65 = .ok (.iload_n 2, 1) := by decide +kernel
theorem xd_16_66 : decode prog_1_method_17_code 66 = .ok (.iadd, 1) := by decide +kernel
theorem xd_16_67 : decode prog_1_method_17_code 67 = .ok (.iaload, 1) := by decide +kernel
theorem xd_16_68 : decode prog_1_method_17_code 68 = .ok (.i2l, 1) := by decide +kernel
theorem xd_16_69 : decode prog_1_method_17_code 69 = .ok (.ladd, 1) := by decide +kernel
theorem xd_16_70 : decode prog_1_method_17_code 70 = .ok (.lstore 4, 2) := by decide +kernel
theorem xd_16_72 : decode prog_1_method_17_code 72 = .ok (.aload_n 0, 1) := by decide +kernel
theorem xd_16_73 : decode prog_1_method_17_code 73 = .ok (.getfield 32, 3) := by decide +kernel
theorem xd_16_76 : decode prog_1_method_17_code 76 = .ok (.iload_n 3, 1) := by decide +kernel
theorem xd_16_77 : decode prog_1_method_17_code 77 = .ok (.invokevirtual 232, 3) := by decide +kernel
theorem xd_16_80 : decode prog_1_method_17_code 80 = .ok (.istore 7, 2) := by decide +kernel
theorem xd_16_82 : decode prog_1_method_17_code 82 = .ok (.iload 7, 2) := by decide +kernel
theorem xd_16_84 : decode prog_1_method_17_code 84 = .ok (.iconst (-1), 1) := by decide +kernel
theorem xd_16_85 : decode prog_1_method_17_code 85 = .ok (.if_icmp .ne 6, 3) := by decide +kernel
theorem xd_16_88 : decode prog_1_method_17_code 88 = .ok (.lload 4, 2) := by decide +kernel
theorem xd_16_90 : decode prog_1_method_17_code 90 = .ok (.lreturn, 1) := by decide +kernel
theorem xd_16_91 : decode prog_1_method_17_code 91 = .ok (.iload 7, 2) := by decide +kernel
theorem xd_16_93 : decode prog_1_method_17_code 93 = .ok (.istore_n 3, 1) := by decide +kernel
theorem xd_16_94 : decode prog_1_method_17_code 94 = .ok (.iinc 6 1, 3) := by decide +kernel
theorem xd_16_97 : decode prog_1_method_17_code 97 = .ok (.goto (-57), 3) := by decide +kernel
theorem xd_16_100 : decode prog_1_method_17_code 100 = .ok (.ldc2_w 235, 3) := by decide +kernel
theorem xd_16_103 : decode prog_1_method_17_code 103 = .ok (.lreturn, 1) := by decide +kernel
theorem xd_17_0 : decode prog_1_method_18_code 0 = .ok (.aload_n 0, 1) := by decide +kernel
theorem xd_17_1 : decode prog_1_method_18_code 1 = .ok (.iload_n 1, 1) := by decide +kernel
theorem xd_17_2 : decode prog_1_method_18_code 2 = .ok (.invokevirtual 174, 3) := by decide +kernel
theorem xd_17_5 : decode prog_1_method_18_code 5 = .ok (.pop, 1) := by decide +kernel
theorem xd_17_6 : decode prog_1_method_18_code 6 = .ok (.aload_n 0, 1) := by decide +kernel
theorem xd_17_7 : decode prog_1_method_18_code 7 = .ok (.iload_n 2, 1) := by decide +kernel
theorem xd_17_8 : decode prog_1_method_18_code 8 = .ok (.invokevirtual 174, 3) := by decide +kernel
theorem xd_17_11 : decode prog_1_method_18_code 11 = .ok (.pop, 1) := by decide +kernel
theorem xd_17_12 : decode prog_1_method_18_code 12 = .ok (.aload_n 0, 1) := by decide +kernel
theorem xd_17_13 : decode prog_1_method_18_code 13 = .ok (.getfield 47, 3) := by decide +kernel
theorem xd_17_16 : decode prog_1_method_18_code 16 = .ok (.invokevirtual 237, 3) := by decide +kernel
theorem xd_17_19 : decode prog_1_method_18_code 19 = .ok (.aload_n 0, 1) := by decide +kernel
theorem xd_17_20 : decode prog_1_method_18_code 20 = .ok (.getfield 47, 3) := by decide +kernel
theorem xd_17_23 : decode prog_1_method_18_code 23 = .ok (.getfield 240, 3) := by decide +kernel
theorem xd_17_26 : decode prog_1_method_18_code 26 = .ok (.iload_n 1, 1) := by decide +kernel
theorem xd_17_27 : decode prog_1_method_18_code 27 = .ok (.invokevirtual 243, 3) := by decide +kernel
theorem xd_17_30 : decode prog_1_method_18_code 30 = .ok (.aload_n 0, 1) := by decide +kernel
theorem xd_17_31 : decode prog_1_method_18_code 31 = .ok (.getfield 47, 3) := by decide +kernel
theorem xd_17_34 : decode prog_1_method_18_code 34 = .ok (.getfield 240, 3) := by decide +kernel
theorem xd_17_37 : decode prog_1_method_18_code 37 = .ok (.iload_n 2, 1) := by decide +kernel
theorem xd_17_38 : decode prog_1_method_18_code 38 = .ok (.invokevirtual 243, 3) := by decide +kernel
theorem xd_17_41 : decode prog_1_method_18_code 41 = .ok (.if_icmp .ne 7, 3) := by decide +kernel
theorem xd_17_44 : decode prog_1_method_18_code 44 = .ok (.iconst 1, 1) := by decide +kernel
theorem xd_17_45 : decode prog_1_method_18_code 45 = .ok (.goto 4, 3) := by decide +kernel
theorem xd_17_48 : decode prog_1_method_18_code 48 = .ok (.iconst 0, 1) := by decide +kernel
theorem xd_17_49 : decode prog_1_method_18_code 49 = .ok (.ireturn, 1) := by decide +kernel
theorem xd_18_0 : decode prog_1_method_19_code 0 = .ok (.aload_n 0, 1) := by decide +kernel
theorem xd_18_1 : decode prog_1_method_19_code 1 = .ok (.getfield 47, 3) := by decide +kernel
theorem xd_18_4 : decode prog_1_method_19_code 4 = .ok (.invokevirtual 237, 3) := by decide +kernel
theorem xd_18_7 : decode prog_1_method_19_code 7 = .ok (.aload_n 0, 1) := by decide +kernel
theorem xd_18_8 : decode prog_1_method_19_code 8 = .ok (.getfield 32, 3) := by decide +kernel
theorem xd_18_11 : decode prog_1_method_19_code 11 = .ok (.getfield 147, 3) := by decide +kernel
theorem xd_18_14 : decode prog_1_method_19_code 14 = .ok (.istore_n 1, 1) := by decide +kernel
theorem xd_18_15 : decode prog_1_method_19_code 15 = .ok (.aload_n 0, 1) := by decide +kernel
theorem xd_18_16 : decode prog_1_method_19_code 16 = .ok (.getfield 32, 3) := by decide +kernel
theorem xd_18_19 : decode prog_1_method_19_code 19 = .ok (.aload_n 0, 1) := by decide +kernel
theorem xd_18_20 : decode prog_1_method_19_code 20 = .ok (.getfield 47, 3) := by decide +kernel
theorem xd_18_23 : decode prog_1_method_19_code 23 = .ok (.getfield 240, 3) := by decide +kernel
theorem xd_18_26 : decode prog_1_method_19_code 26 = .ok (.invokevirtual 246, 3) := by decide +kernel
theorem xd_18_29 : decode prog_1_method_19_code 29 = .ok (.aload_n 0, 1) := by decide +kernel
theorem xd_18_30 : decode prog_1_method_19_code 30 = .ok (.getfield 47, 3) := by decide +kernel
theorem xd_18_33 : decode prog_1_method_19_code 33 = .ok (.invokevirtual 144, 3) := by decide +kernel
theorem xd_18_36 : decode prog_1_method_19_code 36 = .ok (.iload_n 1, 1) := by decide +kernel
theorem xd_18_37 : decode prog_1_method_19_code 37 = .ok (.aload_n 0, 1) := by decide +kernel
theorem xd_18_38 : decode prog_1_method_19_code 38 = .ok (.getfield 32, 3) := by decide +kernel
theorem xd_18_41 : decode prog_1_method_19_code 41 = .ok (.getfield 147, 3) := by decide +kernel
theorem xd_18_44 : decode prog_1_method_19_code 44 = .ok (.isub, 1) := by decide +kernel
theorem xd_18_45 : decode prog_1_method_19_code 45 = .ok (.ireturn, 1) := by decide +kernel
theorem xd_19_0 : decode prog_1_method_20_code 0 = .ok (.iload_n 1, 1) := by decide +kernel
theorem xd_19_1 : decode prog_1_method_20_code 1 = .ok (.ifCond .lt 16, 3) := by decide +kernel
theorem xd_19_4 : decode prog_1_method_20_code 4 = .ok (.iload_n 2, 1) := by decide +kernel
theorem xd_19_5 : decode prog_1_method_20_code 5 = .ok (.ifCond .eq 8, 3) := by decide +kernel
theorem xd_19_8 : decode prog_1_method_20_code 8 = .ok (.iload_n 2, 1) := by decide +kernel
theorem xd_19_9 : decode prog_1_method_20_code 9 = .ok (.iconst 1, 1) := by decide +kernel
theorem xd_19_10 : decode prog_1_method_20_code 10 = .ok (.if_icmp .ne 7, 3) := by decide +kernel
theorem xd_19_13 : decode prog_1_method_20_code 13 = .ok (.iconst 1, 1) := by decide +kernel
theorem xd_19_14 : decode prog_1_method_20_code 14 = .ok (.goto 4, 3) := by decide +kernel
theorem xd_19_17 : decode prog_1_method_20_code 17 = .ok (.iconst 0, 1) := by decide +kernel
theorem xd_19_18 : decode prog_1_method_20_code 18 = .ok (.invokestatic 166, 3) := by decide +kernel
theorem xd_19_21 : decode prog_1_method_20_code 21 = .ok (.iload_n 1, 1) := by decide +kernel
theorem xd_19_22 : decode prog_1_method_20_code 22 = .ok (.istore_n 3, 1) := by decide +kernel
theorem xd_19_23 : decode prog_1_method_20_code 23 = .ok (.iconst 0, 1) := by decide +kernel
theorem xd_19_24 : decode prog_1_method_20_code 24 = .ok (.istore 4, 2) := by decide +kernel
theorem xd_19_26 : decode prog_1_method_20_code 26 = .ok (.iconst 0, 1) := by decide +kernel
theorem xd_19_27 : decode prog_1_method_20_code 27 = .ok (.istore 5, 2) := by decide +kernel
theorem xd_19_29 : decode prog_1_method_20_code 29 = .ok (.iconst 0, 1) := by decide +kernel
theorem xd_19_30 : decode prog_1_method_20_code 30 = .ok (.istore 6, 2) := by decide +kernel
theorem xd_19_32 : decode prog_1_method_20_code 32 = .ok (.iload 6, 2) := by decide +kernel
theorem xd_19_34 : decode prog_1_method_20_code 34 = .ok (.bipush 80, 2) := by decide +kernel
theorem xd_19_36 : decode prog_1_method_20_code 36 = .ok (.if_icmp .ge 157, 3) := by decide +kernel
theorem xd_19_39 : decode prog_1_method_20_code 39 = .ok (.iload 4, 2) := by decide +kernel
theorem xd_19_41 : decode prog_1_method_20_code 41 = .ok (.aload_n 0, 1) := by decide +kernel
theorem xd_19_42 : decode prog_1_method_20_code 42 = .ok (.getfield 32, 3) := by decide +kernel
theorem xd_19_45 : decode prog_1_method_20_code 45 = .ok (.getfield 147, 3) := by decide +kernel
theorem xd_19_48 : decode prog_1_method_20_code 48 = .ok (.if_icmp .lt 15, 3) := by decide +kernel
theorem xd_19_51 : decode prog_1_method_20_code 51 = .ok (.iload 5, 2) := by decide +kernel
theorem xd_19_53 : decode prog_1_method_20_code 53 = .ok (.aload_n 0, 1) := by decide +kernel
theorem xd_19_54 : decode prog_1_method_20_code 54 = .ok (.getfield 39, 3) := by decide +kernel
theorem xd_19_57 : decode prog_1_method_20_code 57 = .ok (.getfield 147, 3) := by decide +kernel
theorem xd_19_60 : decode prog_1_method_20_code 60 = .ok (.if_icmp .ge 133, 3) := by decide +kernel
theorem xd_19_63 : decode prog_1_method_20_code 63 = .ok (.aload_n 0, 1) := by decide +kernel
theorem xd_19_64 : decode prog_1_method_20_code 64 = .ok (.getfield 32, 3) := by decide +kernel
theorem xd_19_67 : decode prog_1_method_20_code 67 = .ok (.iload 4, 2) := by decide +kernel
theorem xd_19_69 : decode prog_1_method_20_code 69 = .ok (.invokevirtual 150, 3) := by decide +kernel
theorem xd_19_72 : decode prog_1_method_20_code 72 = .ok (.istore 7, 2) := by decide +kernel
theorem xd_19_74 : decode prog_1_method_20_code 74 = .ok (.aload_n 0, 1) := by decide +kernel
theorem xd_19_75 : decode prog_1_method_20_code 75 = .ok (.getfield 39, 3) := by decide +kernel
theorem xd_19_78 : decode prog_1_method_20_code 78 = .ok (.iload 5, 2) := by decide +kernel
theorem xd_19_80 : decode prog_1_method_20_code 80 = .ok (.invokevirtual 150, 3) := by decide +kernel
theorem xd_19_83 : decode prog_1_method_20_code 83 = .ok (.istore 8, 2) := by decide +kernel
theorem xd_19_85 : decode prog_1_method_20_code 85 = .ok (.aload_n 0, 1) := by decide +kernel
theorem xd_19_86 : decode prog_1_method_20_code 86 = .ok (.iload 7, 2) := by decide +kernel
theorem xd_19_88 : decode prog_1_method_20_code 88 = .ok (.iload 8, 2) := by decide +kernel
theorem xd_19_90 : decode prog_1_method_20_code 90 = .ok (.invokevirtual 250, 3) := by decide +kernel
theorem xd_19_93 : decode prog_1_method_20_code 93 = .ok (.istore 9, 2) := by decide +kernel
theorem xd_19_95 : decode prog_1_method_20_code 95 = .ok (.iload 9, 2) := by decide +kernel
theorem xd_19_97 : decode prog_1_method_20_code 97 = .ok (.ifCond .eq 45, 3) := by decide +kernel
theorem xd_19_100 : decode prog_1_method_20_code 100 = .ok (.iload_n 3, 1) := by decide +kernel
theorem xd_19_101 : decode prog_1_method_20_code 101 = .ok (.ifCond .ne 41, 3) := by decide +kernel
theorem xd_19_104 : decode prog_1_method_20_code 104 = .ok (.iload_n 2, 1) := by decide +kernel
theorem xd_19_105 : decode prog_1_method_20_code 105 = .ok (.iconst 1, 1) := by decide +kernel
theorem xd_19_106 : decode prog_1_method_20_code 106 = .ok (.if_icmp .ne 6, 3) := by decide +kernel
theorem xd_19_109 : decode prog_1_method_20_code 109 = .ok (.iload 9, 2) := by decide +kernel
theorem xd_19_111 : decode prog_1_method_20_code 111 = .ok (.ireturn, 1) := by decide +kernel
theorem xd_19_112 : decode prog_1_method_20_code 112 = .ok (.iload 9, 2) := by decide +kernel
theorem xd_19_114 : decode prog_1_method_20_code 114 = .ok (.iconst 1, 1) := by decide +kernel
theorem xd_19_115 : decode prog_1_method_20_code 115 = .ok (.if_icmp .ne 16, 3) := by decide +kernel
theorem xd_19_118 : decode prog_1_method_20_code 118 = .ok (.aload_n 0, 1) := by decide +kernel
theorem xd_19_119 : decode prog_1_method_20_code 119 = .ok (.getfield 39, 3) := by decide +kernel
theorem xd_19_122 : decode prog_1_method_20_code 122 = .ok (.getfield 170, 3) := by decide +kernel
theorem xd_19_125 : decode prog_1_method_20_code 125 = .ok (.iload 8, 2) := by decide +kernel
theorem xd_19_127 : decode prog_1_method_20_code 127 = .ok (.iaload, 1) := by decide +kernel
theorem xd_19_128 : decode prog_1_method_20_code 128 = .ok (.goto 13, 3) := by decide +kernel
theorem xd_19_131 : decode prog_1_method_20_code 131 = .ok (.aload_n 0, 1) := by decide +kernel
theorem xd_19_132 : decode prog_1_method_20_code 132 = .ok (.getfield 32, 3) := by decide +kernel
theorem xd_19_135 : decode prog_1_method_20_code 135 = .ok (.getfield 170, 3) := by decide +kernel
theorem xd_19_138 : decode prog_1_method_20_code 138 = .ok (.iload 7, 2) := by decide +kernel
theorem xd_19_140 : decode prog_1_method_20_code 140 = .ok (.iaload, 1) := by decide +kernel
theorem xd_19_141 : decode prog_1_method_20_code 141 = .ok (.ireturn, 1) := by decide +kernel
theorem xd_19_142 : decode prog_1_method_20_code 142 = .ok (.iload_n 3, 1) := by decide +kernel
theorem xd_19_143 : decode prog_1_method_20_code 143 = .ok (.iload 9, 2) := by decide +kernel
theorem xd_19_145 : decode prog_1_method_20_code 145 = .ok (.ifCond .eq 7, 3) := by decide +kernel
theorem xd_19_148 : decode prog_1_method_20_code 148 = .ok (.iconst 1, 1) := by decide +kernel
theorem xd_19_149 : decode prog_1_method_20_code 149 = .ok (.goto 4, 3) := by decide +kernel
theorem xd_19_152 : decode prog_1_method_20_code 152 = .ok (.iconst 0, 1) := by decide +kernel
theorem xd_19_153 : decode prog_1_method_20_code 153 = .ok (.isub, 1) := by decide +kernel
theorem xd_19_154 : decode prog_1_method_20_code 154 = .ok (.istore_n 3, 1) := by decide +kernel
theorem xd_19_155 : decode prog_1_method_20_code 155 = .ok (.iload 4, 2) := by decide +kernel
theorem xd_19_157 : decode prog_1_method_20_code 157 = .ok (.iload 9, 2) := by decide +kernel
theorem xd_19_159 : decode prog_1_method_20_code 159 = .ok (.iconst 1, 1) := by decide +kernel
theorem xd_19_160 : decode prog_1_method_20_code 160 = .ok (.if_icmp .eq 7, 3) := by decide +kernel
theorem xd_19_163 : decode prog_1_method_20_code 163 = .ok (.iconst 1, 1) := by decide +kernel
theorem xd_19_164 : decode prog_1_method_20_code 164 = .ok (.goto 4, 3) := by decide +kernel
theorem xd_19_167 : decode prog_1_method_20_code 167 = .ok (.iconst 0, 1) := by decide +kernel
theorem xd_19_168 : decode prog_1_method_20_code 168 = .ok (.iadd, 1) := by decide +kernel
theorem xd_19_169 : decode prog_1_method_20_code 169 = .ok (.istore 4, 2) := by decide +kernel
theorem xd_19_171 : decode prog_1_method_20_code 171 = .ok (.iload 5, 2) := by decide +kernel
theorem xd_19_173 : decode prog_1_method_20_code 173 = .ok (.iload 9, 2) := by decide +kernel
theorem xd_19_175 : decode prog_1_method_20_code 175 = .ok (.iconst 2, 1) := by decide +kernel
theorem xd_19_176 : decode prog_1_method_20_code 176 = .ok (.if_icmp .eq 7, 3) := by decide +kernel
theorem xd_19_179 : decode prog_1_method_20_code 179 = .ok (.iconst 1, 1) := by decide +kernel
theorem xd_19_180 : decode prog_1_method_20_code 180 = .ok (.goto 4, 3) := by decide +kernel
theorem xd_19_183 : decode prog_1_method_20_code 183 = .ok (.iconst 0, 1) := by decide +kernel
theorem xd_19_184 : decode prog_1_method_20_code 184 = .ok (.iadd, 1) := by decide +kernel
theorem xd_19_185 : decode prog_1_method_20_code 185 = .ok (.istore 5, 2) := by decide +kernel
theorem xd_19_187 : decode prog_1_method_20_code 187 = .ok (.iinc 6 1, 3) := by decide +kernel
theorem xd_19_190 : decode prog_1_method_20_code 190 = .ok (.goto (-158), 3) := by decide +kernel
theorem xd_19_193 : decode prog_1_method_20_code 193 = .ok (.iconst (-1), 1) := by decide +kernel
theorem xd_19_194 : decode prog_1_method_20_code 194 = .ok (.ireturn, 1) := by decide +kernel
theorem xd_20_0 : decode prog_1_method_21_code 0 = .ok (.iload_n 1, 1) := by decide +kernel
theorem xd_20_1 : decode prog_1_method_21_code 1 = .ok (.ifCond .lt 12, 3) := by decide +kernel
theorem xd_20_4 : decode prog_1_method_21_code 4 = .ok (.iload_n 1, 1) := by decide +kernel
theorem xd_20_5 : decode prog_1_method_21_code 5 = .ok (.iconst 3, 1) := by decide +kernel
theorem xd_20_6 : decode prog_1_method_21_code 6 = .ok (.if_icmp .gt 7, 3) := by decide +kernel
theorem xd_20_9 : decode prog_1_method_21_code 9 = .ok (.iconst 1, 1) := by decide +kernel
theorem xd_20_10 : decode prog_1_method_21_code 10 = .ok (.goto 4, 3) := by decide +kernel
theorem xd_20_13 : decode prog_1_method_21_code 13 = .ok (.iconst 0, 1) := by decide +kernel
theorem xd_20_14 : decode prog_1_method_21_code 14 = .ok (.invokestatic 166, 3) := by decide +kernel
theorem xd_20_17 : decode prog_1_method_21_code 17 = .ok (.iload_n 1, 1) := by decide +kernel
theorem xd_20_18 : decode prog_1_method_21_code 18 = .ok (.ifCond .ne 11, 3) := by decide +kernel
theorem xd_20_21 : decode prog_1_method_21_code 21 = .ok (.aload_n 0, 1) := by decide +kernel
theorem xd_20_22 : decode prog_1_method_21_code 22 = .ok (.getfield 10, 3) := by decide +kernel
theorem xd_20_25 : decode prog_1_method_21_code 25 = .ok (.getfield 94, 3) := by decide +kernel
theorem xd_20_28 : decode prog_1_method_21_code 28 = .ok (.ireturn, 1) := by decide +kernel
theorem xd_20_29 : decode prog_1_method_21_code 29 = .ok (.iload_n 1, 1) := by decide +kernel
theorem xd_20_30 : decode prog_1_method_21_code 30 = .ok (.iconst 1, 1) := by decide +kernel
theorem xd_20_31 : decode prog_1_method_21_code 31 = .ok (.if_icmp .ne 11, 3) := by decide +kernel
theorem xd_20_34 : decode prog_1_method_21_code 34 = .ok (.aload_n 0, 1) := by decide +kernel
theorem xd_20_35 : decode prog_1_method_21_code 35 = .ok (.getfield 22, 3) := by decide +kernel
theorem xd_20_38 : decode prog_1_method_21_code 38 = .ok (.getfield 134, 3) := by decide +kernel
theorem xd_20_41 : decode prog_1_method_21_code 41 = .ok (.ireturn, 1) := by decide +kernel
theorem xd_20_42 : decode prog_1_method_21_code 42 = .ok (.iload_n 1, 1) := by decide +kernel
theorem xd_20_43 : decode prog_1_method_21_code 43 = .ok (.iconst 2, 1) := by decide +kernel
theorem xd_20_44 : decode prog_1_method_21_code 44 = .ok (.if_icmp .ne 13, 3) := by decide +kernel
theorem xd_20_47 : decode prog_1_method_21_code 47 = .ok (.aload_n 0, 1) := by decide +kernel
theorem xd_20_48 : decode prog_1_method_21_code 48 = .ok (.getfield 32, 3) := by decide +kernel
theorem xd_20_51 : decode prog_1_method_21_code 51 = .ok (.getfield 147, 3) := by decide +kernel
theorem xd_20_54 : decode prog_1_method_21_code 54 = .ok (.goto 10, 3) := by decide +kernel
theorem xd_20_57 : decode prog_1_method_21_code 57 = .ok (.aload_n 0, 1) := by decide +kernel
theorem xd_20_58 : decode prog_1_method_21_code 58 = .ok (.getfield 39, 3) := by decide +kernel
theorem xd_20_61 : decode prog_1_method_21_code 61 = .ok (.getfield 147, 3) := by decide +kernel
theorem xd_20_64 : decode prog_1_method_21_code 64 = .ok (.ireturn, 1) := by decide +kernel
theorem xd_21_0 : decode prog_1_method_22_code 0 = .ok (.iload_n 0, 1) := by decide +kernel
theorem xd_21_1 : decode prog_1_method_22_code 1 = .ok (.ifCond .ne 13, 3) := by decide +kernel
theorem xd_21_4 : decode prog_1_method_22_code 4 = .ok (.new 87, 3) := by decide +kernel
theorem xd_21_7 : decode prog_1_method_22_code 7 = .ok (.dup, 1) := by decide +kernel
theorem xd_21_8 : decode prog_1_method_22_code 8 = .ok (.ldc 253, 2) := by decide +kernel
theorem xd_21_10 : decode prog_1_method_22_code 10 = .ok (.invokespecial 91, 3) := by decide +kernel
theorem xd_21_13 : decode prog_1_method_22_code 13 = .ok (.athrow, 1) := by decide +kernel
theorem xd_21_14 : decode prog_1_method_22_code 14 = .ok (.return_, 1) := by decide +kernel
theorem xd_22_0 : decode prog_1_method_23_code 0 = .ok (.aload_n 0, 1) := by decide +kernel
theorem xd_22_1 : decode prog_1_method_23_code 1 = .ok (.getfield 32, 3) := by decide +kernel
theorem xd_22_4 : decode prog_1_method_23_code 4 = .ok (.iload_n 1, 1) := by decide +kernel
theorem xd_22_5 : decode prog_1_method_23_code 5 = .ok (.invokevirtual 255, 3) := by decide +kernel
theorem xd_22_8 : decode prog_1_method_23_code 8 = .ok (.istore_n 2, 1) := by decide +kernel
theorem xd_22_9 : decode prog_1_method_23_code 9 = .ok (.iload_n 2, 1) := by decide +kernel
theorem xd_22_10 : decode prog_1_method_23_code 10 = .ok (.iconst (-1), 1) := by decide +kernel
theorem xd_22_11 : decode prog_1_method_23_code 11 = .ok (.if_icmp .eq 7, 3) := by decide +kernel
theorem xd_22_14 : decode prog_1_method_23_code 14 = .ok (.iconst 1, 1) := by decide +kernel
theorem xd_22_15 : decode prog_1_method_23_code 15 = .ok (.goto 4, 3) := by decide +kernel
theorem xd_22_18 : decode prog_1_method_23_code 18 = .ok (.iconst 0, 1) := by decide +kernel
theorem xd_22_19 : decode prog_1_method_23_code 19 = .ok (.invokestatic 166, 3) := by decide +kernel
theorem xd_22_22 : decode prog_1_method_23_code 22 = .ok (.iload_n 2, 1) := by decide +kernel
theorem xd_22_23 : decode prog_1_method_23_code 23 = .ok (.ireturn, 1) := by decide +kernel
theorem xd_23_0 : decode prog_1_method_24_code 0 = .ok (.aload_n 0, 1) := by decide +kernel
theorem xd_23_1 : decode prog_1_method_24_code 1 = .ok (.iload_n 1, 1) := by decide +kernel
theorem xd_23_2 : decode prog_1_method_24_code 2 = .ok (.invokevirtual 174, 3) := by decide +kernel
theorem xd_23_5 : decode prog_1_method_24_code 5 = .ok (.istore_n 3, 1) := by decide +kernel
theorem xd_23_6 : decode prog_1_method_24_code 6 = .ok (.iload_n 2, 1) := by decide +kernel
theorem xd_23_7 : decode prog_1_method_24_code 7 = .ok (.ifCond .lt 20, 3) := by decide +kernel
theorem xd_23_10 : decode prog_1_method_24_code 10 = .ok (.iload_n 2, 1) := by decide +kernel
theorem xd_23_11 : decode prog_1_method_24_code 11 = .ok (.aload_n 0, 1) := by decide +kernel
theorem xd_23_12 : decode prog_1_method_24_code 12 = .ok (.getfield 32, 3) := by decide +kernel
theorem xd_23_15 : decode prog_1_method_24_code 15 = .ok (.getfield 185, 3) := by decide +kernel
theorem xd_23_18 : decode prog_1_method_24_code 18 = .ok (.iload_n 3, 1) := by decide +kernel
theorem xd_23_19 : decode prog_1_method_24_code 19 = .ok (.iaload, 1) := by decide +kernel
theorem xd_23_20 : decode prog_1_method_24_code 20 = .ok (.if_icmp .ge 7, 3) := by decide +kernel
theorem xd_23_23 : decode prog_1_method_24_code 23 = .ok (.iconst 1, 1) := by decide +kernel
theorem xd_23_24 : decode prog_1_method_24_code 24 = .ok (.goto 4, 3) := by decide +kernel
theorem xd_23_27 : decode prog_1_method_24_code 27 = .ok (.iconst 0, 1) := by decide +kernel
theorem xd_23_28 : decode prog_1_method_24_code 28 = .ok (.invokestatic 166, 3) := by decide +kernel
theorem xd_23_31 : decode prog_1_method_24_code 31 = .ok (.iload_n 3, 1) := by decide +kernel
theorem xd_23_32 : decode prog_1_method_24_code 32 = .ok (.bipush 8, 2) := by decide +kernel
theorem xd_23_34 : decode prog_1_method_24_code 34 = .ok (.imul, 1) := by decide +kernel
theorem xd_23_35 : decode prog_1_method_24_code 35 = .ok (.iload_n 2, 1) := by decide +kernel
theorem xd_23_36 : decode prog_1_method_24_code 36 = .ok (.iadd, 1) := by decide +kernel
theorem xd_23_37 : decode prog_1_method_24_code 37 = .ok (.ireturn, 1) := by decide +kernel
theorem xd_24_0 : decode prog_1_method_25_code 0 = .ok (.aload_n 0, 1) := by decide +kernel
theorem xd_24_1 : decode prog_1_method_25_code 1 = .ok (.getfield 22, 3) := by decide +kernel
theorem xd_24_4 : decode prog_1_method_25_code 4 = .ok (.aload_n 0, 1) := by decide +kernel
theorem xd_24_5 : decode prog_1_method_25_code 5 = .ok (.getfield 32, 3) := by decide +kernel
theorem xd_24_8 : decode prog_1_method_25_code 8 = .ok (.getfield 177, 3) := by decide +kernel
theorem xd_24_11 : decode prog_1_method_25_code 11 = .ok (.iload_n 1, 1) := by decide +kernel
theorem xd_24_12 : decode prog_1_method_25_code 12 = .ok (.laload, 1) := by decide +kernel
theorem xd_24_13 : decode prog_1_method_25_code 13 = .ok (.invokevirtual 181, 3) := by decide +kernel
theorem xd_24_16 : decode prog_1_method_25_code 16 = .ok (.istore_n 2, 1) := by decide +kernel
theorem xd_24_17 : decode prog_1_method_25_code 17 = .ok (.iload_n 2, 1) := by decide +kernel
theorem xd_24_18 : decode prog_1_method_25_code 18 = .ok (.iconst (-1), 1) := by decide +kernel
theorem xd_24_19 : decode prog_1_method_25_code 19 = .ok (.if_icmp .ne 5, 3) := by decide +kernel
theorem xd_24_22 : decode prog_1_method_25_code 22 = .ok (.iconst 1, 1) := by decide +kernel
theorem xd_24_23 : decode prog_1_method_25_code 23 = .ok (.ireturn, 1) := by decide +kernel
theorem xd_24_24 : decode prog_1_method_25_code 24 = .ok (.aload_n 0, 1) := by decide +kernel
theorem xd_24_25 : decode prog_1_method_25_code 25 = .ok (.getfield 22, 3) := by decide +kernel
theorem xd_24_28 : decode prog_1_method_25_code 28 = .ok (.getfield 258, 3) := by decide +kernel
theorem xd_24_31 : decode prog_1_method_25_code 31 = .ok (.iload_n 2, 1) := by decide +kernel
theorem xd_24_32 : decode prog_1_method_25_code 32 = .ok (.iaload, 1) := by decide +kernel
theorem xd_24_33 : decode prog_1_method_25_code 33 = .ok (.aload_n 0, 1) := by decide +kernel
theorem xd_24_34 : decode prog_1_method_25_code 34 = .ok (.getfield 32, 3) := by decide +kernel
theorem xd_24_37 : decode prog_1_method_25_code 37 = .ok (.getfield 185, 3) := by decide +kernel
theorem xd_24_40 : decode prog_1_method_25_code 40 = .ok (.iload_n 1, 1) := by decide +kernel
theorem xd_24_41 : decode prog_1_method_25_code 41 = .ok (.iaload, 1) := by decide +kernel
theorem xd_24_42 : decode prog_1_method_25_code 42 = .ok (.if_icmp .eq 5, 3) := by decide +kernel
theorem xd_24_45 : decode prog_1_method_25_code 45 = .ok (.iconst 2, 1) := by decide +kernel
theorem xd_24_46 : decode prog_1_method_25_code 46 = .ok (.ireturn, 1) := by decide +kernel
theorem xd_24_47 : decode prog_1_method_25_code 47 = .ok (.aload_n 0, 1) := by decide +kernel
theorem xd_24_48 : decode prog_1_method_25_code 48 = .ok (.iload_n 1, 1) := by decide +kernel
theorem xd_24_49 : decode prog_1_method_25_code 49 = .ok (.iconst 3, 1) := by decide +kernel
theorem xd_24_50 : decode prog_1_method_25_code 50 = .ok (.invokevirtual 218, 3) := by decide +kernel
theorem xd_24_53 : decode prog_1_method_25_code 53 = .ok (.iconst (-1), 1) := by decide +kernel
theorem xd_24_54 : decode prog_1_method_25_code 54 = .ok (.if_icmp .ne 7, 3) := by decide +kernel
theorem xd_24_57 : decode prog_1_method_25_code 57 = .ok (.iconst 0, 1) := by decide +kernel
theorem xd_24_58 : decode prog_1_method_25_code 58 = .ok (.goto 4, 3) := by decide +kernel
theorem xd_24_61 : decode prog_1_method_25_code 61 = .ok (.iconst 3, 1) := by decide +kernel
theorem xd_24_62 : decode prog_1_method_25_code 62 = .ok (.ireturn, 1) := by decide +kernel
theorem xd_25_0 : decode prog_1_method_26_code 0 = .ok (.aload_n 0, 1) := by decide +kernel
theorem xd_25_1 : decode prog_1_method_26_code 1 = .ok (.getfield 22, 3) := by decide +kernel
theorem xd_25_4 : decode prog_1_method_26_code 4 = .ok (.aload_n 0, 1) := by decide +kernel
theorem xd_25_5 : decode prog_1_method_26_code 5 = .ok (.getfield 32, 3) := by decide +kernel
theorem xd_25_8 : decode prog_1_method_26_code 8 = .ok (.getfield 177, 3) := by decide +kernel
theorem xd_25_11 : decode prog_1_method_26_code 11 = .ok (.iload_n 1, 1) := by decide +kernel
theorem xd_25_12 : decode prog_1_method_26_code 12 = .ok (.laload, 1) := by decide +kernel
theorem xd_25_13 : decode prog_1_method_26_code 13 = .ok (.invokevirtual 181, 3) := by decide +kernel
theorem xd_25_16 : decode prog_1_method_26_code 16 = .ok (.istore_n 3, 1) := by decide +kernel
theorem xd_25_17 : decode prog_1_method_26_code 17 = .ok (.iload_n 2, 1) := by decide +kernel
theorem xd_25_18 : decode prog_1_method_26_code 18 = .ok (.iconst 3, 1) := by decide +kernel
theorem xd_25_19 : decode prog_1_method_26_code 19 = .ok (.if_icmp .ne 8, 3) := by decide +kernel
theorem xd_25_22 : decode prog_1_method_26_code 22 = .ok (.iload_n 3, 1) := by decide +kernel
theorem xd_25_23 : decode prog_1_method_26_code 23 = .ok (.iconst (-1), 1) := by decide +kernel
theorem xd_25_24 : decode prog_1_method_26_code 24 = .ok (.if_icmp .ne 5, 3) := by decide +kernel
theorem xd_25_27 : decode prog_1_method_26_code 27 = .ok (.iconst (-1), 1) := by decide +kernel
theorem xd_25_28 : decode prog_1_method_26_code 28 = .ok (.ireturn, 1) := by decide +kernel
theorem xd_25_29 : decode prog_1_method_26_code 29 = .ok (.iconst 0, 1) := by decide +kernel
theorem xd_25_30 : decode prog_1_method_26_code 30 = .ok (.istore 4, 2) := by decide +kernel
theorem xd_25_32 : decode prog_1_method_26_code 32 = .ok (.iload 4, 2) := by decide +kernel
theorem xd_25_34 : decode prog_1_method_26_code 34 = .ok (.aload_n 0, 1) := by decide +kernel
theorem xd_25_35 : decode prog_1_method_26_code 35 = .ok (.getfield 32, 3) := by decide +kernel
theorem xd_25_38 : decode prog_1_method_26_code 38 = .ok (.getfield 185, 3) := by decide +kernel
theorem xd_25_41 : decode prog_1_method_26_code 41 = .ok (.iload_n 1, 1) := by decide +kernel
theorem xd_25_42 : decode prog_1_method_26_code 42 = .ok (.iaload, 1) := by decide +kernel
theorem xd_25_43 : decode prog_1_method_26_code 43 = .ok (.if_icmp .ge 54, 3) := by decide +kernel
theorem xd_25_46 : decode prog_1_method_26_code 46 = .ok (.iload_n 1, 1) := by decide +kernel
theorem xd_25_47 : decode prog_1_method_26_code 47 = .ok (.bipush 8, 2) := by decide +kernel
theorem xd_25_49 : decode prog_1_method_26_code 49 = .ok (.imul, 1) := by decide +kernel
theorem xd_25_50 : decode prog_1_method_26_code 50 = .ok (.iload 4, 2) := by decide +kernel
theorem xd_25_52 : decode prog_1_method_26_code 52 = .ok (.iadd, 1) := by decide +kernel
theorem xd_25_53 : decode prog_1_method_26_code 53 = .ok (.istore 5, 2) := by decide +kernel
theorem xd_25_55 : decode prog_1_method_26_code 55 = .ok (.aload_n 0, 1) := by decide +kernel
theorem xd_25_56 : decode prog_1_method_26_code 56 = .ok (.getfield 22, 3) := by decide +kernel
theorem xd_25_59 : decode prog_1_method_26_code 59 = .ok (.iload_n 3, 1) := by decide +kernel
theorem xd_25_60 : decode prog_1_method_26_code 60 = .ok (.iload 4, 2) := by decide +kernel
theorem xd_25_62 : decode prog_1_method_26_code 62 = .ok (.aload_n 0, 1) := by decide +kernel
theorem xd_25_63 : decode prog_1_method_26_code 63 = .ok (.getfield 32, 3) := by decide +kernel
theorem xd_25_66 : decode prog_1_method_26_code 66 = .ok (.getfield 198, 3) := by decide +kernel
theorem xd_25_69 : decode prog_1_method_26_code 69 = .ok (.iload 5, 2) := by decide +kernel
theorem xd_25_71 : decode prog_1_method_26_code 71 = .ok (.iaload, 1) := by decide +kernel
theorem xd_25_72 : decode prog_1_method_26_code 72 = .ok (.aload_n 0, 1) := by decide +kernel
theorem xd_25_73 : decode prog_1_method_26_code 73 = .ok (.getfield 32, 3) := by decide +kernel
theorem xd_25_76 : decode prog_1_method_26_code 76 = .ok (.getfield 201, 3) := by decide +kernel
theorem xd_25_79 : decode prog_1_method_26_code 79 = .ok (.iload 5, 2) := by decide +kernel
theorem xd_25_81 : decode prog_1_method_26_code 81 = .ok (.iaload, 1) := by decide +kernel
theorem xd_25_82 : decode prog_1_method_26_code 82 = .ok (.invokevirtual 259, 3) := by decide +kernel
theorem xd_25_85 : decode prog_1_method_26_code 85 = .ok (.ifCond .ne 6, 3) := by decide +kernel
theorem xd_25_88 : decode prog_1_method_26_code 88 = .ok (.iload 4, 2) := by decide +kernel
theorem xd_25_90 : decode prog_1_method_26_code 90 = .ok (.ireturn, 1) := by decide +kernel
theorem xd_25_91 : decode prog_1_method_26_code 91 = .ok (.iinc 4 1, 3) := by decide +kernel
theorem xd_25_94 : decode prog_1_method_26_code 94 = .ok (.goto (-62), 3) := by decide +kernel
theorem xd_25_97 : decode prog_1_method_26_code 97 = .ok (.iconst (-1), 1) := by decide +kernel
theorem xd_25_98 : decode prog_1_method_26_code 98 = .ok (.ireturn, 1) := by decide +kernel
theorem xd_26_0 : decode prog_1_method_27_code 0 = .ok (.iload_n 1, 1) := by decide +kernel
theorem xd_26_1 : decode prog_1_method_27_code 1 = .ok (.iconst (-1), 1) := by decide +kernel
theorem xd_26_2 : decode prog_1_method_27_code 2 = .ok (.if_icmp .ne 5, 3) := by decide +kernel
theorem xd_26_5 : decode prog_1_method_27_code 5 = .ok (.iconst 1, 1) := by decide +kernel
theorem xd_26_6 : decode prog_1_method_27_code 6 = .ok (.ireturn, 1) := by decide +kernel
theorem xd_26_7 : decode prog_1_method_27_code 7 = .ok (.iload_n 2, 1) := by decide +kernel
theorem xd_26_8 : decode prog_1_method_27_code 8 = .ok (.iconst (-1), 1) := by decide +kernel
theorem xd_26_9 : decode prog_1_method_27_code 9 = .ok (.if_icmp .eq 24, 3) := by decide +kernel
theorem xd_26_12 : decode prog_1_method_27_code 12 = .ok (.aload_n 0, 1) := by decide +kernel
theorem xd_26_13 : decode prog_1_method_27_code 13 = .ok (.getfield 32, 3) := by decide +kernel
theorem xd_26_16 : decode prog_1_method_27_code 16 = .ok (.getfield 170, 3) := by decide +kernel
theorem xd_26_19 : decode prog_1_method_27_code 19 = .ok (.iload_n 1, 1) := by decide +kernel
theorem xd_26_20 : decode prog_1_method_27_code 20 = .ok (.iaload, 1) := by decide +kernel
theorem xd_26_21 : decode prog_1_method_27_code 21 = .ok (.aload_n 0, 1) := by decide +kernel
theorem xd_26_22 : decode prog_1_method_27_code 22 = .ok (.getfield 39, 3) := by decide +kernel
theorem xd_26_25 : decode prog_1_method_27_code 25 = .ok (.getfield 170, 3) := by decide +kernel
theorem xd_26_28 : decode prog_1_method_27_code 28 = .ok (.iload_n 2, 1) := by decide +kernel
theorem xd_26_29 : decode prog_1_method_27_code 29 = .ok (.iaload, 1) := by decide +kernel
theorem xd_26_30 : decode prog_1_method_27_code 30 = .ok (.if_icmp .ge 5, 3) := by decide +kernel
theorem xd_26_33 : decode prog_1_method_27_code 33 = .ok (.iconst 2, 1) := by decide +kernel
theorem xd_26_34 : decode prog_1_method_27_code 34 = .ok (.ireturn, 1) := by decide +kernel
theorem xd_26_35 : decode prog_1_method_27_code 35 = .ok (.aload_n 0, 1) := by decide +kernel
theorem xd_26_36 : decode prog_1_method_27_code 36 = .ok (.getfield 32, 3) := by decide +kernel
theorem xd_26_39 : decode prog_1_method_27_code 39 = .ok (.getfield 170, 3) := by decide +kernel
theorem xd_26_42 : decode prog_1_method_27_code 42 = .ok (.iload_n 1, 1) := by decide +kernel
theorem xd_26_43 : decode prog_1_method_27_code 43 = .ok (.iaload, 1) := by decide +kernel
theorem xd_26_44 : decode prog_1_method_27_code 44 = .ok (.aload_n 0, 1) := by decide +kernel
theorem xd_26_45 : decode prog_1_method_27_code 45 = .ok (.getfield 39, 3) := by decide +kernel
theorem xd_26_48 : decode prog_1_method_27_code 48 = .ok (.getfield 170, 3) := by decide +kernel
theorem xd_26_51 : decode prog_1_method_27_code 51 = .ok (.iload_n 2, 1) := by decide +kernel
theorem xd_26_52 : decode prog_1_method_27_code 52 = .ok (.iaload, 1) := by decide +kernel
theorem xd_26_53 : decode prog_1_method_27_code 53 = .ok (.if_icmp .le 5, 3) := by decide +kernel
theorem xd_26_56 : decode prog_1_method_27_code 56 = .ok (.iconst 1, 1) := by decide +kernel
theorem xd_26_57 : decode prog_1_method_27_code 57 = .ok (.ireturn, 1) := by decide +kernel
theorem xd_26_58 : decode prog_1_method_27_code 58 = .ok (.aload_n 0, 1) := by decide +kernel
theorem xd_26_59 : decode prog_1_method_27_code 59 = .ok (.getfield 32, 3) := by decide +kernel
theorem xd_26_62 : decode prog_1_method_27_code 62 = .ok (.iload_n 1, 1) := by decide +kernel
theorem xd_26_63 : decode prog_1_method_27_code 63 = .ok (.aload_n 0, 1) := by decide +kernel
theorem xd_26_64 : decode prog_1_method_27_code 64 = .ok (.getfield 39, 3) := by decide +kernel
theorem xd_26_67 : decode prog_1_method_27_code 67 = .ok (.iload_n 2, 1) := by decide +kernel
theorem xd_26_68 : decode prog_1_method_27_code 68 = .ok (.aload_n 0, 1) := by decide +kernel
theorem xd_26_69 : decode prog_1_method_27_code 69 = .ok (.getfield 56, 3) := by decide +kernel
theorem xd_26_72 : decode prog_1_method_27_code 72 = .ok (.invokevirtual 263, 3) := by decide +kernel
theorem xd_26_75 : decode prog_1_method_27_code 75 = .ok (.ifCond .eq 7, 3) := by decide +kernel
theorem xd_26_78 : decode prog_1_method_27_code 78 = .ok (.iconst 0, 1) := by decide +kernel
theorem xd_26_79 : decode prog_1_method_27_code 79 = .ok (.goto 4, 3) := by decide +kernel
theorem xd_26_82 : decode prog_1_method_27_code 82 = .ok (.iconst 3, 1) := by decide +kernel
theorem xd_26_83 : decode prog_1_method_27_code 83 = .ok (.ireturn, 1) := by decide +kernel
theorem xd_27_0 : decode prog_1_method_28_code 0 = .ok (.lload_n 0, 1) := by decide +kernel
theorem xd_27_1 : decode prog_1_method_28_code 1 = .ok (.iload_n 2, 1) := by decide +kernel
theorem xd_27_2 : decode prog_1_method_28_code 2 = .ok (.lushr, 1) := by decide +kernel
theorem xd_27_3 : decode prog_1_method_28_code 3 = .ok (.l2i, 1) := by decide +kernel
theorem xd_27_4 : decode prog_1_method_28_code 4 = .ok (.sipush 255, 3) := by decide +kernel
theorem xd_27_7 : decode prog_1_method_28_code 7 = .ok (.iand, 1) := by decide +kernel
theorem xd_27_8 : decode prog_1_method_28_code 8 = .ok (.ireturn, 1) := by decide +kernel
theorem xd_28_0 : decode prog_1_method_29_code 0 = .ok (.iload_n 0, 1) := by decide +kernel
theorem xd_28_1 : decode prog_1_method_29_code 1 = .ok (.bipush 48, 2) := by decide +kernel
theorem xd_28_3 : decode prog_1_method_29_code 3 = .ok (.if_icmp .lt 13, 3) := by decide +kernel
theorem xd_28_6 : decode prog_1_method_29_code 6 = .ok (.iload_n 0, 1) := by decide +kernel
theorem xd_28_7 : decode prog_1_method_29_code 7 = .ok (.bipush 57, 2) := by decide +kernel
theorem xd_28_9 : decode prog_1_method_29_code 9 = .ok (.if_icmp .gt 7, 3) := by decide +kernel
theorem xd_28_12 : decode prog_1_method_29_code 12 = .ok (.iconst 1, 1) := by decide +kernel
theorem xd_28_13 : decode prog_1_method_29_code 13 = .ok (.goto 4, 3) := by decide +kernel
theorem xd_28_16 : decode prog_1_method_29_code 16 = .ok (.iconst 0, 1) := by decide +kernel
theorem xd_28_17 : decode prog_1_method_29_code 17 = .ok (.ireturn, 1) := by decide +kernel
theorem xd_29_0 : decode prog_1_method_30_code 0 = .ok (.iload_n 0, 1) := by decide +kernel
theorem xd_29_1 : decode prog_1_method_30_code 1 = .ok (.bipush 65, 2) := by decide +kernel
theorem xd_29_3 : decode prog_1_method_30_code 3 = .ok (.if_icmp .lt 13, 3) := by decide +kernel
theorem xd_29_6 : decode prog_1_method_30_code 6 = .ok (.iload_n 0, 1) := by decide +kernel
theorem xd_29_7 : decode prog_1_method_30_code 7 = .ok (.bipush 90, 2) := by decide +kernel
theorem xd_29_9 : decode prog_1_method_30_code 9 = .ok (.if_icmp .gt 7, 3) := by decide +kernel
theorem xd_29_12 : decode prog_1_method_30_code 12 = .ok (.iconst 1, 1) := by decide +kernel
theorem xd_29_13 : decode prog_1_method_30_code 13 = .ok (.goto 4, 3) := by decide +kernel
theorem xd_29_16 : decode prog_1_method_30_code 16 = .ok (.iconst 0, 1) := by decide +kernel
theorem xd_29_17 : decode prog_1_method_30_code 17 = .ok (.ireturn, 1) := by decide +kernel
theorem xd_30_0 : decode prog_12_method_1_code 0 = .ok (.aload_n 0, 1) := by decide +kernel
theorem xd_30_1 : decode prog_12_method_1_code 1 = .ok (.invokespecial 1, 3) := by decide +kernel
theorem xd_30_4 : decode prog_12_method_1_code 4 = .ok (.aload_n 0, 1) := by decide +kernel
theorem xd_30_5 : decode prog_12_method_1_code 5 = .ok (.sipush 1200, 3) := by decide +kernel
theorem xd_30_8 : decode prog_12_method_1_code 8 = .ok (.newarray .int, 2) := by decide +kernel
theorem xd_30_10 : decode prog_12_method_1_code 10 = .ok (.putfield 7, 3) := by decide +kernel
theorem xd_30_13 : decode prog_12_method_1_code 13 = .ok (.aload_n 0, 1) := by decide +kernel
theorem xd_30_14 : decode prog_12_method_1_code 14 = .ok (.sipush 1200, 3) := by decide +kernel
theorem xd_30_17 : decode prog_12_method_1_code 17 = .ok (.newarray .int, 2) := by decide +kernel
theorem xd_30_19 : decode prog_12_method_1_code 19 = .ok (.putfield 13, 3) := by decide +kernel
theorem xd_30_22 : decode prog_12_method_1_code 22 = .ok (.aload_n 0, 1) := by decide +kernel
theorem xd_30_23 : decode prog_12_method_1_code 23 = .ok (.iconst 2, 1) := by decide +kernel
theorem xd_30_24 : decode prog_12_method_1_code 24 = .ok (.newarray .int, 2) := by decide +kernel
theorem xd_30_26 : decode prog_12_method_1_code 26 = .ok (.putfield 16, 3) := by decide +kernel
theorem xd_30_29 : decode prog_12_method_1_code 29 = .ok (.aload_n 0, 1) := by decide +kernel
theorem xd_30_30 : decode prog_12_method_1_code 30 = .ok (.bipush 24, 2) := by decide +kernel
theorem xd_30_32 : decode prog_12_method_1_code 32 = .ok (.newarray .int, 2) := by decide +kernel
theorem xd_30_34 : decode prog_12_method_1_code 34 = .ok (.putfield 19, 3) := by decide +kernel
theorem xd_30_37 : decode prog_12_method_1_code 37 = .ok (.aload_n 0, 1) := by decide +kernel
theorem xd_30_38 : decode prog_12_method_1_code 38 = .ok (.sipush 192, 3) := by decide +kernel
theorem xd_30_41 : decode prog_12_method_1_code 41 = .ok (.newarray .int, 2) := by decide +kernel
theorem xd_30_43 : decode prog_12_method_1_code 43 = .ok (.putfield 22, 3) := by decide +kernel
theorem xd_30_46 : decode prog_12_method_1_code 46 = .ok (.aload_n 0, 1) := by decide +kernel
theorem xd_30_47 : decode prog_12_method_1_code 47 = .ok (.bipush 24, 2) := by decide +kernel
theorem xd_30_49 : decode prog_12_method_1_code 49 = .ok (.newarray .int, 2) := by decide +kernel
theorem xd_30_51 : decode prog_12_method_1_code 51 = .ok (.putfield 25, 3) := by decide +kernel
theorem xd_30_54 : decode prog_12_method_1_code 54 = .ok (.aload_n 0, 1) := by decide +kernel
theorem xd_30_55 : decode prog_12_method_1_code 55 = .ok (.sipush 192, 3) := by decide +kernel
theorem xd_30_58 : decode prog_12_method_1_code 58 = .ok (.newarray .int, 2) := by decide +kernel
theorem xd_30_60 : decode prog_12_method_1_code 60 = .ok (.putfield 28, 3) := by decide +kernel
theorem xd_30_63 : decode prog_12_method_1_code 63 = .ok (.aload_n 0, 1) := by decide +kernel
theorem xd_30_64 : decode prog_12_method_1_code 64 = .ok (.sipush 192, 3) := by decide +kernel
theorem xd_30_67 : decode prog_12_method_1_code 67 = .ok (.newarray .boolean, 2) := by decide +kernel
theorem xd_30_69 : decode prog_12_method_1_code 69 = .ok (.putfield 31, 3) := by decide +kernel
theorem xd_30_72 : decode prog_12_method_1_code 72 = .ok (.aload_n 0, 1) := by decide +kernel
theorem xd_30_73 : decode prog_12_method_1_code 73 = .ok (.iconst 3, 1) := by decide +kernel
theorem xd_30_74 : decode prog_12_method_1_code 74 = .ok (.newarray .int, 2) := by decide +kernel
theorem xd_30_76 : decode prog_12_method_1_code 76 = .ok (.putfield 35, 3) := by decide +kernel
theorem xd_30_79 : decode prog_12_method_1_code 79 = .ok (.aload_n 0, 1) := by decide +kernel
theorem xd_30_80 : decode prog_12_method_1_code 80 = .ok (.bipush 120, 2) := by decide +kernel
theorem xd_30_82 : decode prog_12_method_1_code 82 = .ok (.newarray .int, 2) := by decide +kernel
theorem xd_30_84 : decode prog_12_method_1_code 84 = .ok (.putfield 38, 3) := by decide +kernel
theorem xd_30_87 : decode prog_12_method_1_code 87 = .ok (.aload_n 0, 1) := by decide +kernel
theorem xd_30_88 : decode prog_12_method_1_code 88 = .ok (.bipush 120, 2) := by decide +kernel
theorem xd_30_90 : decode prog_12_method_1_code 90 = .ok (.newarray .int, 2) := by decide +kernel
theorem xd_30_92 : decode prog_12_method_1_code 92 = .ok (.putfield 41, 3) := by decide +kernel
theorem xd_30_95 : decode prog_12_method_1_code 95 = .ok (.aload_n 0, 1) := by decide +kernel
theorem xd_30_96 : decode prog_12_method_1_code 96 = .ok (.sipush 960, 3) := by decide +kernel
theorem xd_30_99 : decode prog_12_method_1_code 99 = .ok (.newarray .int, 2) := by decide +kernel
theorem xd_30_101 : decode prog_12_method_1_code 101 = .ok (.putfield 44, 3) := by decide +kernel
theorem xd_30_104 : decode prog_12_method_1_code 104 = .ok (.aload_n 0, 1) := by decide +kernel
theorem xd_30_105 : decode prog_12_method_1_code 105 = .ok (.bipush 120, 2) := by decide +kernel
theorem xd_30_107 : decode prog_12_method_1_code 107 = .ok (.newarray .int, 2) := by decide +kernel
theorem xd_30_109 : decode prog_12_method_1_code 109 = .ok (.putfield 47, 3) := by decide +kernel
theorem xd_30_112 : decode prog_12_method_1_code 112 = .ok (.aload_n 0, 1) := by decide +kernel
theorem xd_30_113 : decode prog_12_method_1_code 113 = .ok (.sipush 960, 3) := by decide +kernel
theorem xd_30_116 : decode prog_12_method_1_code 116 = .ok (.newarray .int, 2) := by decide +kernel
theorem xd_30_118 : decode prog_12_method_1_code 118 = .ok (.putfield 50, 3) := by decide +kernel
theorem xd_30_121 : decode prog_12_method_1_code 121 = .ok (.aload_n 0, 1) := by decide +kernel
theorem xd_30_122 : decode prog_12_method_1_code 122 = .ok (.sipush 960, 3) := by decide +kernel
theorem xd_30_125 : decode prog_12_method_1_code 125 = .ok (.newarray .int, 2) := by decide +kernel
theorem xd_30_127 : decode prog_12_method_1_code 127 = .ok (.putfield 53, 3) := by decide +kernel
theorem xd_30_130 : decode prog_12_method_1_code 130 = .ok (.aload_n 0, 1) := by decide +kernel
theorem xd_30_131 : decode prog_12_method_1_code 131 = .ok (.sipush 19200, 3) := by decide +kernel
theorem xd_30_134 : decode prog_12_method_1_code 134 = .ok (.newarray .int, 2) := by decide +kernel
theorem xd_30_136 : decode prog_12_method_1_code 136 = .ok (.putfield 56, 3) := by decide +kernel
theorem xd_30_139 : decode prog_12_method_1_code 139 = .ok (.aload_n 0, 1) := by decide +kernel
theorem xd_30_140 : decode prog_12_method_1_code 140 = .ok (.bipush 40, 2) := by decide +kernel
theorem xd_30_142 : decode prog_12_method_1_code 142 = .ok (.newarray .int, 2) := by decide +kernel
theorem xd_30_144 : decode prog_12_method_1_code 144 = .ok (.putfield 59, 3) := by decide +kernel
theorem xd_30_147 : decode prog_12_method_1_code 147 = .ok (.aload_n 0, 1) := by decide +kernel
theorem xd_30_148 : decode prog_12_method_1_code 148 = .ok (.bipush 40, 2) := by decide +kernel
theorem xd_30_150 : decode prog_12_method_1_code 150 = .ok (.newarray .int, 2) := by decide +kernel
theorem xd_30_152 : decode prog_12_method_1_code 152 = .ok (.putfield 62, 3) := by decide +kernel
theorem xd_30_155 : decode prog_12_method_1_code 155 = .ok (.aload_n 0, 1) := by decide +kernel
theorem xd_30_156 : decode prog_12_method_1_code 156 = .ok (.bipush 40, 2) := by decide +kernel
theorem xd_30_158 : decode prog_12_method_1_code 158 = .ok (.newarray .long, 2) := by decide +kernel
theorem xd_30_160 : decode prog_12_method_1_code 160 = .ok (.putfield 65, 3) := by decide +kernel
theorem xd_30_163 : decode prog_12_method_1_code 163 = .ok (.return_, 1) := by decide +kernel
theorem xd_31_0 : decode prog_12_method_2_code 0 = .ok (.aload_n 0, 1) := by decide +kernel
theorem xd_31_1 : decode prog_12_method_2_code 1 = .ok (.getfield 69, 3) := by decide +kernel
theorem xd_31_4 : decode prog_12_method_2_code 4 = .ok (.ireturn, 1) := by decide +kernel
theorem xd_32_0 : decode prog_12_method_3_code 0 = .ok (.aload_n 0, 1) := by decide +kernel
theorem xd_32_1 : decode prog_12_method_3_code 1 = .ok (.getfield 69, 3) := by decide +kernel
theorem xd_32_4 : decode prog_12_method_3_code 4 = .ok (.ifCond .ne 12, 3) := by decide +kernel
theorem xd_32_7 : decode prog_12_method_3_code 7 = .ok (.iload_n 1, 1) := by decide +kernel
theorem xd_32_8 : decode prog_12_method_3_code 8 = .ok (.ifCond .eq 8, 3) := by decide +kernel
theorem xd_32_11 : decode prog_12_method_3_code 11 = .ok (.aload_n 0, 1) := by decide +kernel
theorem xd_32_12 : decode prog_12_method_3_code 12 = .ok (.iload_n 2, 1) := by decide +kernel
theorem xd_32_13 : decode prog_12_method_3_code 13 = .ok (.putfield 69, 3) := by decide +kernel
theorem xd_32_16 : decode prog_12_method_3_code 16 = .ok (.aload_n 0, 1) := by decide +kernel
theorem xd_32_17 : decode prog_12_method_3_code 17 = .ok (.getfield 69, 3) := by decide +kernel
theorem xd_32_20 : decode prog_12_method_3_code 20 = .ok (.ifCond .le 7, 3) := by decide +kernel
theorem xd_32_23 : decode prog_12_method_3_code 23 = .ok (.iconst 1, 1) := by decide +kernel
theorem xd_32_24 : decode prog_12_method_3_code 24 = .ok (.goto 4, 3) := by decide +kernel
theorem xd_32_27 : decode prog_12_method_3_code 27 = .ok (.iconst 0, 1) := by decide +kernel
theorem xd_32_28 : decode prog_12_method_3_code 28 = .ok (.ireturn, 1) := by decide +kernel
theorem xd_33_0 : decode prog_12_method_4_code 0 = .ok (.aload_n 0, 1) := by decide +kernel
theorem xd_33_1 : decode prog_12_method_4_code 1 = .ok (.iconst 0, 1) := by decide +kernel
theorem xd_33_2 : decode prog_12_method_4_code 2 = .ok (.putfield 69, 3) := by decide +kernel
theorem xd_33_5 : decode prog_12_method_4_code 5 = .ok (.iconst 0, 1) := by decide +kernel
theorem xd_33_6 : decode prog_12_method_4_code 6 = .ok (.istore_n 3, 1) := by decide +kernel
theorem xd_33_7 : decode prog_12_method_4_code 7 = .ok (.iconst 1, 1) := by decide +kernel
theorem xd_33_8 : decode prog_12_method_4_code 8 = .ok (.istore 4, 2) := by decide +kernel
theorem xd_33_10 : decode prog_12_method_4_code 10 = .ok (.bipush 56, 2) := by decide +kernel
theorem xd_33_12 : decode prog_12_method_4_code 12 = .ok (.istore 5, 2) := by decide +kernel
theorem xd_33_14 : decode prog_12_method_4_code 14 = .ok (.iload 5, 2) := by decide +kernel
theorem xd_33_16 : decode prog_12_method_4_code 16 = .ok (.ifCond .lt 64, 3) := by decide +kernel
theorem xd_33_19 : decode prog_12_method_4_code 19 = .ok (.lload_n 1, 1) := by decide +kernel
theorem xd_33_20 : decode prog_12_method_4_code 20 = .ok (.iload 5, 2) := by decide +kernel
theorem xd_33_22 : decode prog_12_method_4_code 22 = .ok (.lshr, 1) := by decide +kernel
theorem xd_33_23 : decode prog_12_method_4_code 23 = .ok (.ldc2_w 73, 3) := by decide +kernel
theorem xd_33_26 : decode prog_12_method_4_code 26 = .ok (.land, 1) := by decide +kernel
theorem xd_33_27 : decode prog_12_method_4_code 27 = .ok (.l2i, 1) := by decide +kernel
theorem xd_33_28 : decode prog_12_method_4_code 28 = .ok (.istore 6, 2) := by decide +kernel
theorem xd_33_30 : decode prog_12_method_4_code 30 = .ok (.iload 4, 2) := by decide +kernel
theorem xd_33_32 : decode prog_12_method_4_code 32 = .ok (.ifCond .eq 26, 3) := by decide +kernel
theorem xd_33_35 : decode prog_12_method_4_code 35 = .ok (.iload 6, 2) := by decide +kernel
theorem xd_33_37 : decode prog_12_method_4_code 37 = .ok (.ifCond .eq 17, 3) := by decide +kernel
theorem xd_33_40 : decode prog_12_method_4_code 40 = .ok (.iload 6, 2) := by decide +kernel
theorem xd_33_42 : decode prog_12_method_4_code 42 = .ok (.bipush 32, 2) := by decide +kernel
theorem xd_33_44 : decode prog_12_method_4_code 44 = .ok (.if_icmp .lt 14, 3) := by decide +kernel
theorem xd_33_47 : decode prog_12_method_4_code 47 = .ok (.iload 6, 2) := by decide +kernel
theorem xd_33_49 : decode prog_12_method_4_code 49 = .ok (.bipush 126, 2) := by decide +kernel
theorem xd_33_51 : decode prog_12_method_4_code 51 = .ok (.if_icmp .gt 7, 3) := by decide +kernel
theorem xd_33_54 : decode prog_12_method_4_code 54 = .ok (.iconst 1, 1) := by decide +kernel
theorem xd_33_55 : decode prog_12_method_4_code 55 = .ok (.goto 4, 3) := by decide +kernel
theorem xd_33_58 : decode prog_12_method_4_code 58 = .ok (.iconst 0, 1) := by decide +kernel
theorem xd_33_59 : decode prog_12_method_4_code 59 = .ok (.istore 4, 2) := by decide +kernel
theorem xd_33_61 : decode prog_12_method_4_code 61 = .ok (.iload_n 3, 1) := by decide +kernel
theorem xd_33_62 : decode prog_12_method_4_code 62 = .ok (.iload 6, 2) := by decide +kernel
theorem xd_33_64 : decode prog_12_method_4_code 64 = .ok (.ifCond .ne 7, 3) := by decide +kernel
theorem xd_33_67 : decode prog_12_method_4_code 67 = .ok (.iconst 0, 1) := by decide +kernel
theorem xd_33_68 : decode prog_12_method_4_code 68 = .ok (.goto 4, 3) := by decide +kernel
theorem xd_33_71 : decode prog_12_method_4_code 71 = .ok (.iconst 1, 1) := by decide +kernel
theorem xd_33_72 : decode prog_12_method_4_code 72 = .ok (.iadd, 1) := by decide +kernel
theorem xd_33_73 : decode prog_12_method_4_code 73 = .ok (.istore_n 3, 1) := by decide +kernel
theorem xd_33_74 : decode prog_12_method_4_code 74 = .ok (.iinc 5 (-8), 3) := by decide +kernel
theorem xd_33_77 : decode prog_12_method_4_code 77 = .ok (.goto (-63), 3) := by decide +kernel
theorem xd_33_80 : decode prog_12_method_4_code 80 = .ok (.aload_n 0, 1) := by decide +kernel
theorem xd_33_81 : decode prog_12_method_4_code 81 = .ok (.iload 4, 2) := by decide +kernel
theorem xd_33_83 : decode prog_12_method_4_code 83 = .ok (.ifCond .ne 7, 3) := by decide +kernel
theorem xd_33_86 : decode prog_12_method_4_code 86 = .ok (.iconst 1, 1) := by decide +kernel
theorem xd_33_87 : decode prog_12_method_4_code 87 = .ok (.goto 4, 3) := by decide +kernel
theorem xd_33_90 : decode prog_12_method_4_code 90 = .ok (.iconst 0, 1) := by decide +kernel
theorem xd_33_91 : decode prog_12_method_4_code 91 = .ok (.iconst 1, 1) := by decide +kernel
theorem xd_33_92 : decode prog_12_method_4_code 92 = .ok (.invokevirtual 75, 3) := by decide +kernel
theorem xd_33_95 : decode prog_12_method_4_code 95 = .ok (.ifCond .ne 28, 3) := by decide +kernel
theorem xd_33_98 : decode prog_12_method_4_code 98 = .ok (.aload_n 0, 1) := by decide +kernel
theorem xd_33_99 : decode prog_12_method_4_code 99 = .ok (.aload_n 0, 1) := by decide +kernel
theorem xd_33_100 : decode prog_12_method_4_code 100 = .ok (.getfield 79, 3) := by decide +kernel
theorem xd_33_103 : decode prog_12_method_4_code 103 = .ok (.iload_n 3, 1) := by decide +kernel
theorem xd_33_104 : decode prog_12_method_4_code 104 = .ok (.iadd, 1) := by decide +kernel
theorem xd_33_105 : decode prog_12_method_4_code 105 = .ok (.sipush 1200, 3) := by decide +kernel
theorem xd_33_108 : decode prog_12_method_4_code 108 = .ok (.if_icmp .le 7, 3) := by decide +kernel
theorem xd_33_111 : decode prog_12_method_4_code 111 = .ok (.iconst 1, 1) := by decide +kernel
theorem xd_33_112 : decode prog_12_method_4_code 112 = .ok (.goto 4, 3) := by decide +kernel
theorem xd_33_115 : decode prog_12_method_4_code 115 = .ok (.iconst 0, 1) := by decide +kernel
theorem xd_33_116 : decode prog_12_method_4_code 116 = .ok (.iconst 2, 1) := by decide +kernel
theorem xd_33_117 : decode prog_12_method_4_code 117 = .ok (.invokevirtual 75, 3) := by decide +kernel
theorem xd_33_120 : decode prog_12_method_4_code 120 = .ok (.ifCond .eq 5, 3) := by decide +kernel
theorem xd_33_123 : decode prog_12_method_4_code 123 = .ok (.iconst 0, 1) := by decide +kernel
theorem xd_33_124 : decode prog_12_method_4_code 124 = .ok (.ireturn, 1) := by decide +kernel
theorem xd_33_125 : decode prog_12_method_4_code 125 = .ok (.bipush 56, 2) := by decide +kernel
theorem xd_33_127 : decode prog_12_method_4_code 127 = .ok (.istore 5, 2) := by decide +kernel
theorem xd_33_129 : decode prog_12_method_4_code 129 = .ok (.iload 5, 2) := by decide +kernel
theorem xd_33_131 : decode prog_12_method_4_code 131 = .ok (.ifCond .lt 46, 3) := by decide +kernel
theorem xd_33_134 : decode prog_12_method_4_code 134 = .ok (.lload_n 1, 1) := by decide +kernel
theorem xd_33_135 : decode prog_12_method_4_code 135 = .ok (.iload 5, 2) := by decide +kernel
theorem xd_33_137 : decode prog_12_method_4_code 137 = .ok (.lshr, 1) := by decide +kernel
theorem xd_33_138 : decode prog_12_method_4_code 138 = .ok (.ldc2_w 73, 3) := by decide +kernel
theorem xd_33_141 : decode prog_12_method_4_code 141 = .ok (.land, 1) := by decide +kernel
theorem xd_33_142 : decode prog_12_method_4_code 142 = .ok (.l2i, 1) := by decide +kernel
theorem xd_33_143 : decode prog_12_method_4_code 143 = .ok (.istore 6, 2) := by decide +kernel
theorem xd_33_145 : decode prog_12_method_4_code 145 = .ok (.iload 6, 2) := by decide +kernel
theorem xd_33_147 : decode prog_12_method_4_code 147 = .ok (.ifCond .le 24, 3) := by decide +kernel
theorem xd_33_150 : decode prog_12_method_4_code 150 = .ok (.aload_n 0, 1) := by decide +kernel
theorem xd_33_151 : decode prog_12_method_4_code 151 = .ok (.getfield 7, 3) := by decide +kernel
theorem xd_33_154 : decode prog_12_method_4_code 154 = .ok (.aload_n 0, 1) := by decide +kernel
theorem xd_33_155 : decode prog_12_method_4_code 155 = .ok (.getfield 79, 3) := by decide +kernel
theorem xd_33_158 : decode prog_12_method_4_code 158 = .ok (.iload 6, 2) := by decide +kernel
theorem xd_33_160 : decode prog_12_method_4_code 160 = .ok (.iastore, 1) := by decide +kernel
theorem xd_33_161 : decode prog_12_method_4_code 161 = .ok (.aload_n 0, 1) := by decide +kernel
theorem xd_33_162 : decode prog_12_method_4_code 162 = .ok (.dup, 1) := by decide +kernel
theorem xd_33_163 : decode prog_12_method_4_code 163 = .ok (.getfield 79, 3) := by decide +kernel
theorem xd_33_166 : decode prog_12_method_4_code 166 = .ok (.iconst 1, 1) := by decide +kernel
theorem xd_33_167 : decode prog_12_method_4_code 167 = .ok (.iadd, 1) := by decide +kernel
theorem xd_33_168 : decode prog_12_method_4_code 168 = .ok (.putfield 79, 3) := by decide +kernel
theorem xd_33_171 : decode prog_12_method_4_code 171 = .ok (.iinc 5 (-8), 3) := by decide +kernel
theorem xd_33_174 : decode prog_12_method_4_code 174 = .ok (.goto (-45), 3) := by decide +kernel
theorem xd_33_177 : decode prog_12_method_4_code 177 = .ok (.aload_n 0, 1) := by decide +kernel
theorem xd_33_178 : decode prog_12_method_4_code 178 = .ok (.getfield 79, 3) := by decide +kernel
theorem xd_33_181 : decode prog_12_method_4_code 181 = .ok (.ireturn, 1) := by decide +kernel
theorem xd_34_0 : decode prog_12_method_5_code 0 = .ok (.aload_n 0, 1) := by decide +kernel
theorem xd_34_1 : decode prog_12_method_5_code 1 = .ok (.iconst 0, 1) := by decide +kernel
theorem xd_34_2 : decode prog_12_method_5_code 2 = .ok (.putfield 69, 3) := by decide +kernel
theorem xd_34_5 : decode prog_12_method_5_code 5 = .ok (.aload_n 0, 1) := by decide +kernel
theorem xd_34_6 : decode prog_12_method_5_code 6 = .ok (.iload_n 1, 1) := by decide +kernel
theorem xd_34_7 : decode prog_12_method_5_code 7 = .ok (.ifCond .lt 11, 3) := by decide +kernel
theorem xd_34_10 : decode prog_12_method_5_code 10 = .ok (.iload_n 1, 1) := by decide +kernel
theorem xd_34_11 : decode prog_12_method_5_code 11 = .ok (.aload_n 0, 1) := by decide +kernel
theorem xd_34_12 : decode prog_12_method_5_code 12 = .ok (.getfield 79, 3) := by decide +kernel
theorem xd_34_15 : decode prog_12_method_5_code 15 = .ok (.if_icmp .le 7, 3) := by decide +kernel
theorem xd_34_18 : decode prog_12_method_5_code 18 = .ok (.iconst 1, 1) := by decide +kernel
theorem xd_34_19 : decode prog_12_method_5_code 19 = .ok (.goto 4, 3) := by decide +kernel
theorem xd_34_22 : decode prog_12_method_5_code 22 = .ok (.iconst 0, 1) := by decide +kernel
theorem xd_34_23 : decode prog_12_method_5_code 23 = .ok (.iconst 1, 1) := by decide +kernel
theorem xd_34_24 : decode prog_12_method_5_code 24 = .ok (.invokevirtual 75, 3) := by decide +kernel
theorem xd_34_27 : decode prog_12_method_5_code 27 = .ok (.ifCond .eq 5, 3) := by decide +kernel
theorem xd_34_30 : decode prog_12_method_5_code 30 = .ok (.iconst 0, 1) := by decide +kernel
theorem xd_34_31 : decode prog_12_method_5_code 31 = .ok (.ireturn, 1) := by decide +kernel
theorem xd_34_32 : decode prog_12_method_5_code 32 = .ok (.aload_n 0, 1) := by decide +kernel
theorem xd_34_33 : decode prog_12_method_5_code 33 = .ok (.dup, 1) := by decide +kernel
theorem xd_34_34 : decode prog_12_method_5_code 34 = .ok (.getfield 79, 3) := by decide +kernel
theorem xd_34_37 : decode prog_12_method_5_code 37 = .ok (.iload_n 1, 1) := by decide +kernel
theorem xd_34_38 : decode prog_12_method_5_code 38 = .ok (.isub, 1) := by decide +kernel
theorem xd_34_39 : decode prog_12_method_5_code 39 = .ok (.putfield 79, 3) := by decide +kernel
theorem xd_34_42 : decode prog_12_method_5_code 42 = .ok (.aload_n 0, 1) := by decide +kernel
theorem xd_34_43 : decode prog_12_method_5_code 43 = .ok (.getfield 79, 3) := by decide +kernel
theorem xd_34_46 : decode prog_12_method_5_code 46 = .ok (.ireturn, 1) := by decide +kernel
theorem xd_35_0 : decode prog_12_method_6_code 0 = .ok (.aload_n 0, 1) := by decide +kernel
theorem xd_35_1 : decode prog_12_method_6_code 1 = .ok (.iconst 0, 1) := by decide +kernel
theorem xd_35_2 : decode prog_12_method_6_code 2 = .ok (.putfield 69, 3) := by decide +kernel
theorem xd_35_5 : decode prog_12_method_6_code 5 = .ok (.aload_n 0, 1) := by decide +kernel
theorem xd_35_6 : decode prog_12_method_6_code 6 = .ok (.iload_n 1, 1) := by decide +kernel
theorem xd_35_7 : decode prog_12_method_6_code 7 = .ok (.ifCond .lt 11, 3) := by decide +kernel
theorem xd_35_10 : decode prog_12_method_6_code 10 = .ok (.iload_n 1, 1) := by decide +kernel
theorem xd_35_11 : decode prog_12_method_6_code 11 = .ok (.aload_n 0, 1) := by decide +kernel
theorem xd_35_12 : decode prog_12_method_6_code 12 = .ok (.getfield 79, 3) := by decide +kernel
theorem xd_35_15 : decode prog_12_method_6_code 15 = .ok (.if_icmp .lt 7, 3) := by decide +kernel
theorem xd_35_18 : decode prog_12_method_6_code 18 = .ok (.iconst 1, 1) := by decide +kernel
theorem xd_35_19 : decode prog_12_method_6_code 19 = .ok (.goto 4, 3) := by decide +kernel
theorem xd_35_22 : decode prog_12_method_6_code 22 = .ok (.iconst 0, 1) := by decide +kernel
theorem xd_35_23 : decode prog_12_method_6_code 23 = .ok (.iconst 1, 1) := by decide +kernel
theorem xd_35_24 : decode prog_12_method_6_code 24 = .ok (.invokevirtual 75, 3) := by decide +kernel
theorem xd_35_27 : decode prog_12_method_6_code 27 = .ok (.ifCond .eq 7, 3) := by decide +kernel
theorem xd_35_30 : decode prog_12_method_6_code 30 = .ok (.iconst 0, 1) := by decide +kernel
theorem xd_35_31 : decode prog_12_method_6_code 31 = .ok (.goto 9, 3) := by decide +kernel
theorem xd_35_34 : decode prog_12_method_6_code 34 = .ok (.aload_n 0, 1) := by decide +kernel
theorem xd_35_35 : decode prog_12_method_6_code 35 = .ok (.getfield 7, 3) := by decide +kernel
theorem xd_35_38 : decode prog_12_method_6_code 38 = .ok (.iload_n 1, 1) := by decide +kernel
theorem xd_35_39 : decode prog_12_method_6_code 39 = .ok (.iaload, 1) := by decide +kernel
theorem xd_35_40 : decode prog_12_method_6_code 40 = .ok (.ireturn, 1) := by decide +kernel
theorem xd_36_0 : decode prog_12_method_7_code 0 = .ok (.aload_n 0, 1) := by decide +kernel
theorem xd_36_1 : decode prog_12_method_7_code 1 = .ok (.getfield 82, 3) := by decide +kernel
theorem xd_36_4 : decode prog_12_method_7_code 4 = .ok (.aload_n 0, 1) := by decide +kernel
theorem xd_36_5 : decode prog_12_method_7_code 5 = .ok (.getfield 79, 3) := by decide +kernel
theorem xd_36_8 : decode prog_12_method_7_code 8 = .ok (.if_icmp .ge 30, 3) := by decide +kernel
theorem xd_36_11 : decode prog_12_method_7_code 11 = .ok (.aload_n 0, 1) := by decide +kernel
theorem xd_36_12 : decode prog_12_method_7_code 12 = .ok (.getfield 7, 3) := by decide +kernel
theorem xd_36_15 : decode prog_12_method_7_code 15 = .ok (.aload_n 0, 1) := by decide +kernel
theorem xd_36_16 : decode prog_12_method_7_code 16 = .ok (.getfield 82, 3) := by decide +kernel
theorem xd_36_19 : decode prog_12_method_7_code 19 = .ok (.iaload, 1) := by decide +kernel
theorem xd_36_20 : decode prog_12_method_7_code 20 = .ok (.bipush 32, 2) := by decide +kernel
theorem xd_36_22 : decode prog_12_method_7_code 22 = .ok (.if_icmp .ne 16, 3) := by decide +kernel
theorem xd_36_25 : decode prog_12_method_7_code 25 = .ok (.aload_n 0, 1) := by decide +kernel
theorem xd_36_26 : decode prog_12_method_7_code 26 = .ok (.dup, 1) := by decide +kernel
theorem xd_36_27 : decode prog_12_method_7_code 27 = .ok (.getfield 82, 3) := by decide +kernel
theorem xd_36_30 : decode prog_12_method_7_code 30 = .ok (.iconst 1, 1) := by decide +kernel
theorem xd_36_31 : decode prog_12_method_7_code 31 = .ok (.iadd, 1) := by decide +kernel
theorem xd_36_32 : decode prog_12_method_7_code 32 = .ok (.putfield 82, 3) := by decide +kernel
theorem xd_36_35 : decode prog_12_method_7_code 35 = .ok (.goto (-35), 3) := by decide +kernel
theorem xd_36_38 : decode prog_12_method_7_code 38 = .ok (.aload_n 0, 1) := by decide +kernel
theorem xd_36_39 : decode prog_12_method_7_code 39 = .ok (.getfield 82, 3) := by decide +kernel
theorem xd_36_42 : decode prog_12_method_7_code 42 = .ok (.aload_n 0, 1) := by decide +kernel
theorem xd_36_43 : decode prog_12_method_7_code 43 = .ok (.getfield 79, 3) := by decide +kernel
theorem xd_36_46 : decode prog_12_method_7_code 46 = .ok (.if_icmp .ge 15, 3) := by decide +kernel
theorem xd_36_49 : decode prog_12_method_7_code 49 = .ok (.aload_n 0, 1) := by decide +kernel
theorem xd_36_50 : decode prog_12_method_7_code 50 = .ok (.getfield 7, 3) := by decide +kernel
theorem xd_36_53 : decode prog_12_method_7_code 53 = .ok (.aload_n 0, 1) := by decide +kernel
theorem xd_36_54 : decode prog_12_method_7_code 54 = .ok (.getfield 82, 3) := by decide +kernel
theorem xd_36_57 : decode prog_12_method_7_code 57 = .ok (.iaload, 1) := by decide +kernel
theorem xd_36_58 : decode prog_12_method_7_code 58 = .ok (.goto 4, 3) := by decide +kernel
theorem xd_36_61 : decode prog_12_method_7_code 61 = .ok (.iconst 0, 1) := by decide +kernel
theorem xd_36_62 : decode prog_12_method_7_code 62 = .ok (.ireturn, 1) := by decide +kernel
theorem xd_37_0 : decode prog_12_method_8_code 0 = .ok (.iload_n 0, 1) := by decide +kernel
theorem xd_37_1 : decode prog_12_method_8_code 1 = .ok (.bipush 48, 2) := by decide +kernel
theorem xd_37_3 : decode prog_12_method_8_code 3 = .ok (.if_icmp .lt 13, 3) := by decide +kernel
theorem xd_37_6 : decode prog_12_method_8_code 6 = .ok (.iload_n 0, 1) := by decide +kernel
theorem xd_37_7 : decode prog_12_method_8_code 7 = .ok (.bipush 57, 2) := by decide +kernel
theorem xd_37_9 : decode prog_12_method_8_code 9 = .ok (.if_icmp .gt 7, 3) := by decide +kernel
theorem xd_37_12 : decode prog_12_method_8_code 12 = .ok (.iconst 1, 1) := by decide +kernel
theorem xd_37_13 : decode prog_12_method_8_code 13 = .ok (.goto 4, 3) := by decide +kernel
theorem xd_37_16 : decode prog_12_method_8_code 16 = .ok (.iconst 0, 1) := by decide +kernel
theorem xd_37_17 : decode prog_12_method_8_code 17 = .ok (.ireturn, 1) := by decide +kernel
theorem xd_38_0 : decode prog_12_method_9_code 0 = .ok (.iload_n 0, 1) := by decide +kernel
theorem xd_38_1 : decode prog_12_method_9_code 1 = .ok (.bipush 65, 2) := by decide +kernel
theorem xd_38_3 : decode prog_12_method_9_code 3 = .ok (.if_icmp .lt 13, 3) := by decide +kernel
theorem xd_38_6 : decode prog_12_method_9_code 6 = .ok (.iload_n 0, 1) := by decide +kernel
theorem xd_38_7 : decode prog_12_method_9_code 7 = .ok (.bipush 90, 2) := by decide +kernel
theorem xd_38_9 : decode prog_12_method_9_code 9 = .ok (.if_icmp .gt 7, 3) := by decide +kernel
theorem xd_38_12 : decode prog_12_method_9_code 12 = .ok (.iconst 1, 1) := by decide +kernel
theorem xd_38_13 : decode prog_12_method_9_code 13 = .ok (.goto 4, 3) := by decide +kernel
theorem xd_38_16 : decode prog_12_method_9_code 16 = .ok (.iconst 0, 1) := by decide +kernel
theorem xd_38_17 : decode prog_12_method_9_code 17 = .ok (.ireturn, 1) := by decide +kernel
theorem xd_39_0 : decode prog_12_method_10_code 0 = .ok (.aload_n 0, 1) := by decide +kernel
theorem xd_39_1 : decode prog_12_method_10_code 1 = .ok (.getfield 85, 3) := by decide +kernel
theorem xd_39_4 : decode prog_12_method_10_code 4 = .ok (.iconst (-1), 1) := by decide +kernel
theorem xd_39_5 : decode prog_12_method_10_code 5 = .ok (.if_icmp .ne 8, 3) := by decide +kernel
theorem xd_39_8 : decode prog_12_method_10_code 8 = .ok (.aload_n 0, 1) := by decide +kernel
theorem xd_39_9 : decode prog_12_method_10_code 9 = .ok (.iload_n 1, 1) := by decide +kernel
theorem xd_39_10 : decode prog_12_method_10_code 10 = .ok (.putfield 85, 3) := by decide +kernel
theorem xd_39_13 : decode prog_12_method_10_code 13 = .ok (.return_, 1) := by decide +kernel
theorem xd_40_0 : decode prog_12_method_11_code 0 = .ok (.aload_n 0, 1) := by decide +kernel
theorem xd_40_1 : decode prog_12_method_11_code 1 = .ok (.getfield 85, 3) := by decide +kernel
theorem xd_40_4 : decode prog_12_method_11_code 4 = .ok (.iconst (-1), 1) := by decide +kernel
theorem xd_40_5 : decode prog_12_method_11_code 5 = .ok (.if_icmp .eq 4, 3) := by decide +kernel
theorem xd_40_8 : decode prog_12_method_11_code 8 = .ok (.return_, 1) := by decide +kernel
theorem xd_40_9 : decode prog_12_method_11_code 9 = .ok (.aload_n 0, 1) := by decide +kernel
theorem xd_40_10 : decode prog_12_method_11_code 10 = .ok (.invokevirtual 88, 3) := by decide +kernel
theorem xd_40_13 : decode prog_12_method_11_code 13 = .ok (.iload_n 1, 1) := by decide +kernel
theorem xd_40_14 : decode prog_12_method_11_code 14 = .ok (.if_icmp .ne 16, 3) := by decide +kernel
theorem xd_40_17 : decode prog_12_method_11_code 17 = .ok (.aload_n 0, 1) := by decide +kernel
theorem xd_40_18 : decode prog_12_method_11_code 18 = .ok (.dup, 1) := by decide +kernel
theorem xd_40_19 : decode prog_12_method_11_code 19 = .ok (.getfield 82, 3) := by decide +kernel
theorem xd_40_22 : decode prog_12_method_11_code 22 = .ok (.iconst 1, 1) := by decide +kernel
theorem xd_40_23 : decode prog_12_method_11_code 23 = .ok (.iadd, 1) := by decide +kernel
theorem xd_40_24 : decode prog_12_method_11_code 24 = .ok (.putfield 82, 3) := by decide +kernel
theorem xd_40_27 : decode prog_12_method_11_code 27 = .ok (.goto 11, 3) := by decide +kernel
theorem xd_40_30 : decode prog_12_method_11_code 30 = .ok (.aload_n 0, 1) := by decide +kernel
theorem xd_40_31 : decode prog_12_method_11_code 31 = .ok (.aload_n 0, 1) := by decide +kernel
theorem xd_40_32 : decode prog_12_method_11_code 32 = .ok (.getfield 82, 3) := by decide +kernel
theorem xd_40_35 : decode prog_12_method_11_code 35 = .ok (.invokevirtual 92, 3) := by decide +kernel
theorem xd_40_38 : decode prog_12_method_11_code 38 = .ok (.return_, 1) := by decide +kernel
theorem xd_41_0 : decode prog_12_method_12_code 0 = .ok (.aload_n 0, 1) := by decide +kernel
theorem xd_41_1 : decode prog_12_method_12_code 1 = .ok (.getfield 85, 3) := by decide +kernel
theorem xd_41_4 : decode prog_12_method_12_code 4 = .ok (.iconst (-1), 1) := by decide +kernel
theorem xd_41_5 : decode prog_12_method_12_code 5 = .ok (.if_icmp .eq 5, 3) := by decide +kernel
theorem xd_41_8 : decode prog_12_method_12_code 8 = .ok (.iconst 0, 1) := by decide +kernel
theorem xd_41_9 : decode prog_12_method_12_code 9 = .ok (.ireturn, 1) := by decide +kernel
theorem xd_41_10 : decode prog_12_method_12_code 10 = .ok (.aload_n 0, 1) := by decide +kernel
theorem xd_41_11 : decode prog_12_method_12_code 11 = .ok (.invokevirtual 88, 3) := by decide +kernel
theorem xd_41_14 : decode prog_12_method_12_code 14 = .ok (.pop, 1) := by decide +kernel
theorem xd_41_15 : decode prog_12_method_12_code 15 = .ok (.aload_n 0, 1) := by decide +kernel
theorem xd_41_16 : decode prog_12_method_12_code 16 = .ok (.aload_n 0, 1) := by decide +kernel
theorem xd_41_17 : decode prog_12_method_12_code 17 = .ok (.getfield 82, 3) := by decide +kernel
theorem xd_41_20 : decode prog_12_method_12_code 20 = .ok (.putfield 96, 3) := by decide +kernel
theorem xd_41_23 : decode prog_12_method_12_code 23 = .ok (.iconst 0, 1) := by decide +kernel
theorem xd_41_24 : decode prog_12_method_12_code 24 = .ok (.istore_n 3, 1) := by decide +kernel
theorem xd_41_25 : decode prog_12_method_12_code 25 = .ok (.aload_n 0, 1) := by decide +kernel
theorem xd_41_26 : decode prog_12_method_12_code 26 = .ok (.getfield 82, 3) := by decide +kernel
theorem xd_41_29 : decode prog_12_method_12_code 29 = .ok (.aload_n 0, 1) := by decide +kernel
theorem xd_41_30 : decode prog_12_method_12_code 30 = .ok (.getfield 79, 3) := by decide +kernel
theorem xd_41_33 : decode prog_12_method_12_code 33 = .ok (.if_icmp .ge 63, 3) := by decide +kernel
theorem xd_41_36 : decode prog_12_method_12_code 36 = .ok (.aload_n 0, 1) := by decide +kernel
theorem xd_41_37 : decode prog_12_method_12_code 37 = .ok (.getfield 7, 3) := by decide +kernel
theorem xd_41_40 : decode prog_12_method_12_code 40 = .ok (.aload_n 0, 1) := by decide +kernel
theorem xd_41_41 : decode prog_12_method_12_code 41 = .ok (.getfield 82, 3) := by decide +kernel
theorem xd_41_44 : decode prog_12_method_12_code 44 = .ok (.iaload, 1) := by decide +kernel
theorem xd_41_45 : decode prog_12_method_12_code 45 = .ok (.invokestatic 99, 3) := by decide +kernel
theorem xd_41_48 : decode prog_12_method_12_code 48 = .ok (.ifCond .eq 48, 3) := by decide +kernel
theorem xd_41_51 : decode prog_12_method_12_code 51 = .ok (.aload_n 0, 1) := by decide +kernel
theorem xd_41_52 : decode prog_12_method_12_code 52 = .ok (.getfield 82, 3) := by decide +kernel
theorem xd_41_55 : decode prog_12_method_12_code 55 = .ok (.aload_n 0, 1) := by decide +kernel
theorem xd_41_56 : decode prog_12_method_12_code 56 = .ok (.getfield 96, 3) := by decide +kernel
theorem xd_41_59 : decode prog_12_method_12_code 59 = .ok (.isub, 1) := by decide +kernel
theorem xd_41_60 : decode prog_12_method_12_code 60 = .ok (.bipush 9, 2) := by decide +kernel
theorem xd_41_62 : decode prog_12_method_12_code 62 = .ok (.if_icmp .ge 21, 3) := by decide +kernel
theorem xd_41_65 : decode prog_12_method_12_code 65 = .ok (.bipush 10, 2) := by decide +kernel
theorem xd_41_67 : decode prog_12_method_12_code 67 = .ok (.iload_n 3, 1) := by decide +kernel
theorem xd_41_68 : decode prog_12_method_12_code 68 = .ok (.imul, 1) := by decide +kernel
theorem xd_41_69 : decode prog_12_method_12_code 69 = .ok (.aload_n 0, 1) := by decide +kernel
theorem xd_41_70 : decode prog_12_method_12_code 70 = .ok (.getfield 7, 3) := by decide +kernel
theorem xd_41_73 : decode prog_12_method_12_code 73 = .ok (.aload_n 0, 1) := by decide +kernel
theorem xd_41_74 : decode prog_12_method_12_code 74 = .ok (.getfield 82, 3) := by decide +kernel
theorem xd_41_77 : decode prog_12_method_12_code 77 = .ok (.iaload, 1) := by decide +kernel
theorem xd_41_78 : decode prog_12_method_12_code 78 = .ok (.iadd, 1) := by decide +kernel
theorem xd_41_79 : decode prog_12_method_12_code 79 = .ok (.bipush 48, 2) := by decide +kernel
theorem xd_41_81 : decode prog_12_method_12_code 81 = .ok (.isub, 1) := by decide +kernel
theorem xd_41_82 : decode prog_12_method_12_code 82 = .ok (.istore_n 3, 1) := by decide +kernel
theorem xd_41_83 : decode prog_12_method_12_code 83 = .ok (.aload_n 0, 1) := by decide +kernel
theorem xd_41_84 : decode prog_12_method_12_code 84 = .ok (.dup, 1) := by decide +kernel
theorem xd_41_85 : decode prog_12_method_12_code 85 = .ok (.getfield 82, 3) := by decide +kernel
theorem xd_41_88 : decode prog_12_method_12_code 88 = .ok (.iconst 1, 1) := by decide +kernel
theorem xd_41_89 : decode prog_12_method_12_code 89 = .ok (.iadd, 1) := by decide +kernel
theorem xd_41_90 : decode prog_12_method_12_code 90 = .ok (.putfield 82, 3) := by decide +kernel
theorem xd_41_93 : decode prog_12_method_12_code 93 = .ok (.goto (-68), 3) := by decide +kernel
theorem xd_41_96 : decode prog_12_method_12_code 96 = .ok (.aload_n 0, 1) := by decide +kernel
theorem xd_41_97 : decode prog_12_method_12_code 97 = .ok (.getfield 82, 3) := by decide +kernel
theorem xd_41_100 : decode prog_12_method_12_code 100 = .ok (.aload_n 0, 1) := by decide +kernel
theorem xd_41_101 : decode prog_12_method_12_code 101 = .ok (.getfield 96, 3) := by decide +kernel
theorem xd_41_104 : decode prog_12_method_12_code 104 = .ok (.if_icmp .ne 11, 3) := by decide +kernel
theorem xd_41_107 : decode prog_12_method_12_code 107 = .ok (.aload_n 0, 1) := by decide +kernel
theorem xd_41_108 : decode prog_12_method_12_code 108 = .ok (.aload_n 0, 1) := by decide +kernel
theorem xd_41_109 : decode prog_12_method_12_code 109 = .ok (.getfield 82, 3) := by decide +kernel
theorem xd_41_112 : decode prog_12_method_12_code 112 = .ok (.invokevirtual 92, 3) := by decide +kernel
theorem xd_41_115 : decode prog_12_method_12_code 115 = .ok (.aload_n 0, 1) := by decide +kernel
theorem xd_41_116 : decode prog_12_method_12_code 116 = .ok (.getfield 82, 3) := by decide +kernel
theorem xd_41_119 : decode prog_12_method_12_code 119 = .ok (.aload_n 0, 1) := by decide +kernel
theorem xd_41_120 : decode prog_12_method_12_code 120 = .ok (.getfield 96, 3) := by decide +kernel
theorem xd_41_123 : decode prog_12_method_12_code 123 = .ok (.isub, 1) := by decide +kernel
theorem xd_41_124 : decode prog_12_method_12_code 124 = .ok (.iload_n 1, 1) := by decide +kernel
theorem xd_41_125 : decode prog_12_method_12_code 125 = .ok (.if_icmp .le 20, 3) := by decide +kernel
theorem xd_41_128 : decode prog_12_method_12_code 128 = .ok (.aload_n 0, 1) := by decide +kernel
theorem xd_41_129 : decode prog_12_method_12_code 129 = .ok (.iload_n 2, 1) := by decide +kernel
theorem xd_41_130 : decode prog_12_method_12_code 130 = .ok (.iconst (-1), 1) := by decide +kernel
theorem xd_41_131 : decode prog_12_method_12_code 131 = .ok (.if_icmp .ne 10, 3) := by decide +kernel
theorem xd_41_134 : decode prog_12_method_12_code 134 = .ok (.aload_n 0, 1) := by decide +kernel
theorem xd_41_135 : decode prog_12_method_12_code 135 = .ok (.getfield 96, 3) := by decide +kernel
theorem xd_41_138 : decode prog_12_method_12_code 138 = .ok (.goto 4, 3) := by decide +kernel
theorem xd_41_141 : decode prog_12_method_12_code 141 = .ok (.iload_n 2, 1) := by decide +kernel
theorem xd_41_142 : decode prog_12_method_12_code 142 = .ok (.invokevirtual 92, 3) := by decide +kernel
theorem xd_41_145 : decode prog_12_method_12_code 145 = .ok (.iload_n 3, 1) := by decide +kernel
theorem xd_41_146 : decode prog_12_method_12_code 146 = .ok (.ireturn, 1) := by decide +kernel
theorem xd_42_0 : decode prog_12_method_13_code 0 = .ok (.aload_n 0, 1) := by decide +kernel
theorem xd_42_1 : decode prog_12_method_13_code 1 = .ok (.getfield 85, 3) := by decide +kernel
theorem xd_42_4 : decode prog_12_method_13_code 4 = .ok (.iconst (-1), 1) := by decide +kernel
theorem xd_42_5 : decode prog_12_method_13_code 5 = .ok (.if_icmp .eq 5, 3) := by decide +kernel
theorem xd_42_8 : decode prog_12_method_13_code 8 = .ok (.iconst 0, 1) := by decide +kernel
theorem xd_42_9 : decode prog_12_method_13_code 9 = .ok (.ireturn, 1) := by decide +kernel
theorem xd_42_10 : decode prog_12_method_13_code 10 = .ok (.aload_n 0, 1) := by decide +kernel
theorem xd_42_11 : decode prog_12_method_13_code 11 = .ok (.invokevirtual 88, 3) := by decide +kernel
theorem xd_42_14 : decode prog_12_method_13_code 14 = .ok (.pop, 1) := by decide +kernel
theorem xd_42_15 : decode prog_12_method_13_code 15 = .ok (.aload_n 0, 1) := by decide +kernel
theorem xd_42_16 : decode prog_12_method_13_code 16 = .ok (.aload_n 0, 1) := by decide +kernel
theorem xd_42_17 : decode prog_12_method_13_code 17 = .ok (.getfield 82, 3) := by decide +kernel
theorem xd_42_20 : decode prog_12_method_13_code 20 = .ok (.putfield 96, 3) := by decide +kernel
theorem xd_42_23 : decode prog_12_method_13_code 23 = .ok (.aload_n 0, 1) := by decide +kernel
theorem xd_42_24 : decode prog_12_method_13_code 24 = .ok (.getfield 82, 3) := by decide +kernel
theorem xd_42_27 : decode prog_12_method_13_code 27 = .ok (.aload_n 0, 1) := by decide +kernel
theorem xd_42_28 : decode prog_12_method_13_code 28 = .ok (.getfield 79, 3) := by decide +kernel
theorem xd_42_31 : decode prog_12_method_13_code 31 = .ok (.if_icmp .ge 67, 3) := by decide +kernel
theorem xd_42_34 : decode prog_12_method_13_code 34 = .ok (.aload_n 0, 1) := by decide +kernel
theorem xd_42_35 : decode prog_12_method_13_code 35 = .ok (.getfield 7, 3) := by decide +kernel
theorem xd_42_38 : decode prog_12_method_13_code 38 = .ok (.aload_n 0, 1) := by decide +kernel
theorem xd_42_39 : decode prog_12_method_13_code 39 = .ok (.getfield 82, 3) := by decide +kernel
theorem xd_42_42 : decode prog_12_method_13_code 42 = .ok (.iaload, 1) := by decide +kernel
theorem xd_42_43 : decode prog_12_method_13_code 43 = .ok (.invokestatic 103, 3) := by decide +kernel
theorem xd_42_46 : decode prog_12_method_13_code 46 = .ok (.ifCond .eq 52, 3) := by decide +kernel
theorem xd_42_49 : decode prog_12_method_13_code 49 = .ok (.aload_n 0, 1) := by decide +kernel
theorem xd_42_50 : decode prog_12_method_13_code 50 = .ok (.getfield 82, 3) := by decide +kernel
theorem xd_42_53 : decode prog_12_method_13_code 53 = .ok (.aload_n 0, 1) := by decide +kernel
theorem xd_42_54 : decode prog_12_method_13_code 54 = .ok (.getfield 96, 3) := by decide +kernel
theorem xd_42_57 : decode prog_12_method_13_code 57 = .ok (.isub, 1) := by decide +kernel
theorem xd_42_58 : decode prog_12_method_13_code 58 = .ok (.bipush 8, 2) := by decide +kernel
theorem xd_42_60 : decode prog_12_method_13_code 60 = .ok (.if_icmp .ge 25, 3) := by decide +kernel
theorem xd_42_63 : decode prog_12_method_13_code 63 = .ok (.aload_n 1, 1) := by decide +kernel
theorem xd_42_64 : decode prog_12_method_13_code 64 = .ok (.iload_n 2, 1) := by decide +kernel
theorem xd_42_65 : decode prog_12_method_13_code 65 = .ok (.aload_n 0, 1) := by decide +kernel
theorem xd_42_66 : decode prog_12_method_13_code 66 = .ok (.getfield 82, 3) := by decide +kernel
theorem xd_42_69 : decode prog_12_method_13_code 69 = .ok (.iadd, 1) := by decide +kernel
theorem xd_42_70 : decode prog_12_method_13_code 70 = .ok (.aload_n 0, 1) := by decide +kernel
theorem xd_42_71 : decode prog_12_method_13_code 71 = .ok (.getfield 96, 3) := by decide +kernel
theorem xd_42_74 : decode prog_12_method_13_code 74 = .ok (.isub, 1) := by decide +kernel
theorem xd_42_75 : decode prog_12_method_13_code 75 = .ok (.aload_n 0, 1) := by decide +kernel
theorem xd_42_76 : decode prog_12_method_13_code 76 = .ok (.getfield 7, 3) := by decide +kernel
theorem xd_42_79 : decode prog_12_method_13_code 79 = .ok (.aload_n 0, 1) := by decide +kernel
theorem xd_42_80 : decode prog_12_method_13_code 80 = .ok (.getfield 82, 3) := by decide +kernel
theorem xd_42_83 : decode prog_12_method_13_code 83 = .ok (.iaload, 1) := by decide +kernel
theorem xd_42_84 : decode prog_12_method_13_code 84 = .ok (.iastore, 1) := by decide +kernel
theorem xd_42_85 : decode prog_12_method_13_code 85 = .ok (.aload_n 0, 1) := by decide +kernel
theorem xd_42_86 : decode prog_12_method_13_code 86 = .ok (.dup, 1) := by decide +kernel
theorem xd_42_87 : decode prog_12_method_13_code 87 = .ok (.getfield 82, 3) := by decide +kernel
theorem xd_42_90 : decode prog_12_method_13_code 90 = .ok (.iconst 1, 1) := by decide +kernel
theorem xd_42_91 : decode prog_12_method_13_code 91 = .ok (.iadd, 1) := by decide +kernel
theorem xd_42_92 : decode prog_12_method_13_code 92 = .ok (.putfield 82, 3) := by decide +kernel
theorem xd_42_95 : decode prog_12_method_13_code 95 = .ok (.goto (-72), 3) := by decide +kernel
theorem xd_42_98 : decode prog_12_method_13_code 98 = .ok (.aload_n 0, 1) := by decide +kernel
theorem xd_42_99 : decode prog_12_method_13_code 99 = .ok (.getfield 82, 3) := by decide +kernel
theorem xd_42_102 : decode prog_12_method_13_code 102 = .ok (.aload_n 0, 1) := by decide +kernel
theorem xd_42_103 : decode prog_12_method_13_code 103 = .ok (.getfield 96, 3) := by decide +kernel
theorem xd_42_106 : decode prog_12_method_13_code 106 = .ok (.if_icmp .eq 17, 3) := by decide +kernel
theorem xd_42_109 : decode prog_12_method_13_code 109 = .ok (.aload_n 0, 1) := by decide +kernel
theorem xd_42_110 : decode prog_12_method_13_code 110 = .ok (.getfield 82, 3) := by decide +kernel
theorem xd_42_113 : decode prog_12_method_13_code 113 = .ok (.aload_n 0, 1) := by decide +kernel
theorem xd_42_114 : decode prog_12_method_13_code 114 = .ok (.getfield 96, 3) := by decide +kernel
theorem xd_42_117 : decode prog_12_method_13_code 117 = .ok (.isub, 1) := by decide +kernel
theorem xd_42_118 : decode prog_12_method_13_code 118 = .ok (.bipush 8, 2) := by decide +kernel
theorem xd_42_120 : decode prog_12_method_13_code 120 = .ok (.if_icmp .le 11, 3) := by decide +kernel
theorem xd_42_123 : decode prog_12_method_13_code 123 = .ok (.aload_n 0, 1) := by decide +kernel
theorem xd_42_124 : decode prog_12_method_13_code 124 = .ok (.aload_n 0, 1) := by decide +kernel
theorem xd_42_125 : decode prog_12_method_13_code 125 = .ok (.getfield 96, 3) := by decide +kernel
theorem xd_42_128 : decode prog_12_method_13_code 128 = .ok (.invokevirtual 92, 3) := by decide +kernel
theorem xd_42_131 : decode prog_12_method_13_code 131 = .ok (.aload_n 0, 1) := by decide +kernel
theorem xd_42_132 : decode prog_12_method_13_code 132 = .ok (.getfield 82, 3) := by decide +kernel
theorem xd_42_135 : decode prog_12_method_13_code 135 = .ok (.aload_n 0, 1) := by decide +kernel
theorem xd_42_136 : decode prog_12_method_13_code 136 = .ok (.getfield 96, 3) := by decide +kernel
theorem xd_42_139 : decode prog_12_method_13_code 139 = .ok (.isub, 1) := by decide +kernel
theorem xd_42_140 : decode prog_12_method_13_code 140 = .ok (.ireturn, 1) := by decide +kernel
theorem xd_43_0 : decode prog_12_method_14_code 0 = .ok (.aload_n 0, 1) := by decide +kernel
theorem xd_43_1 : decode prog_12_method_14_code 1 = .ok (.invokevirtual 88, 3) := by decide +kernel
theorem xd_43_4 : decode prog_12_method_14_code 4 = .ok (.bipush 45, 2) := by decide +kernel
theorem xd_43_6 : decode prog_12_method_14_code 6 = .ok (.if_icmp .ne 7, 3) := by decide +kernel
theorem xd_43_9 : decode prog_12_method_14_code 9 = .ok (.iconst 1, 1) := by decide +kernel
theorem xd_43_10 : decode prog_12_method_14_code 10 = .ok (.goto 4, 3) := by decide +kernel
theorem xd_43_13 : decode prog_12_method_14_code 13 = .ok (.iconst 0, 1) := by decide +kernel
theorem xd_43_14 : decode prog_12_method_14_code 14 = .ok (.istore_n 1, 1) := by decide +kernel
theorem xd_43_15 : decode prog_12_method_14_code 15 = .ok (.aload_n 0, 1) := by decide +kernel
theorem xd_43_16 : decode prog_12_method_14_code 16 = .ok (.getfield 82, 3) := by decide +kernel
theorem xd_43_19 : decode prog_12_method_14_code 19 = .ok (.istore_n 2, 1) := by decide +kernel
theorem xd_43_20 : decode prog_12_method_14_code 20 = .ok (.iload_n 1, 1) := by decide +kernel
theorem xd_43_21 : decode prog_12_method_14_code 21 = .ok (.ifCond .eq 13, 3) := by decide +kernel
theorem xd_43_24 : decode prog_12_method_14_code 24 = .ok (.aload_n 0, 1) := by decide +kernel
theorem xd_43_25 : decode prog_12_method_14_code 25 = .ok (.dup, 1) := by decide +kernel
theorem xd_43_26 : decode prog_12_method_14_code 26 = .ok (.getfield 82, 3) := by decide +kernel
theorem xd_43_29 : decode prog_12_method_14_code 29 = .ok (.iconst 1, 1) := by decide +kernel
theorem xd_43_30 : decode prog_12_method_14_code 30 = .ok (.iadd, 1) := by decide +kernel
theorem xd_43_31 : decode prog_12_method_14_code 31 = .ok (.putfield 82, 3) := by decide +kernel
theorem xd_43_34 : decode prog_12_method_14_code 34 = .ok (.aload_n 0, 1) := by decide +kernel
theorem xd_43_35 : decode prog_12_method_14_code 35 = .ok (.bipush 9, 2) := by decide +kernel
theorem xd_43_37 : decode prog_12_method_14_code 37 = .ok (.iload_n 2, 1) := by decide +kernel
theorem xd_43_38 : decode prog_12_method_14_code 38 = .ok (.invokevirtual 106, 3) := by decide +kernel
theorem xd_43_41 : decode prog_12_method_14_code 41 = .ok (.istore_n 3, 1) := by decide +kernel
theorem xd_43_42 : decode prog_12_method_14_code 42 = .ok (.iload_n 1, 1) := by decide +kernel
theorem xd_43_43 : decode prog_12_method_14_code 43 = .ok (.ifCond .eq 8, 3) := by decide +kernel
theorem xd_43_46 : decode prog_12_method_14_code 46 = .ok (.iload_n 3, 1) := by decide +kernel
theorem xd_43_47 : decode prog_12_method_14_code 47 = .ok (.ineg, 1) := by decide +kernel
theorem xd_43_48 : decode prog_12_method_14_code 48 = .ok (.goto 4, 3) := by decide +kernel
theorem xd_43_51 : decode prog_12_method_14_code 51 = .ok (.iload_n 3, 1) := by decide +kernel
theorem xd_43_52 : decode prog_12_method_14_code 52 = .ok (.ireturn, 1) := by decide +kernel
theorem xd_44_0 : decode prog_12_method_15_code 0 = .ok (.aload_n 0, 1) := by decide +kernel
theorem xd_44_1 : decode prog_12_method_15_code 1 = .ok (.bipush 35, 2) := by decide +kernel
theorem xd_44_3 : decode prog_12_method_15_code 3 = .ok (.invokevirtual 110, 3) := by decide +kernel
theorem xd_44_6 : decode prog_12_method_15_code 6 = .ok (.aload_n 0, 1) := by decide +kernel
theorem xd_44_7 : decode prog_12_method_15_code 7 = .ok (.iconst 3, 1) := by decide +kernel
theorem xd_44_8 : decode prog_12_method_15_code 8 = .ok (.iconst (-1), 1) := by decide +kernel
theorem xd_44_9 : decode prog_12_method_15_code 9 = .ok (.invokevirtual 106, 3) := by decide +kernel
theorem xd_44_12 : decode prog_12_method_15_code 12 = .ok (.istore_n 1, 1) := by decide +kernel
theorem xd_44_13 : decode prog_12_method_15_code 13 = .ok (.iload_n 1, 1) := by decide +kernel
theorem xd_44_14 : decode prog_12_method_15_code 14 = .ok (.ifCond .ne 11, 3) := by decide +kernel
theorem xd_44_17 : decode prog_12_method_15_code 17 = .ok (.aload_n 0, 1) := by decide +kernel
theorem xd_44_18 : decode prog_12_method_15_code 18 = .ok (.aload_n 0, 1) := by decide +kernel
theorem xd_44_19 : decode prog_12_method_15_code 19 = .ok (.getfield 96, 3) := by decide +kernel
theorem xd_44_22 : decode prog_12_method_15_code 22 = .ok (.invokevirtual 92, 3) := by decide +kernel
theorem xd_44_25 : decode prog_12_method_15_code 25 = .ok (.iload_n 1, 1) := by decide +kernel
theorem xd_44_26 : decode prog_12_method_15_code 26 = .ok (.ireturn, 1) := by decide +kernel
theorem xd_45_0 : decode prog_12_method_16_code 0 = .ok (.iload_n 0, 1) := by decide +kernel
theorem xd_45_1 : decode prog_12_method_16_code 1 = .ok (.bipush 45, 2) := by decide +kernel
theorem xd_45_3 : decode prog_12_method_16_code 3 = .ok (.if_icmp .eq 10, 3) := by decide +kernel
theorem xd_45_6 : decode prog_12_method_16_code 6 = .ok (.iload_n 0, 1) := by decide +kernel
theorem xd_45_7 : decode prog_12_method_16_code 7 = .ok (.invokestatic 99, 3) := by decide +kernel
theorem xd_45_10 : decode prog_12_method_16_code 10 = .ok (.ifCond .eq 7, 3) := by decide +kernel
theorem xd_45_13 : decode prog_12_method_16_code 13 = .ok (.iconst 1, 1) := by decide +kernel
theorem xd_45_14 : decode prog_12_method_16_code 14 = .ok (.goto 4, 3) := by decide +kernel
theorem xd_45_17 : decode prog_12_method_16_code 17 = .ok (.iconst 0, 1) := by decide +kernel
theorem xd_45_18 : decode prog_12_method_16_code 18 = .ok (.ireturn, 1) := by decide +kernel
theorem xd_46_0 : decode prog_12_method_17_code 0 = .ok (.iload_n 0, 1) := by decide +kernel
theorem xd_46_1 : decode prog_12_method_17_code 1 = .ok (.tableswitch 91 69 84 #[89, 91, 91, 91, 79, 91, 91, 85, 87, 91, 91, 91, 91, 83, 91, 81], 79) := by decide +kernel
theorem xd_46_80 : decode prog_12_method_17_code 80 = .ok (.iconst 0, 1) := by decide +kernel
theorem xd_46_81 : decode prog_12_method_17_code 81 = .ok (.ireturn, 1) := by decide +kernel
theorem xd_46_82 : decode prog_12_method_17_code 82 = .ok (.iconst 1, 1) := by decide +kernel
theorem xd_46_83 : decode prog_12_method_17_code 83 = .ok (.ireturn, 1) := by decide +kernel
theorem xd_46_84 : decode prog_12_method_17_code 84 = .ok (.iconst 2, 1) := by decide +kernel
theorem xd_46_85 : decode prog_12_method_17_code 85 = .ok (.ireturn, 1) := by decide +kernel
theorem xd_46_86 : decode prog_12_method_17_code 86 = .ok (.iconst 3, 1) := by decide +kernel
theorem xd_46_87 : decode prog_12_method_17_code 87 = .ok (.ireturn, 1) := by decide +kernel
theorem xd_46_88 : decode prog_12_method_17_code 88 = .ok (.iconst 4, 1) := by decide +kernel
theorem xd_46_89 : decode prog_12_method_17_code 89 = .ok (.ireturn, 1) := by decide +kernel
theorem xd_46_90 : decode prog_12_method_17_code 90 = .ok (.iconst 5, 1) := by decide +kernel
theorem xd_46_91 : decode prog_12_method_17_code 91 = .ok (.ireturn, 1) := by decide +kernel
theorem xd_46_92 : decode prog_12_method_17_code 92 = .ok (.iconst (-1), 1) := by decide +kernel
theorem xd_46_93 : decode prog_12_method_17_code 93 = .ok (.ireturn, 1) := by decide +kernel
theorem xd_47_0 : decode prog_12_method_18_code 0 = .ok (.iconst 1, 1) := by decide +kernel
theorem xd_47_1 : decode prog_12_method_18_code 1 = .ok (.istore 5, 2) := by decide +kernel
theorem xd_47_3 : decode prog_12_method_18_code 3 = .ok (.iconst 0, 1) := by decide +kernel
theorem xd_47_4 : decode prog_12_method_18_code 4 = .ok (.istore 6, 2) := by decide +kernel
theorem xd_47_6 : decode prog_12_method_18_code 6 = .ok (.iload 6, 2) := by decide +kernel
theorem xd_47_8 : decode prog_12_method_18_code 8 = .ok (.iload 4, 2) := by decide +kernel
theorem xd_47_10 : decode prog_12_method_18_code 10 = .ok (.if_icmp .ge 36, 3) := by decide +kernel
theorem xd_47_13 : decode prog_12_method_18_code 13 = .ok (.iload 5, 2) := by decide +kernel
theorem xd_47_15 : decode prog_12_method_18_code 15 = .ok (.ifCond .eq 22, 3) := by decide +kernel
theorem xd_47_18 : decode prog_12_method_18_code 18 = .ok (.aload_n 0, 1) := by decide +kernel
theorem xd_47_19 : decode prog_12_method_18_code 19 = .ok (.iload_n 1, 1) := by decide +kernel
theorem xd_47_20 : decode prog_12_method_18_code 20 = .ok (.iload 6, 2) := by decide +kernel
theorem xd_47_22 : decode prog_12_method_18_code 22 = .ok (.iadd, 1) := by decide +kernel
theorem xd_47_23 : decode prog_12_method_18_code 23 = .ok (.iaload, 1) := by decide +kernel
theorem xd_47_24 : decode prog_12_method_18_code 24 = .ok (.aload_n 2, 1) := by decide +kernel
theorem xd_47_25 : decode prog_12_method_18_code 25 = .ok (.iload_n 3, 1) := by decide +kernel
theorem xd_47_26 : decode prog_12_method_18_code 26 = .ok (.iload 6, 2) := by decide +kernel
theorem xd_47_28 : decode prog_12_method_18_code 28 = .ok (.iadd, 1) := by decide +kernel
theorem xd_47_29 : decode prog_12_method_18_code 29 = .ok (.iaload, 1) := by decide +kernel
theorem xd_47_30 : decode prog_12_method_18_code 30 = .ok (.if_icmp .ne 7, 3) := by decide +kernel
theorem xd_47_33 : decode prog_12_method_18_code 33 = .ok (.iconst 1, 1) := by decide +kernel
theorem xd_47_34 : decode prog_12_method_18_code 34 = .ok (.goto 4, 3) := by decide +kernel
theorem xd_47_37 : decode prog_12_method_18_code 37 = .ok (.iconst 0, 1) := by decide +kernel
theorem xd_47_38 : decode prog_12_method_18_code 38 = .ok (.istore 5, 2) := by decide +kernel
theorem xd_47_40 : decode prog_12_method_18_code 40 = .ok (.iinc 6 1, 3) := by decide +kernel
theorem xd_47_43 : decode prog_12_method_18_code 43 = .ok (.goto (-37), 3) := by decide +kernel
theorem xd_47_46 : decode prog_12_method_18_code 46 = .ok (.iload 5, 2) := by decide +kernel
theorem xd_47_48 : decode prog_12_method_18_code 48 = .ok (.ireturn, 1) := by decide +kernel
theorem xd_48_0 : decode prog_12_method_19_code 0 = .ok (.bipush 12, 2) := by decide +kernel
theorem xd_48_2 : decode prog_12_method_19_code 2 = .ok (.aload_n 0, 1) := by decide +kernel
theorem xd_48_3 : decode prog_12_method_19_code 3 = .ok (.getfield 16, 3) := by decide +kernel
theorem xd_48_6 : decode prog_12_method_19_code 6 = .ok (.iconst 1, 1) := by decide +kernel
theorem xd_48_7 : decode prog_12_method_19_code 7 = .ok (.iaload, 1) := by decide +kernel
theorem xd_48_8 : decode prog_12_method_19_code 8 = .ok (.iadd, 1) := by decide +kernel
theorem xd_48_9 : decode prog_12_method_19_code 9 = .ok (.istore_n 1, 1) := by decide +kernel
theorem xd_48_10 : decode prog_12_method_19_code 10 = .ok (.aload_n 0, 1) := by decide +kernel
theorem xd_48_11 : decode prog_12_method_19_code 11 = .ok (.getfield 16, 3) := by decide +kernel
theorem xd_48_14 : decode prog_12_method_19_code 14 = .ok (.iconst 1, 1) := by decide +kernel
theorem xd_48_15 : decode prog_12_method_19_code 15 = .ok (.iaload, 1) := by decide +kernel
theorem xd_48_16 : decode prog_12_method_19_code 16 = .ok (.bipush 12, 2) := by decide +kernel
theorem xd_48_18 : decode prog_12_method_19_code 18 = .ok (.if_icmp .ne 12, 3) := by decide +kernel
theorem xd_48_21 : decode prog_12_method_19_code 21 = .ok (.aload_n 0, 1) := by decide +kernel
theorem xd_48_22 : decode prog_12_method_19_code 22 = .ok (.aload_n 0, 1) := by decide +kernel
theorem xd_48_23 : decode prog_12_method_19_code 23 = .ok (.getfield 82, 3) := by decide +kernel
theorem xd_48_26 : decode prog_12_method_19_code 26 = .ok (.invokevirtual 92, 3) := by decide +kernel
theorem xd_48_29 : decode prog_12_method_19_code 29 = .ok (.return_, 1) := by decide +kernel
theorem xd_48_30 : decode prog_12_method_19_code 30 = .ok (.aload_n 0, 1) := by decide +kernel
theorem xd_48_31 : decode prog_12_method_19_code 31 = .ok (.getfield 19, 3) := by decide +kernel
theorem xd_48_34 : decode prog_12_method_19_code 34 = .ok (.iload_n 1, 1) := by decide +kernel
theorem xd_48_35 : decode prog_12_method_19_code 35 = .ok (.aload_n 0, 1) := by decide +kernel
theorem xd_48_36 : decode prog_12_method_19_code 36 = .ok (.aload_n 0, 1) := by decide +kernel
theorem xd_48_37 : decode prog_12_method_19_code 37 = .ok (.getfield 22, 3) := by decide +kernel
theorem xd_48_40 : decode prog_12_method_19_code 40 = .ok (.bipush 8, 2) := by decide +kernel
theorem xd_48_42 : decode prog_12_method_19_code 42 = .ok (.iload_n 1, 1) := by decide +kernel
theorem xd_48_43 : decode prog_12_method_19_code 43 = .ok (.imul, 1) := by decide +kernel
theorem xd_48_44 : decode prog_12_method_19_code 44 = .ok (.invokevirtual 113, 3) := by decide +kernel
theorem xd_48_47 : decode prog_12_method_19_code 47 = .ok (.iastore, 1) := by decide +kernel
theorem xd_48_48 : decode prog_12_method_19_code 48 = .ok (.bipush 12, 2) := by decide +kernel
theorem xd_48_50 : decode prog_12_method_19_code 50 = .ok (.istore_n 2, 1) := by decide +kernel
theorem xd_48_51 : decode prog_12_method_19_code 51 = .ok (.iload_n 2, 1) := by decide +kernel
theorem xd_48_52 : decode prog_12_method_19_code 52 = .ok (.iload_n 1, 1) := by decide +kernel
theorem xd_48_53 : decode prog_12_method_19_code 53 = .ok (.if_icmp .ge 60, 3) := by decide +kernel
theorem xd_48_56 : decode prog_12_method_19_code 56 = .ok (.aload_n 0, 1) := by decide +kernel
theorem xd_48_57 : decode prog_12_method_19_code 57 = .ok (.getfield 19, 3) := by decide +kernel
theorem xd_48_60 : decode prog_12_method_19_code 60 = .ok (.iload_n 2, 1) := by decide +kernel
theorem xd_48_61 : decode prog_12_method_19_code 61 = .ok (.iaload, 1) := by decide +kernel
theorem xd_48_62 : decode prog_12_method_19_code 62 = .ok (.aload_n 0, 1) := by decide +kernel
theorem xd_48_63 : decode prog_12_method_19_code 63 = .ok (.getfield 19, 3) := by decide +kernel
theorem xd_48_66 : decode prog_12_method_19_code 66 = .ok (.iload_n 1, 1) := by decide +kernel
theorem xd_48_67 : decode prog_12_method_19_code 67 = .ok (.iaload, 1) := by decide +kernel
theorem xd_48_68 : decode prog_12_method_19_code 68 = .ok (.if_icmp .ne 39, 3) := by decide +kernel
theorem xd_48_71 : decode prog_12_method_19_code 71 = .ok (.aload_n 0, 1) := by decide +kernel
theorem xd_48_72 : decode prog_12_method_19_code 72 = .ok (.getfield 22, 3) := by decide +kernel
theorem xd_48_75 : decode prog_12_method_19_code 75 = .ok (.bipush 8, 2) := by decide +kernel
theorem xd_48_77 : decode prog_12_method_19_code 77 = .ok (.iload_n 2, 1) := by decide +kernel
theorem xd_48_78 : decode prog_12_method_19_code 78 = .ok (.imul, 1) := by decide +kernel
theorem xd_48_79 : decode prog_12_method_19_code 79 = .ok (.aload_n 0, 1) := by decide +kernel
theorem xd_48_80 : decode prog_12_method_19_code 80 = .ok (.getfield 22, 3) := by decide +kernel
theorem xd_48_83 : decode prog_12_method_19_code 83 = .ok (.bipush 8, 2) := by decide +kernel
theorem xd_48_85 : decode prog_12_method_19_code 85 = .ok (.iload_n 1, 1) := by decide +kernel
theorem xd_48_86 : decode prog_12_method_19_code 86 = .ok (.imul, 1) := by decide +kernel
theorem xd_48_87 : decode prog_12_method_19_code 87 = .ok (.aload_n 0, 1) := by decide +kernel
theorem xd_48_88 : decode prog_12_method_19_code 88 = .ok (.getfield 19, 3) := by decide +kernel
theorem xd_48_91 : decode prog_12_method_19_code 91 = .ok (.iload_n 1, 1) := by decide +kernel
theorem xd_48_92 : decode prog_12_method_19_code 92 = .ok (.iaload, 1) := by decide +kernel
theorem xd_48_93 : decode prog_12_method_19_code 93 = .ok (.invokestatic 117, 3) := by decide +kernel
theorem xd_48_96 : decode prog_12_method_19_code 96 = .ok (.ifCond .eq 11, 3) := by decide +kernel
theorem xd_48_99 : decode prog_12_method_19_code 99 = .ok (.aload_n 0, 1) := by decide +kernel
theorem xd_48_100 : decode prog_12_method_19_code 100 = .ok (.aload_n 0, 1) := by decide +kernel
theorem xd_48_101 : decode prog_12_method_19_code 101 = .ok (.getfield 96, 3) := by decide +kernel
theorem xd_48_104 : decode prog_12_method_19_code 104 = .ok (.invokevirtual 92, 3) := by decide +kernel
theorem xd_48_107 : decode prog_12_method_19_code 107 = .ok (.iinc 2 1, 3) := by decide +kernel
theorem xd_48_110 : decode prog_12_method_19_code 110 = .ok (.goto (-59), 3) := by decide +kernel
theorem xd_48_113 : decode prog_12_method_19_code 113 = .ok (.aload_n 0, 1) := by decide +kernel
theorem xd_48_114 : decode prog_12_method_19_code 114 = .ok (.bipush 61, 2) := by decide +kernel
theorem xd_48_116 : decode prog_12_method_19_code 116 = .ok (.invokevirtual 110, 3) := by decide +kernel
theorem xd_48_119 : decode prog_12_method_19_code 119 = .ok (.iconst 0, 1) := by decide +kernel
theorem xd_48_120 : decode prog_12_method_19_code 120 = .ok (.istore_n 2, 1) := by decide +kernel
theorem xd_48_121 : decode prog_12_method_19_code 121 = .ok (.iconst 1, 1) := by decide +kernel
theorem xd_48_122 : decode prog_12_method_19_code 122 = .ok (.istore_n 3, 1) := by decide +kernel
theorem xd_48_123 : decode prog_12_method_19_code 123 = .ok (.iconst 1, 1) := by decide +kernel
theorem xd_48_124 : decode prog_12_method_19_code 124 = .ok (.istore 4, 2) := by decide +kernel
theorem xd_48_126 : decode prog_12_method_19_code 126 = .ok (.iload_n 3, 1) := by decide +kernel
theorem xd_48_127 : decode prog_12_method_19_code 127 = .ok (.ifCond .eq 138, 3) := by decide +kernel
theorem xd_48_130 : decode prog_12_method_19_code 130 = .ok (.aload_n 0, 1) := by decide +kernel
theorem xd_48_131 : decode prog_12_method_19_code 131 = .ok (.getfield 85, 3) := by decide +kernel
theorem xd_48_134 : decode prog_12_method_19_code 134 = .ok (.iconst (-1), 1) := by decide +kernel
theorem xd_48_135 : decode prog_12_method_19_code 135 = .ok (.if_icmp .ne 130, 3) := by decide +kernel
theorem xd_48_138 : decode prog_12_method_19_code 138 = .ok (.aload_n 0, 1) := by decide +kernel
theorem xd_48_139 : decode prog_12_method_19_code 139 = .ok (.invokevirtual 88, 3) := by decide +kernel
theorem xd_48_142 : decode prog_12_method_19_code 142 = .ok (.istore 5, 2) := by decide +kernel
theorem xd_48_144 : decode prog_12_method_19_code 144 = .ok (.iload_n 2, 1) := by decide +kernel
theorem xd_48_145 : decode prog_12_method_19_code 145 = .ok (.ifCond .le 15, 3) := by decide +kernel
theorem xd_48_148 : decode prog_12_method_19_code 148 = .ok (.iload 5, 2) := by decide +kernel
theorem xd_48_150 : decode prog_12_method_19_code 150 = .ok (.bipush 59, 2) := by decide +kernel
theorem xd_48_152 : decode prog_12_method_19_code 152 = .ok (.if_icmp .ne 8, 3) := by decide +kernel
theorem xd_48_155 : decode prog_12_method_19_code 155 = .ok (.iconst 0, 1) := by decide +kernel
theorem xd_48_156 : decode prog_12_method_19_code 156 = .ok (.istore_n 3, 1) := by decide +kernel
theorem xd_48_157 : decode prog_12_method_19_code 157 = .ok (.goto 95, 3) := by decide +kernel
theorem xd_48_160 : decode prog_12_method_19_code 160 = .ok (.iload 4, 2) := by decide +kernel
theorem xd_48_162 : decode prog_12_method_19_code 162 = .ok (.ifCond .ne 30, 3) := by decide +kernel
theorem xd_48_165 : decode prog_12_method_19_code 165 = .ok (.iload 5, 2) := by decide +kernel
theorem xd_48_167 : decode prog_12_method_19_code 167 = .ok (.bipush 63, 2) := by decide +kernel
theorem xd_48_169 : decode prog_12_method_19_code 169 = .ok (.if_icmp .ne 23, 3) := by decide +kernel
theorem xd_48_172 : decode prog_12_method_19_code 172 = .ok (.aload_n 0, 1) := by decide +kernel
theorem xd_48_173 : decode prog_12_method_19_code 173 = .ok (.getfield 31, 3) := by decide +kernel
theorem xd_48_176 : decode prog_12_method_19_code 176 = .ok (.bipush 8, 2) := by decide +kernel
theorem xd_48_178 : decode prog_12_method_19_code 178 = .ok (.iload_n 1, 1) := by decide +kernel
theorem xd_48_179 : decode prog_12_method_19_code 179 = .ok (.imul, 1) := by decide +kernel
theorem xd_48_180 : decode prog_12_method_19_code 180 = .ok (.iload_n 2, 1) := by decide +kernel
theorem xd_48_181 : decode prog_12_method_19_code 181 = .ok (.iadd, 1) := by decide +kernel
theorem xd_48_182 : decode prog_12_method_19_code 182 = .ok (.iconst 1, 1) := by decide +kernel
theorem xd_48_183 : decode prog_12_method_19_code 183 = .ok (.isub, 1) := by decide +kernel
theorem xd_48_184 : decode prog_12_method_19_code 184 = .ok (.iconst 1, 1) := by decide +kernel
theorem xd_48_185 : decode prog_12_method_19_code 185 = .ok (.bastore, 1) := by decide +kernel
theorem xd_48_186 : decode prog_12_method_19_code 186 = .ok (.iconst 1, 1) := by decide +kernel
theorem xd_48_187 : decode prog_12_method_19_code 187 = .ok (.istore 4, 2) := by decide +kernel
theorem xd_48_189 : decode prog_12_method_19_code 189 = .ok (.goto 63, 3) := by decide +kernel
theorem xd_48_192 : decode prog_12_method_19_code 192 = .ok (.iload_n 2, 1) := by decide +kernel
theorem xd_48_193 : decode prog_12_method_19_code 193 = .ok (.bipush 8, 2) := by decide +kernel
theorem xd_48_195 : decode prog_12_method_19_code 195 = .ok (.if_icmp .eq 12, 3) := by decide +kernel
theorem xd_48_198 : decode prog_12_method_19_code 198 = .ok (.iload 5, 2) := by decide +kernel
theorem xd_48_200 : decode prog_12_method_19_code 200 = .ok (.invokestatic 121, 3) := by decide +kernel
theorem xd_48_203 : decode prog_12_method_19_code 203 = .ok (.iconst (-1), 1) := by decide +kernel
theorem xd_48_204 : decode prog_12_method_19_code 204 = .ok (.if_icmp .ne 14, 3) := by decide +kernel
theorem xd_48_207 : decode prog_12_method_19_code 207 = .ok (.aload_n 0, 1) := by decide +kernel
theorem xd_48_208 : decode prog_12_method_19_code 208 = .ok (.aload_n 0, 1) := by decide +kernel
theorem xd_48_209 : decode prog_12_method_19_code 209 = .ok (.getfield 82, 3) := by decide +kernel
theorem xd_48_212 : decode prog_12_method_19_code 212 = .ok (.invokevirtual 92, 3) := by decide +kernel
theorem xd_48_215 : decode prog_12_method_19_code 215 = .ok (.goto 37, 3) := by decide +kernel
theorem xd_48_218 : decode prog_12_method_19_code 218 = .ok (.aload_n 0, 1) := by decide +kernel
theorem xd_48_219 : decode prog_12_method_19_code 219 = .ok (.getfield 28, 3) := by decide +kernel
theorem xd_48_222 : decode prog_12_method_19_code 222 = .ok (.bipush 8, 2) := by decide +kernel
theorem xd_48_224 : decode prog_12_method_19_code 224 = .ok (.iload_n 1, 1) := by decide +kernel
theorem xd_48_225 : decode prog_12_method_19_code 225 = .ok (.imul, 1) := by decide +kernel
theorem xd_48_226 : decode prog_12_method_19_code 226 = .ok (.iload_n 2, 1) := by decide +kernel
theorem xd_48_227 : decode prog_12_method_19_code 227 = .ok (.iadd, 1) := by decide +kernel
theorem xd_48_228 : decode prog_12_method_19_code 228 = .ok (.iload 5, 2) := by decide +kernel
theorem xd_48_230 : decode prog_12_method_19_code 230 = .ok (.invokestatic 121, 3) := by decide +kernel
theorem xd_48_233 : decode prog_12_method_19_code 233 = .ok (.iastore, 1) := by decide +kernel
theorem xd_48_234 : decode prog_12_method_19_code 234 = .ok (.aload_n 0, 1) := by decide +kernel
theorem xd_48_235 : decode prog_12_method_19_code 235 = .ok (.getfield 31, 3) := by decide +kernel
theorem xd_48_238 : decode prog_12_method_19_code 238 = .ok (.bipush 8, 2) := by decide +kernel
theorem xd_48_240 : decode prog_12_method_19_code 240 = .ok (.iload_n 1, 1) := by decide +kernel
theorem xd_48_241 : decode prog_12_method_19_code 241 = .ok (.imul, 1) := by decide +kernel
theorem xd_48_242 : decode prog_12_method_19_code 242 = .ok (.iload_n 2, 1) := by decide +kernel
theorem xd_48_243 : decode prog_12_method_19_code 243 = .ok (.iadd, 1) := by decide +kernel
theorem xd_48_244 : decode prog_12_method_19_code 244 = .ok (.iconst 0, 1) := by decide +kernel
theorem xd_48_245 : decode prog_12_method_19_code 245 = .ok (.bastore, 1) := by decide +kernel
theorem xd_48_246 : decode prog_12_method_19_code 246 = .ok (.iconst 0, 1) := by decide +kernel
theorem xd_48_247 : decode prog_12_method_19_code 247 = .ok (.istore 4, 2) := by decide +kernel
theorem xd_48_249 : decode prog_12_method_19_code 249 = .ok (.iinc 2 1, 3) := by decide +kernel
theorem xd_48_252 : decode prog_12_method_19_code 252 = .ok (.aload_n 0, 1) := by decide +kernel
theorem xd_48_253 : decode prog_12_method_19_code 253 = .ok (.dup, 1) := by decide +kernel
theorem xd_48_254 : decode prog_12_method_19_code 254 = .ok (.getfield 82, 3) := by decide +kernel
theorem xd_48_257 : decode prog_12_method_19_code 257 = .ok (.iconst 1, 1) := by decide +kernel
theorem xd_48_258 : decode prog_12_method_19_code 258 = .ok (.iadd, 1) := by decide +kernel
theorem xd_48_259 : decode prog_12_method_19_code 259 = .ok (.putfield 82, 3) := by decide +kernel
theorem xd_48_262 : decode prog_12_method_19_code 262 = .ok (.goto (-136), 3) := by decide +kernel
theorem xd_48_265 : decode prog_12_method_19_code 265 = .ok (.aload_n 0, 1) := by decide +kernel
theorem xd_48_266 : decode prog_12_method_19_code 266 = .ok (.getfield 25, 3) := by decide +kernel
theorem xd_48_269 : decode prog_12_method_19_code 269 = .ok (.iload_n 1, 1) := by decide +kernel
theorem xd_48_270 : decode prog_12_method_19_code 270 = .ok (.iload_n 2, 1) := by decide +kernel
theorem xd_48_271 : decode prog_12_method_19_code 271 = .ok (.iastore, 1) := by decide +kernel
theorem xd_48_272 : decode prog_12_method_19_code 272 = .ok (.aload_n 0, 1) := by decide +kernel
theorem xd_48_273 : decode prog_12_method_19_code 273 = .ok (.getfield 16, 3) := by decide +kernel
theorem xd_48_276 : decode prog_12_method_19_code 276 = .ok (.iconst 1, 1) := by decide +kernel
theorem xd_48_277 : decode prog_12_method_19_code 277 = .ok (.dup2, 1) := by decide +kernel
theorem xd_48_278 : decode prog_12_method_19_code 278 = .ok (.iaload, 1) := by decide +kernel
theorem xd_48_279 : decode prog_12_method_19_code 279 = .ok (.iconst 1, 1) := by decide +kernel
theorem xd_48_280 : decode prog_12_method_19_code 280 = .ok (.iadd, 1) := by decide +kernel
theorem xd_48_281 : decode prog_12_method_19_code 281 = .ok (.iastore, 1) := by decide +kernel
theorem xd_48_282 : decode prog_12_method_19_code 282 = .ok (.return_, 1) := by decide +kernel
theorem xd_49_0 : decode prog_12_method_20_code 0 = .ok (.aload_n 0, 1) := by decide +kernel
theorem xd_49_1 : decode prog_12_method_20_code 1 = .ok (.iconst 0, 1) := by decide +kernel
theorem xd_49_2 : decode prog_12_method_20_code 2 = .ok (.putfield 69, 3) := by decide +kernel
theorem xd_49_5 : decode prog_12_method_20_code 5 = .ok (.aload_n 0, 1) := by decide +kernel
theorem xd_49_6 : decode prog_12_method_20_code 6 = .ok (.iconst 0, 1) := by decide +kernel
theorem xd_49_7 : decode prog_12_method_20_code 7 = .ok (.putfield 82, 3) := by decide +kernel
theorem xd_49_10 : decode prog_12_method_20_code 10 = .ok (.aload_n 0, 1) := by decide +kernel
theorem xd_49_11 : decode prog_12_method_20_code 11 = .ok (.iconst (-1), 1) := by decide +kernel
theorem xd_49_12 : decode prog_12_method_20_code 12 = .ok (.putfield 85, 3) := by decide +kernel
theorem xd_49_15 : decode prog_12_method_20_code 15 = .ok (.aload_n 0, 1) := by decide +kernel
theorem xd_49_16 : decode prog_12_method_20_code 16 = .ok (.getfield 16, 3) := by decide +kernel
theorem xd_49_19 : decode prog_12_method_20_code 19 = .ok (.iconst 1, 1) := by decide +kernel
theorem xd_49_20 : decode prog_12_method_20_code 20 = .ok (.iconst 0, 1) := by decide +kernel
theorem xd_49_21 : decode prog_12_method_20_code 21 = .ok (.iastore, 1) := by decide +kernel
theorem xd_49_22 : decode prog_12_method_20_code 22 = .ok (.aload_n 0, 1) := by decide +kernel
theorem xd_49_23 : decode prog_12_method_20_code 23 = .ok (.getfield 85, 3) := by decide +kernel
theorem xd_49_26 : decode prog_12_method_20_code 26 = .ok (.iconst (-1), 1) := by decide +kernel
theorem xd_49_27 : decode prog_12_method_20_code 27 = .ok (.if_icmp .ne 17, 3) := by decide +kernel
theorem xd_49_30 : decode prog_12_method_20_code 30 = .ok (.aload_n 0, 1) := by decide +kernel
theorem xd_49_31 : decode prog_12_method_20_code 31 = .ok (.invokevirtual 88, 3) := by decide +kernel
theorem xd_49_34 : decode prog_12_method_20_code 34 = .ok (.ifCond .eq 10, 3) := by decide +kernel
theorem xd_49_37 : decode prog_12_method_20_code 37 = .ok (.aload_n 0, 1) := by decide +kernel
theorem xd_49_38 : decode prog_12_method_20_code 38 = .ok (.invokevirtual 125, 3) := by decide +kernel
theorem xd_49_41 : decode prog_12_method_20_code 41 = .ok (.goto (-19), 3) := by decide +kernel
theorem xd_49_44 : decode prog_12_method_20_code 44 = .ok (.aload_n 0, 1) := by decide +kernel
theorem xd_49_45 : decode prog_12_method_20_code 45 = .ok (.getfield 85, 3) := by decide +kernel
theorem xd_49_48 : decode prog_12_method_20_code 48 = .ok (.iconst (-1), 1) := by decide +kernel
theorem xd_49_49 : decode prog_12_method_20_code 49 = .ok (.if_icmp .eq 10, 3) := by decide +kernel
theorem xd_49_52 : decode prog_12_method_20_code 52 = .ok (.iconst (-1), 1) := by decide +kernel
theorem xd_49_53 : decode prog_12_method_20_code 53 = .ok (.aload_n 0, 1) := by decide +kernel
theorem xd_49_54 : decode prog_12_method_20_code 54 = .ok (.getfield 85, 3) := by decide +kernel
theorem xd_49_57 : decode prog_12_method_20_code 57 = .ok (.isub, 1) := by decide +kernel
theorem xd_49_58 : decode prog_12_method_20_code 58 = .ok (.ireturn, 1) := by decide +kernel
theorem xd_49_59 : decode prog_12_method_20_code 59 = .ok (.aload_n 0, 1) := by decide +kernel
theorem xd_49_60 : decode prog_12_method_20_code 60 = .ok (.getfield 16, 3) := by decide +kernel
theorem xd_49_63 : decode prog_12_method_20_code 63 = .ok (.iconst 0, 1) := by decide +kernel
theorem xd_49_64 : decode prog_12_method_20_code 64 = .ok (.aload_n 0, 1) := by decide +kernel
theorem xd_49_65 : decode prog_12_method_20_code 65 = .ok (.getfield 16, 3) := by decide +kernel
theorem xd_49_68 : decode prog_12_method_20_code 68 = .ok (.iconst 1, 1) := by decide +kernel
theorem xd_49_69 : decode prog_12_method_20_code 69 = .ok (.iaload, 1) := by decide +kernel
theorem xd_49_70 : decode prog_12_method_20_code 70 = .ok (.iastore, 1) := by decide +kernel
theorem xd_49_71 : decode prog_12_method_20_code 71 = .ok (.iconst 0, 1) := by decide +kernel
theorem xd_49_72 : decode prog_12_method_20_code 72 = .ok (.istore_n 1, 1) := by decide +kernel
theorem xd_49_73 : decode prog_12_method_20_code 73 = .ok (.iload_n 1, 1) := by decide +kernel
theorem xd_49_74 : decode prog_12_method_20_code 74 = .ok (.bipush 12, 2) := by decide +kernel
theorem xd_49_76 : decode prog_12_method_20_code 76 = .ok (.if_icmp .ge 128, 3) := by decide +kernel
theorem xd_49_79 : decode prog_12_method_20_code 79 = .ok (.aload_n 0, 1) := by decide +kernel
theorem xd_49_80 : decode prog_12_method_20_code 80 = .ok (.getfield 19, 3) := by decide +kernel
theorem xd_49_83 : decode prog_12_method_20_code 83 = .ok (.iload_n 1, 1) := by decide +kernel
theorem xd_49_84 : decode prog_12_method_20_code 84 = .ok (.aload_n 0, 1) := by decide +kernel
theorem xd_49_85 : decode prog_12_method_20_code 85 = .ok (.getfield 19, 3) := by decide +kernel
theorem xd_49_88 : decode prog_12_method_20_code 88 = .ok (.bipush 12, 2) := by decide +kernel
theorem xd_49_90 : decode prog_12_method_20_code 90 = .ok (.iload_n 1, 1) := by decide +kernel
theorem xd_49_91 : decode prog_12_method_20_code 91 = .ok (.iadd, 1) := by decide +kernel
theorem xd_49_92 : decode prog_12_method_20_code 92 = .ok (.iaload, 1) := by decide +kernel
theorem xd_49_93 : decode prog_12_method_20_code 93 = .ok (.iastore, 1) := by decide +kernel
theorem xd_49_94 : decode prog_12_method_20_code 94 = .ok (.aload_n 0, 1) := by decide +kernel
theorem xd_49_95 : decode prog_12_method_20_code 95 = .ok (.getfield 25, 3) := by decide +kernel
theorem xd_49_98 : decode prog_12_method_20_code 98 = .ok (.iload_n 1, 1) := by decide +kernel
theorem xd_49_99 : decode prog_12_method_20_code 99 = .ok (.aload_n 0, 1) := by decide +kernel
theorem xd_49_100 : decode prog_12_method_20_code 100 = .ok (.getfield 25, 3) := by decide +kernel
theorem xd_49_103 : decode prog_12_method_20_code 103 = .ok (.bipush 12, 2) := by decide +kernel
theorem xd_49_105 : decode prog_12_method_20_code 105 = .ok (.iload_n 1, 1) := by decide +kernel
theorem xd_49_106 : decode prog_12_method_20_code 106 = .ok (.iadd, 1) := by decide +kernel
theorem xd_49_107 : decode prog_12_method_20_code 107 = .ok (.iaload, 1) := by decide +kernel
theorem xd_49_108 : decode prog_12_method_20_code 108 = .ok (.iastore, 1) := by decide +kernel
theorem xd_49_109 : decode prog_12_method_20_code 109 = .ok (.iconst 0, 1) := by decide +kernel
theorem xd_49_110 : decode prog_12_method_20_code 110 = .ok (.istore_n 2, 1) := by decide +kernel
theorem xd_49_111 : decode prog_12_method_20_code 111 = .ok (.iload_n 2, 1) := by decide +kernel
theorem xd_49_112 : decode prog_12_method_20_code 112 = .ok (.bipush 8, 2) := by decide +kernel
theorem xd_49_114 : decode prog_12_method_20_code 114 = .ok (.if_icmp .ge 84, 3) := by decide +kernel
theorem xd_49_117 : decode prog_12_method_20_code 117 = .ok (.aload_n 0, 1) := by decide +kernel
theorem xd_49_118 : decode prog_12_method_20_code 118 = .ok (.getfield 22, 3) := by decide +kernel
theorem xd_49_121 : decode prog_12_method_20_code 121 = .ok (.bipush 8, 2) := by decide +kernel
theorem xd_49_123 : decode prog_12_method_20_code 123 = .ok (.iload_n 1, 1) := by decide +kernel
theorem xd_49_124 : decode prog_12_method_20_code 124 = .ok (.imul, 1) := by decide +kernel
theorem xd_49_125 : decode prog_12_method_20_code 125 = .ok (.iload_n 2, 1) := by decide +kernel
theorem xd_49_126 : decode prog_12_method_20_code 126 = .ok (.iadd, 1) := by decide +kernel
theorem xd_49_127 : decode prog_12_method_20_code 127 = .ok (.aload_n 0, 1) := by decide +kernel
theorem xd_49_128 : decode prog_12_method_20_code 128 = .ok (.getfield 22, 3) := by decide +kernel
theorem xd_49_131 : decode prog_12_method_20_code 131 = .ok (.bipush 8, 2) := by decide +kernel
theorem xd_49_133 : decode prog_12_method_20_code 133 = .ok (.bipush 12, 2) := by decide +kernel
theorem xd_49_135 : decode prog_12_method_20_code 135 = .ok (.iload_n 1, 1) := by decide +kernel
theorem xd_49_136 : decode prog_12_method_20_code 136 = .ok (.iadd, 1) := by decide +kernel
theorem xd_49_137 : decode prog_12_method_20_code 137 = .ok (.imul, 1) := by decide +kernel
theorem xd_49_138 : decode prog_12_method_20_code 138 = .ok (.iload_n 2, 1) := by decide +kernel
theorem xd_49_139 : decode prog_12_method_20_code 139 = .ok (.iadd, 1) := by decide +kernel
theorem xd_49_140 : decode prog_12_method_20_code 140 = .ok (.iaload, 1) := by decide +kernel
theorem xd_49_141 : decode prog_12_method_20_code 141 = .ok (.iastore, 1) := by decide +kernel
theorem xd_49_142 : decode prog_12_method_20_code 142 = .ok (.aload_n 0, 1) := by decide +kernel
theorem xd_49_143 : decode prog_12_method_20_code 143 = .ok (.getfield 28, 3) := by decide +kernel
theorem xd_49_146 : decode prog_12_method_20_code 146 = .ok (.bipush 8, 2) := by decide +kernel
theorem xd_49_148 : decode prog_12_method_20_code 148 = .ok (.iload_n 1, 1) := by decide +kernel
theorem xd_49_149 : decode prog_12_method_20_code 149 = .ok (.imul, 1) := by decide +kernel
theorem xd_49_150 : decode prog_12_method_20_code 150 = .ok (.iload_n 2, 1) := by decide +kernel
theorem xd_49_151 : decode prog_12_method_20_code 151 = .ok (.iadd, 1) := by decide +kernel
theorem xd_49_152 : decode prog_12_method_20_code 152 = .ok (.aload_n 0, 1) := by decide +kernel
theorem xd_49_153 : decode prog_12_method_20_code 153 = .ok (.getfield 28, 3) := by decide +kernel
theorem xd_49_156 : decode prog_12_method_20_code 156 = .ok (.bipush 8, 2) := by decide +kernel
theorem xd_49_158 : decode prog_12_method_20_code 158 = .ok (.bipush 12, 2) := by decide +kernel
theorem xd_49_160 : decode prog_12_method_20_code 160 = .ok (.iload_n 1, 1) := by decide +kernel
theorem xd_49_161 : decode prog_12_method_20_code 161 = .ok (.iadd, 1) := by decide +kernel
theorem xd_49_162 : decode prog_12_method_20_code 162 = .ok (.imul, 1) := by decide +kernel
theorem xd_49_163 : decode prog_12_method_20_code 163 = .ok (.iload_n 2, 1) := by decide +kernel
theorem xd_49_164 : decode prog_12_method_20_code 164 = .ok (.iadd, 1) := by decide +kernel
theorem xd_49_165 : decode prog_12_method_20_code 165 = .ok (.iaload, 1) := by decide +kernel
theorem xd_49_166 : decode prog_12_method_20_code 166 = .ok (.iastore, 1) := by decide +kernel
theorem xd_49_167 : decode prog_12_method_20_code 167 = .ok (.aload_n 0, 1) := by decide +kernel
theorem xd_49_168 : decode prog_12_method_20_code 168 = .ok (.getfield 31, 3) := by decide +kernel
theorem xd_49_171 : decode prog_12_method_20_code 171 = .ok (.bipush 8, 2) := by decide +kernel
theorem xd_49_173 : decode prog_12_method_20_code 173 = .ok (.iload_n 1, 1) := by decide +kernel
theorem xd_49_174 : decode prog_12_method_20_code 174 = .ok (.imul, 1) := by decide +kernel
theorem xd_49_175 : decode prog_12_method_20_code 175 = .ok (.iload_n 2, 1) := by decide +kernel
theorem xd_49_176 : decode prog_12_method_20_code 176 = .ok (.iadd, 1) := by decide +kernel
theorem xd_49_177 : decode prog_12_method_20_code 177 = .ok (.aload_n 0, 1) := by decide +kernel
theorem xd_49_178 : decode prog_12_method_20_code 178 = .ok (.getfield 31, 3) := by decide +kernel
theorem xd_49_181 : decode prog_12_method_20_code 181 = .ok (.bipush 8, 2) := by decide +kernel
theorem xd_49_183 : decode prog_12_method_20_code 183 = .ok (.bipush 12, 2) := by decide +kernel
theorem xd_49_185 : decode prog_12_method_20_code 185 = .ok (.iload_n 1, 1) := by decide +kernel
theorem xd_49_186 : decode prog_12_method_20_code 186 = .ok (.iadd, 1) := by decide +kernel
theorem xd_49_187 : decode prog_12_method_20_code 187 = .ok (.imul, 1) := by decide +kernel
theorem xd_49_188 : decode prog_12_method_20_code 188 = .ok (.iload_n 2, 1) := by decide +kernel
theorem xd_49_189 : decode prog_12_method_20_code 189 = .ok (.iadd, 1) := by decide +kernel
theorem xd_49_190 : decode prog_12_method_20_code 190 = .ok (.baload, 1) := by decide +kernel
theorem xd_49_191 : decode prog_12_method_20_code 191 = .ok (.bastore, 1) := by decide +kernel
theorem xd_49_192 : decode prog_12_method_20_code 192 = .ok (.iinc 2 1, 3) := by decide +kernel
theorem xd_49_195 : decode prog_12_method_20_code 195 = .ok (.goto (-84), 3) := by decide +kernel
theorem xd_49_198 : decode prog_12_method_20_code 198 = .ok (.iinc 1 1, 3) := by decide +kernel
theorem xd_49_201 : decode prog_12_method_20_code 201 = .ok (.goto (-128), 3) := by decide +kernel
theorem xd_49_204 : decode prog_12_method_20_code 204 = .ok (.aload_n 0, 1) := by decide +kernel
theorem xd_49_205 : decode prog_12_method_20_code 205 = .ok (.iconst 0, 1) := by decide +kernel
theorem xd_49_206 : decode prog_12_method_20_code 206 = .ok (.putfield 79, 3) := by decide +kernel
theorem xd_49_209 : decode prog_12_method_20_code 209 = .ok (.aload_n 0, 1) := by decide +kernel
theorem xd_49_210 : decode prog_12_method_20_code 210 = .ok (.getfield 16, 3) := by decide +kernel
theorem xd_49_213 : decode prog_12_method_20_code 213 = .ok (.iconst 0, 1) := by decide +kernel
theorem xd_49_214 : decode prog_12_method_20_code 214 = .ok (.iaload, 1) := by decide +kernel
theorem xd_49_215 : decode prog_12_method_20_code 215 = .ok (.ireturn, 1) := by decide +kernel
theorem xd_50_0 : decode prog_12_method_21_code 0 = .ok (.bipush 40, 2) := by decide +kernel
theorem xd_50_2 : decode prog_12_method_21_code 2 = .ok (.iload_n 1, 1) := by decide +kernel
theorem xd_50_3 : decode prog_12_method_21_code 3 = .ok (.imul, 1) := by decide +kernel
theorem xd_50_4 : decode prog_12_method_21_code 4 = .ok (.istore_n 3, 1) := by decide +kernel
theorem xd_50_5 : decode prog_12_method_21_code 5 = .ok (.iload_n 3, 1) := by decide +kernel
theorem xd_50_6 : decode prog_12_method_21_code 6 = .ok (.bipush 40, 2) := by decide +kernel
theorem xd_50_8 : decode prog_12_method_21_code 8 = .ok (.iload_n 1, 1) := by decide +kernel
theorem xd_50_9 : decode prog_12_method_21_code 9 = .ok (.imul, 1) := by decide +kernel
theorem xd_50_10 : decode prog_12_method_21_code 10 = .ok (.aload_n 0, 1) := by decide +kernel
theorem xd_50_11 : decode prog_12_method_21_code 11 = .ok (.getfield 35, 3) := by decide +kernel
theorem xd_50_14 : decode prog_12_method_21_code 14 = .ok (.iload_n 1, 1) := by decide +kernel
theorem xd_50_15 : decode prog_12_method_21_code 15 = .ok (.iaload, 1) := by decide +kernel
theorem xd_50_16 : decode prog_12_method_21_code 16 = .ok (.iadd, 1) := by decide +kernel
theorem xd_50_17 : decode prog_12_method_21_code 17 = .ok (.if_icmp .ge 21, 3) := by decide +kernel
theorem xd_50_20 : decode prog_12_method_21_code 20 = .ok (.aload_n 0, 1) := by decide +kernel
theorem xd_50_21 : decode prog_12_method_21_code 21 = .ok (.getfield 38, 3) := by decide +kernel
theorem xd_50_24 : decode prog_12_method_21_code 24 = .ok (.iload_n 3, 1) := by decide +kernel
theorem xd_50_25 : decode prog_12_method_21_code 25 = .ok (.iaload, 1) := by decide +kernel
theorem xd_50_26 : decode prog_12_method_21_code 26 = .ok (.iload_n 2, 1) := by decide +kernel
theorem xd_50_27 : decode prog_12_method_21_code 27 = .ok (.if_icmp .ne 5, 3) := by decide +kernel
theorem xd_50_30 : decode prog_12_method_21_code 30 = .ok (.iload_n 3, 1) := by decide +kernel
theorem xd_50_31 : decode prog_12_method_21_code 31 = .ok (.ireturn, 1) := by decide +kernel
theorem xd_50_32 : decode prog_12_method_21_code 32 = .ok (.iinc 3 1, 3) := by decide +kernel
theorem xd_50_35 : decode prog_12_method_21_code 35 = .ok (.goto (-30), 3) := by decide +kernel
theorem xd_50_38 : decode prog_12_method_21_code 38 = .ok (.iconst (-1), 1) := by decide +kernel
theorem xd_50_39 : decode prog_12_method_21_code 39 = .ok (.ireturn, 1) := by decide +kernel
theorem xd_51_0 : decode prog_12_method_22_code 0 = .ok (.aload_n 0, 1) := by decide +kernel
theorem xd_51_1 : decode prog_12_method_22_code 1 = .ok (.getfield 82, 3) := by decide +kernel
theorem xd_51_4 : decode prog_12_method_22_code 4 = .ok (.istore_n 2, 1) := by decide +kernel
theorem xd_51_5 : decode prog_12_method_22_code 5 = .ok (.iconst 0, 1) := by decide +kernel
theorem xd_51_6 : decode prog_12_method_22_code 6 = .ok (.istore_n 3, 1) := by decide +kernel
theorem xd_51_7 : decode prog_12_method_22_code 7 = .ok (.aload_n 0, 1) := by decide +kernel
theorem xd_51_8 : decode prog_12_method_22_code 8 = .ok (.getfield 82, 3) := by decide +kernel
theorem xd_51_11 : decode prog_12_method_22_code 11 = .ok (.iconst 1, 1) := by decide +kernel
theorem xd_51_12 : decode prog_12_method_22_code 12 = .ok (.iadd, 1) := by decide +kernel
theorem xd_51_13 : decode prog_12_method_22_code 13 = .ok (.istore 4, 2) := by decide +kernel
theorem xd_51_15 : decode prog_12_method_22_code 15 = .ok (.iconst 1, 1) := by decide +kernel
theorem xd_51_16 : decode prog_12_method_22_code 16 = .ok (.istore 5, 2) := by decide +kernel
theorem xd_51_18 : decode prog_12_method_22_code 18 = .ok (.iload 5, 2) := by decide +kernel
theorem xd_51_20 : decode prog_12_method_22_code 20 = .ok (.ifCond .eq 167, 3) := by decide +kernel
theorem xd_51_23 : decode prog_12_method_22_code 23 = .ok (.aload_n 0, 1) := by decide +kernel
theorem xd_51_24 : decode prog_12_method_22_code 24 = .ok (.getfield 85, 3) := by decide +kernel
theorem xd_51_27 : decode prog_12_method_22_code 27 = .ok (.iconst (-1), 1) := by decide +kernel
theorem xd_51_28 : decode prog_12_method_22_code 28 = .ok (.if_icmp .ne 159, 3) := by decide +kernel
theorem xd_51_31 : decode prog_12_method_22_code 31 = .ok (.iload 4, 2) := by decide +kernel
theorem xd_51_33 : decode prog_12_method_22_code 33 = .ok (.aload_n 0, 1) := by decide +kernel
theorem xd_51_34 : decode prog_12_method_22_code 34 = .ok (.getfield 79, 3) := by decide +kernel
theorem xd_51_37 : decode prog_12_method_22_code 37 = .ok (.if_icmp .ge 19, 3) := by decide +kernel
theorem xd_51_40 : decode prog_12_method_22_code 40 = .ok (.aload_n 0, 1) := by decide +kernel
theorem xd_51_41 : decode prog_12_method_22_code 41 = .ok (.getfield 7, 3) := by decide +kernel
theorem xd_51_44 : decode prog_12_method_22_code 44 = .ok (.iload 4, 2) := by decide +kernel
theorem xd_51_46 : decode prog_12_method_22_code 46 = .ok (.iaload, 1) := by decide +kernel
theorem xd_51_47 : decode prog_12_method_22_code 47 = .ok (.bipush 39, 2) := by decide +kernel
theorem xd_51_49 : decode prog_12_method_22_code 49 = .ok (.if_icmp .ne 7, 3) := by decide +kernel
theorem xd_51_52 : decode prog_12_method_22_code 52 = .ok (.iconst 1, 1) := by decide +kernel
theorem xd_51_53 : decode prog_12_method_22_code 53 = .ok (.goto 4, 3) := by decide +kernel
theorem xd_51_56 : decode prog_12_method_22_code 56 = .ok (.iconst 0, 1) := by decide +kernel
theorem xd_51_57 : decode prog_12_method_22_code 57 = .ok (.istore 6, 2) := by decide +kernel
theorem xd_51_59 : decode prog_12_method_22_code 59 = .ok (.iload 6, 2) := by decide +kernel
theorem xd_51_61 : decode prog_12_method_22_code 61 = .ok (.ifCond .eq 32, 3) := by decide +kernel
theorem xd_51_64 : decode prog_12_method_22_code 64 = .ok (.iload 4, 2) := by decide +kernel
theorem xd_51_66 : decode prog_12_method_22_code 66 = .ok (.iconst 1, 1) := by decide +kernel
theorem xd_51_67 : decode prog_12_method_22_code 67 = .ok (.iadd, 1) := by decide +kernel
theorem xd_51_68 : decode prog_12_method_22_code 68 = .ok (.aload_n 0, 1) := by decide +kernel
theorem xd_51_69 : decode prog_12_method_22_code 69 = .ok (.getfield 79, 3) := by decide +kernel
theorem xd_51_72 : decode prog_12_method_22_code 72 = .ok (.if_icmp .ge 21, 3) := by decide +kernel
theorem xd_51_75 : decode prog_12_method_22_code 75 = .ok (.aload_n 0, 1) := by decide +kernel
theorem xd_51_76 : decode prog_12_method_22_code 76 = .ok (.getfield 7, 3) := by decide +kernel
theorem xd_51_79 : decode prog_12_method_22_code 79 = .ok (.iload 4, 2) := by decide +kernel
theorem xd_51_81 : decode prog_12_method_22_code 81 = .ok (.iconst 1, 1) := by decide +kernel
theorem xd_51_82 : decode prog_12_method_22_code 82 = .ok (.iadd, 1) := by decide +kernel
theorem xd_51_83 : decode prog_12_method_22_code 83 = .ok (.iaload, 1) := by decide +kernel
theorem xd_51_84 : decode prog_12_method_22_code 84 = .ok (.bipush 39, 2) := by decide +kernel
theorem xd_51_86 : decode prog_12_method_22_code 86 = .ok (.if_icmp .ne 7, 3) := by decide +kernel
theorem xd_51_89 : decode prog_12_method_22_code 89 = .ok (.iconst 1, 1) := by decide +kernel
theorem xd_51_90 : decode prog_12_method_22_code 90 = .ok (.goto 4, 3) := by decide +kernel
theorem xd_51_93 : decode prog_12_method_22_code 93 = .ok (.iconst 0, 1) := by decide +kernel
theorem xd_51_94 : decode prog_12_method_22_code 94 = .ok (.istore 7, 2) := by decide +kernel
theorem xd_51_96 : decode prog_12_method_22_code 96 = .ok (.iload 4, 2) := by decide +kernel
theorem xd_51_98 : decode prog_12_method_22_code 98 = .ok (.aload_n 0, 1) := by decide +kernel
theorem xd_51_99 : decode prog_12_method_22_code 99 = .ok (.getfield 79, 3) := by decide +kernel
theorem xd_51_102 : decode prog_12_method_22_code 102 = .ok (.if_icmp .ge 19, 3) := by decide +kernel
theorem xd_51_105 : decode prog_12_method_22_code 105 = .ok (.iload_n 3, 1) := by decide +kernel
theorem xd_51_106 : decode prog_12_method_22_code 106 = .ok (.bipush 20, 2) := by decide +kernel
theorem xd_51_108 : decode prog_12_method_22_code 108 = .ok (.if_icmp .ne 21, 3) := by decide +kernel
theorem xd_51_111 : decode prog_12_method_22_code 111 = .ok (.iload 6, 2) := by decide +kernel
theorem xd_51_113 : decode prog_12_method_22_code 113 = .ok (.ifCond .eq 8, 3) := by decide +kernel
theorem xd_51_116 : decode prog_12_method_22_code 116 = .ok (.iload 7, 2) := by decide +kernel
theorem xd_51_118 : decode prog_12_method_22_code 118 = .ok (.ifCond .eq 11, 3) := by decide +kernel
theorem xd_51_121 : decode prog_12_method_22_code 121 = .ok (.aload_n 0, 1) := by decide +kernel
theorem xd_51_122 : decode prog_12_method_22_code 122 = .ok (.iload_n 2, 1) := by decide +kernel
theorem xd_51_123 : decode prog_12_method_22_code 123 = .ok (.invokevirtual 92, 3) := by decide +kernel
theorem xd_51_126 : decode prog_12_method_22_code 126 = .ok (.goto 58, 3) := by decide +kernel
theorem xd_51_129 : decode prog_12_method_22_code 129 = .ok (.iload 6, 2) := by decide +kernel
theorem xd_51_131 : decode prog_12_method_22_code 131 = .ok (.ifCond .eq 17, 3) := by decide +kernel
theorem xd_51_134 : decode prog_12_method_22_code 134 = .ok (.iload 7, 2) := by decide +kernel
theorem xd_51_136 : decode prog_12_method_22_code 136 = .ok (.ifCond .ne 12, 3) := by decide +kernel
theorem xd_51_139 : decode prog_12_method_22_code 139 = .ok (.iconst 0, 1) := by decide +kernel
theorem xd_51_140 : decode prog_12_method_22_code 140 = .ok (.istore 5, 2) := by decide +kernel
theorem xd_51_142 : decode prog_12_method_22_code 142 = .ok (.iinc 4 1, 3) := by decide +kernel
theorem xd_51_145 : decode prog_12_method_22_code 145 = .ok (.goto 39, 3) := by decide +kernel
theorem xd_51_148 : decode prog_12_method_22_code 148 = .ok (.aload_n 0, 1) := by decide +kernel
theorem xd_51_149 : decode prog_12_method_22_code 149 = .ok (.getfield 56, 3) := by decide +kernel
theorem xd_51_152 : decode prog_12_method_22_code 152 = .ok (.bipush 20, 2) := by decide +kernel
theorem xd_51_154 : decode prog_12_method_22_code 154 = .ok (.iload_n 1, 1) := by decide +kernel
theorem xd_51_155 : decode prog_12_method_22_code 155 = .ok (.imul, 1) := by decide +kernel
theorem xd_51_156 : decode prog_12_method_22_code 156 = .ok (.iload_n 3, 1) := by decide +kernel
theorem xd_51_157 : decode prog_12_method_22_code 157 = .ok (.iadd, 1) := by decide +kernel
theorem xd_51_158 : decode prog_12_method_22_code 158 = .ok (.aload_n 0, 1) := by decide +kernel
theorem xd_51_159 : decode prog_12_method_22_code 159 = .ok (.getfield 7, 3) := by decide +kernel
theorem xd_51_162 : decode prog_12_method_22_code 162 = .ok (.iload 4, 2) := by decide +kernel
theorem xd_51_164 : decode prog_12_method_22_code 164 = .ok (.iaload, 1) := by decide +kernel
theorem xd_51_165 : decode prog_12_method_22_code 165 = .ok (.iastore, 1) := by decide +kernel
theorem xd_51_166 : decode prog_12_method_22_code 166 = .ok (.iinc 3 1, 3) := by decide +kernel
theorem xd_51_169 : decode prog_12_method_22_code 169 = .ok (.iload 4, 2) := by decide +kernel
theorem xd_51_171 : decode prog_12_method_22_code 171 = .ok (.iload 7, 2) := by decide +kernel
theorem xd_51_173 : decode prog_12_method_22_code 173 = .ok (.ifCond .eq 7, 3) := by decide +kernel
theorem xd_51_176 : decode prog_12_method_22_code 176 = .ok (.iconst 2, 1) := by decide +kernel
theorem xd_51_177 : decode prog_12_method_22_code 177 = .ok (.goto 4, 3) := by decide +kernel
theorem xd_51_180 : decode prog_12_method_22_code 180 = .ok (.iconst 1, 1) := by decide +kernel
theorem xd_51_181 : decode prog_12_method_22_code 181 = .ok (.iadd, 1) := by decide +kernel
theorem xd_51_182 : decode prog_12_method_22_code 182 = .ok (.istore 4, 2) := by decide +kernel
theorem xd_51_184 : decode prog_12_method_22_code 184 = .ok (.goto (-166), 3) := by decide +kernel
theorem xd_51_187 : decode prog_12_method_22_code 187 = .ok (.aload_n 0, 1) := by decide +kernel
theorem xd_51_188 : decode prog_12_method_22_code 188 = .ok (.iload 4, 2) := by decide +kernel
theorem xd_51_190 : decode prog_12_method_22_code 190 = .ok (.putfield 82, 3) := by decide +kernel
theorem xd_51_193 : decode prog_12_method_22_code 193 = .ok (.aload_n 0, 1) := by decide +kernel
theorem xd_51_194 : decode prog_12_method_22_code 194 = .ok (.getfield 50, 3) := by decide +kernel
theorem xd_51_197 : decode prog_12_method_22_code 197 = .ok (.iload_n 1, 1) := by decide +kernel
theorem xd_51_198 : decode prog_12_method_22_code 198 = .ok (.iconst 1, 1) := by decide +kernel
theorem xd_51_199 : decode prog_12_method_22_code 199 = .ok (.iastore, 1) := by decide +kernel
theorem xd_51_200 : decode prog_12_method_22_code 200 = .ok (.aload_n 0, 1) := by decide +kernel
theorem xd_51_201 : decode prog_12_method_22_code 201 = .ok (.getfield 53, 3) := by decide +kernel
theorem xd_51_204 : decode prog_12_method_22_code 204 = .ok (.iload_n 1, 1) := by decide +kernel
theorem xd_51_205 : decode prog_12_method_22_code 205 = .ok (.iload_n 3, 1) := by decide +kernel
theorem xd_51_206 : decode prog_12_method_22_code 206 = .ok (.iastore, 1) := by decide +kernel
theorem xd_51_207 : decode prog_12_method_22_code 207 = .ok (.return_, 1) := by decide +kernel
theorem xd_52_0 : decode prog_12_method_23_code 0 = .ok (.aload_n 0, 1) := by decide +kernel
theorem xd_52_1 : decode prog_12_method_23_code 1 = .ok (.bipush 40, 2) := by decide +kernel
theorem xd_52_3 : decode prog_12_method_23_code 3 = .ok (.invokevirtual 110, 3) := by decide +kernel
theorem xd_52_6 : decode prog_12_method_23_code 6 = .ok (.iconst 0, 1) := by decide +kernel
theorem xd_52_7 : decode prog_12_method_23_code 7 = .ok (.istore_n 2, 1) := by decide +kernel
theorem xd_52_8 : decode prog_12_method_23_code 8 = .ok (.aload_n 0, 1) := by decide +kernel
theorem xd_52_9 : decode prog_12_method_23_code 9 = .ok (.invokevirtual 88, 3) := by decide +kernel
theorem xd_52_12 : decode prog_12_method_23_code 12 = .ok (.istore_n 3, 1) := by decide +kernel
theorem xd_52_13 : decode prog_12_method_23_code 13 = .ok (.aload_n 0, 1) := by decide +kernel
theorem xd_52_14 : decode prog_12_method_23_code 14 = .ok (.getfield 50, 3) := by decide +kernel
theorem xd_52_17 : decode prog_12_method_23_code 17 = .ok (.iload_n 1, 1) := by decide +kernel
theorem xd_52_18 : decode prog_12_method_23_code 18 = .ok (.iload_n 3, 1) := by decide +kernel
theorem xd_52_19 : decode prog_12_method_23_code 19 = .ok (.bipush 35, 2) := by decide +kernel
theorem xd_52_21 : decode prog_12_method_23_code 21 = .ok (.if_icmp .ne 7, 3) := by decide +kernel
theorem xd_52_24 : decode prog_12_method_23_code 24 = .ok (.iconst 4, 1) := by decide +kernel
theorem xd_52_25 : decode prog_12_method_23_code 25 = .ok (.goto 4, 3) := by decide +kernel
theorem xd_52_28 : decode prog_12_method_23_code 28 = .ok (.iconst 3, 1) := by decide +kernel
theorem xd_52_29 : decode prog_12_method_23_code 29 = .ok (.iastore, 1) := by decide +kernel
theorem xd_52_30 : decode prog_12_method_23_code 30 = .ok (.iload_n 3, 1) := by decide +kernel
theorem xd_52_31 : decode prog_12_method_23_code 31 = .ok (.bipush 41, 2) := by decide +kernel
theorem xd_52_33 : decode prog_12_method_23_code 33 = .ok (.if_icmp .eq 7, 3) := by decide +kernel
theorem xd_52_36 : decode prog_12_method_23_code 36 = .ok (.iconst 1, 1) := by decide +kernel
theorem xd_52_37 : decode prog_12_method_23_code 37 = .ok (.goto 4, 3) := by decide +kernel
theorem xd_52_40 : decode prog_12_method_23_code 40 = .ok (.iconst 0, 1) := by decide +kernel
theorem xd_52_41 : decode prog_12_method_23_code 41 = .ok (.istore 4, 2) := by decide +kernel
theorem xd_52_43 : decode prog_12_method_23_code 43 = .ok (.iload 4, 2) := by decide +kernel
theorem xd_52_45 : decode prog_12_method_23_code 45 = .ok (.ifCond .eq 145, 3) := by decide +kernel
theorem xd_52_48 : decode prog_12_method_23_code 48 = .ok (.aload_n 0, 1) := by decide +kernel
theorem xd_52_49 : decode prog_12_method_23_code 49 = .ok (.getfield 85, 3) := by decide +kernel
theorem xd_52_52 : decode prog_12_method_23_code 52 = .ok (.iconst (-1), 1) := by decide +kernel
theorem xd_52_53 : decode prog_12_method_23_code 53 = .ok (.if_icmp .ne 137, 3) := by decide +kernel
theorem xd_52_56 : decode prog_12_method_23_code 56 = .ok (.aload_n 0, 1) := by decide +kernel
theorem xd_52_57 : decode prog_12_method_23_code 57 = .ok (.invokevirtual 88, 3) := by decide +kernel
theorem xd_52_60 : decode prog_12_method_23_code 60 = .ok (.istore_n 3, 1) := by decide +kernel
theorem xd_52_61 : decode prog_12_method_23_code 61 = .ok (.aload_n 0, 1) := by decide +kernel
theorem xd_52_62 : decode prog_12_method_23_code 62 = .ok (.getfield 50, 3) := by decide +kernel
theorem xd_52_65 : decode prog_12_method_23_code 65 = .ok (.iload_n 1, 1) := by decide +kernel
theorem xd_52_66 : decode prog_12_method_23_code 66 = .ok (.iaload, 1) := by decide +kernel
theorem xd_52_67 : decode prog_12_method_23_code 67 = .ok (.iconst 4, 1) := by decide +kernel
theorem xd_52_68 : decode prog_12_method_23_code 68 = .ok (.if_icmp .ne 17, 3) := by decide +kernel
theorem xd_52_71 : decode prog_12_method_23_code 71 = .ok (.iload_n 3, 1) := by decide +kernel
theorem xd_52_72 : decode prog_12_method_23_code 72 = .ok (.bipush 35, 2) := by decide +kernel
theorem xd_52_74 : decode prog_12_method_23_code 74 = .ok (.if_icmp .ne 7, 3) := by decide +kernel
theorem xd_52_77 : decode prog_12_method_23_code 77 = .ok (.iconst 1, 1) := by decide +kernel
theorem xd_52_78 : decode prog_12_method_23_code 78 = .ok (.goto 11, 3) := by decide +kernel
theorem xd_52_81 : decode prog_12_method_23_code 81 = .ok (.iconst 0, 1) := by decide +kernel
theorem xd_52_82 : decode prog_12_method_23_code 82 = .ok (.goto 7, 3) := by decide +kernel
theorem xd_52_85 : decode prog_12_method_23_code 85 = .ok (.iload_n 3, 1) := by decide +kernel
theorem xd_52_86 : decode prog_12_method_23_code 86 = .ok (.invokestatic 128, 3) := by decide +kernel
theorem xd_52_89 : decode prog_12_method_23_code 89 = .ok (.istore 5, 2) := by decide +kernel
theorem xd_52_91 : decode prog_12_method_23_code 91 = .ok (.iload_n 2, 1) := by decide +kernel
theorem xd_52_92 : decode prog_12_method_23_code 92 = .ok (.bipush 6, 2) := by decide +kernel
theorem xd_52_94 : decode prog_12_method_23_code 94 = .ok (.if_icmp .eq 8, 3) := by decide +kernel
theorem xd_52_97 : decode prog_12_method_23_code 97 = .ok (.iload 5, 2) := by decide +kernel
theorem xd_52_99 : decode prog_12_method_23_code 99 = .ok (.ifCond .ne 14, 3) := by decide +kernel
theorem xd_52_102 : decode prog_12_method_23_code 102 = .ok (.aload_n 0, 1) := by decide +kernel
theorem xd_52_103 : decode prog_12_method_23_code 103 = .ok (.aload_n 0, 1) := by decide +kernel
theorem xd_52_104 : decode prog_12_method_23_code 104 = .ok (.getfield 82, 3) := by decide +kernel
theorem xd_52_107 : decode prog_12_method_23_code 107 = .ok (.invokevirtual 92, 3) := by decide +kernel
theorem xd_52_110 : decode prog_12_method_23_code 110 = .ok (.goto 77, 3) := by decide +kernel
theorem xd_52_113 : decode prog_12_method_23_code 113 = .ok (.aload_n 0, 1) := by decide +kernel
theorem xd_52_114 : decode prog_12_method_23_code 114 = .ok (.getfield 56, 3) := by decide +kernel
theorem xd_52_117 : decode prog_12_method_23_code 117 = .ok (.bipush 20, 2) := by decide +kernel
theorem xd_52_119 : decode prog_12_method_23_code 119 = .ok (.iload_n 1, 1) := by decide +kernel
theorem xd_52_120 : decode prog_12_method_23_code 120 = .ok (.imul, 1) := by decide +kernel
theorem xd_52_121 : decode prog_12_method_23_code 121 = .ok (.iload_n 2, 1) := by decide +kernel
theorem xd_52_122 : decode prog_12_method_23_code 122 = .ok (.iadd, 1) := by decide +kernel
theorem xd_52_123 : decode prog_12_method_23_code 123 = .ok (.aload_n 0, 1) := by decide +kernel
theorem xd_52_124 : decode prog_12_method_23_code 124 = .ok (.getfield 50, 3) := by decide +kernel
theorem xd_52_127 : decode prog_12_method_23_code 127 = .ok (.iload_n 1, 1) := by decide +kernel
theorem xd_52_128 : decode prog_12_method_23_code 128 = .ok (.iaload, 1) := by decide +kernel
theorem xd_52_129 : decode prog_12_method_23_code 129 = .ok (.iconst 4, 1) := by decide +kernel
theorem xd_52_130 : decode prog_12_method_23_code 130 = .ok (.if_icmp .ne 10, 3) := by decide +kernel
theorem xd_52_133 : decode prog_12_method_23_code 133 = .ok (.aload_n 0, 1) := by decide +kernel
theorem xd_52_134 : decode prog_12_method_23_code 134 = .ok (.invokevirtual 131, 3) := by decide +kernel
theorem xd_52_137 : decode prog_12_method_23_code 137 = .ok (.goto 7, 3) := by decide +kernel
theorem xd_52_140 : decode prog_12_method_23_code 140 = .ok (.aload_n 0, 1) := by decide +kernel
theorem xd_52_141 : decode prog_12_method_23_code 141 = .ok (.invokevirtual 134, 3) := by decide +kernel
theorem xd_52_144 : decode prog_12_method_23_code 144 = .ok (.iastore, 1) := by decide +kernel
theorem xd_52_145 : decode prog_12_method_23_code 145 = .ok (.iinc 2 1, 3) := by decide +kernel
theorem xd_52_148 : decode prog_12_method_23_code 148 = .ok (.aload_n 0, 1) := by decide +kernel
theorem xd_52_149 : decode prog_12_method_23_code 149 = .ok (.getfield 85, 3) := by decide +kernel
theorem xd_52_152 : decode prog_12_method_23_code 152 = .ok (.iconst (-1), 1) := by decide +kernel
theorem xd_52_153 : decode prog_12_method_23_code 153 = .ok (.if_icmp .ne 16, 3) := by decide +kernel
theorem xd_52_156 : decode prog_12_method_23_code 156 = .ok (.aload_n 0, 1) := by decide +kernel
theorem xd_52_157 : decode prog_12_method_23_code 157 = .ok (.invokevirtual 88, 3) := by decide +kernel
theorem xd_52_160 : decode prog_12_method_23_code 160 = .ok (.bipush 44, 2) := by decide +kernel
theorem xd_52_162 : decode prog_12_method_23_code 162 = .ok (.if_icmp .ne 7, 3) := by decide +kernel
theorem xd_52_165 : decode prog_12_method_23_code 165 = .ok (.iconst 1, 1) := by decide +kernel
theorem xd_52_166 : decode prog_12_method_23_code 166 = .ok (.goto 4, 3) := by decide +kernel
theorem xd_52_169 : decode prog_12_method_23_code 169 = .ok (.iconst 0, 1) := by decide +kernel
theorem xd_52_170 : decode prog_12_method_23_code 170 = .ok (.istore 4, 2) := by decide +kernel
theorem xd_52_172 : decode prog_12_method_23_code 172 = .ok (.iload 4, 2) := by decide +kernel
theorem xd_52_174 : decode prog_12_method_23_code 174 = .ok (.ifCond .eq 13, 3) := by decide +kernel
theorem xd_52_177 : decode prog_12_method_23_code 177 = .ok (.aload_n 0, 1) := by decide +kernel
theorem xd_52_178 : decode prog_12_method_23_code 178 = .ok (.dup, 1) := by decide +kernel
theorem xd_52_179 : decode prog_12_method_23_code 179 = .ok (.getfield 82, 3) := by decide +kernel
theorem xd_52_182 : decode prog_12_method_23_code 182 = .ok (.iconst 1, 1) := by decide +kernel
theorem xd_52_183 : decode prog_12_method_23_code 183 = .ok (.iadd, 1) := by decide +kernel
theorem xd_52_184 : decode prog_12_method_23_code 184 = .ok (.putfield 82, 3) := by decide +kernel
theorem xd_52_187 : decode prog_12_method_23_code 187 = .ok (.goto (-144), 3) := by decide +kernel
theorem xd_52_190 : decode prog_12_method_23_code 190 = .ok (.aload_n 0, 1) := by decide +kernel
theorem xd_52_191 : decode prog_12_method_23_code 191 = .ok (.bipush 41, 2) := by decide +kernel
theorem xd_52_193 : decode prog_12_method_23_code 193 = .ok (.invokevirtual 110, 3) := by decide +kernel
theorem xd_52_196 : decode prog_12_method_23_code 196 = .ok (.aload_n 0, 1) := by decide +kernel
theorem xd_52_197 : decode prog_12_method_23_code 197 = .ok (.getfield 53, 3) := by decide +kernel
theorem xd_52_200 : decode prog_12_method_23_code 200 = .ok (.iload_n 1, 1) := by decide +kernel
theorem xd_52_201 : decode prog_12_method_23_code 201 = .ok (.iload_n 2, 1) := by decide +kernel
theorem xd_52_202 : decode prog_12_method_23_code 202 = .ok (.iastore, 1) := by decide +kernel
theorem xd_52_203 : decode prog_12_method_23_code 203 = .ok (.return_, 1) := by decide +kernel
theorem xd_53_0 : decode prog_12_method_24_code 0 = .ok (.aload_n 0, 1) := by decide +kernel
theorem xd_53_1 : decode prog_12_method_24_code 1 = .ok (.invokevirtual 88, 3) := by decide +kernel
theorem xd_53_4 : decode prog_12_method_24_code 4 = .ok (.istore_n 2, 1) := by decide +kernel
theorem xd_53_5 : decode prog_12_method_24_code 5 = .ok (.aload_n 0, 1) := by decide +kernel
theorem xd_53_6 : decode prog_12_method_24_code 6 = .ok (.getfield 53, 3) := by decide +kernel
theorem xd_53_9 : decode prog_12_method_24_code 9 = .ok (.iload_n 1, 1) := by decide +kernel
theorem xd_53_10 : decode prog_12_method_24_code 10 = .ok (.iconst 0, 1) := by decide +kernel
theorem xd_53_11 : decode prog_12_method_24_code 11 = .ok (.iastore, 1) := by decide +kernel
theorem xd_53_12 : decode prog_12_method_24_code 12 = .ok (.iload_n 2, 1) := by decide +kernel
theorem xd_53_13 : decode prog_12_method_24_code 13 = .ok (.invokestatic 128, 3) := by decide +kernel
theorem xd_53_16 : decode prog_12_method_24_code 16 = .ok (.ifCond .eq 23, 3) := by decide +kernel
theorem xd_53_19 : decode prog_12_method_24_code 19 = .ok (.aload_n 0, 1) := by decide +kernel
theorem xd_53_20 : decode prog_12_method_24_code 20 = .ok (.getfield 50, 3) := by decide +kernel
theorem xd_53_23 : decode prog_12_method_24_code 23 = .ok (.iload_n 1, 1) := by decide +kernel
theorem xd_53_24 : decode prog_12_method_24_code 24 = .ok (.iconst 0, 1) := by decide +kernel
theorem xd_53_25 : decode prog_12_method_24_code 25 = .ok (.iastore, 1) := by decide +kernel
theorem xd_53_26 : decode prog_12_method_24_code 26 = .ok (.aload_n 0, 1) := by decide +kernel
theorem xd_53_27 : decode prog_12_method_24_code 27 = .ok (.getfield 53, 3) := by decide +kernel
theorem xd_53_30 : decode prog_12_method_24_code 30 = .ok (.iload_n 1, 1) := by decide +kernel
theorem xd_53_31 : decode prog_12_method_24_code 31 = .ok (.aload_n 0, 1) := by decide +kernel
theorem xd_53_32 : decode prog_12_method_24_code 32 = .ok (.invokevirtual 134, 3) := by decide +kernel
theorem xd_53_35 : decode prog_12_method_24_code 35 = .ok (.iastore, 1) := by decide +kernel
theorem xd_53_36 : decode prog_12_method_24_code 36 = .ok (.goto 142, 3) := by decide +kernel
theorem xd_53_39 : decode prog_12_method_24_code 39 = .ok (.iload_n 2, 1) := by decide +kernel
theorem xd_53_40 : decode prog_12_method_24_code 40 = .ok (.bipush 39, 2) := by decide +kernel
theorem xd_53_42 : decode prog_12_method_24_code 42 = .ok (.if_icmp .ne 11, 3) := by decide +kernel
theorem xd_53_45 : decode prog_12_method_24_code 45 = .ok (.aload_n 0, 1) := by decide +kernel
theorem xd_53_46 : decode prog_12_method_24_code 46 = .ok (.iload_n 1, 1) := by decide +kernel
theorem xd_53_47 : decode prog_12_method_24_code 47 = .ok (.invokevirtual 137, 3) := by decide +kernel
theorem xd_53_50 : decode prog_12_method_24_code 50 = .ok (.goto 128, 3) := by decide +kernel
theorem xd_53_53 : decode prog_12_method_24_code 53 = .ok (.iload_n 2, 1) := by decide +kernel
theorem xd_53_54 : decode prog_12_method_24_code 54 = .ok (.bipush 35, 2) := by decide +kernel
theorem xd_53_56 : decode prog_12_method_24_code 56 = .ok (.if_icmp .ne 23, 3) := by decide +kernel
theorem xd_53_59 : decode prog_12_method_24_code 59 = .ok (.aload_n 0, 1) := by decide +kernel
theorem xd_53_60 : decode prog_12_method_24_code 60 = .ok (.getfield 50, 3) := by decide +kernel
theorem xd_53_63 : decode prog_12_method_24_code 63 = .ok (.iload_n 1, 1) := by decide +kernel
theorem xd_53_64 : decode prog_12_method_24_code 64 = .ok (.iconst 2, 1) := by decide +kernel
theorem xd_53_65 : decode prog_12_method_24_code 65 = .ok (.iastore, 1) := by decide +kernel
theorem xd_53_66 : decode prog_12_method_24_code 66 = .ok (.aload_n 0, 1) := by decide +kernel
theorem xd_53_67 : decode prog_12_method_24_code 67 = .ok (.getfield 53, 3) := by decide +kernel
theorem xd_53_70 : decode prog_12_method_24_code 70 = .ok (.iload_n 1, 1) := by decide +kernel
theorem xd_53_71 : decode prog_12_method_24_code 71 = .ok (.aload_n 0, 1) := by decide +kernel
theorem xd_53_72 : decode prog_12_method_24_code 72 = .ok (.invokevirtual 131, 3) := by decide +kernel
theorem xd_53_75 : decode prog_12_method_24_code 75 = .ok (.iastore, 1) := by decide +kernel
theorem xd_53_76 : decode prog_12_method_24_code 76 = .ok (.goto 102, 3) := by decide +kernel
