theorem xd_145_17 : decode prog_7_method_6_code 17 = .ok (.aload_n 0, 1) := by decide +kernel
theorem xd_145_18 : decode prog_7_method_6_code 18 = .ok (.aload_n 1, 1) := by decide +kernel
theorem xd_145_19 : decode prog_7_method_6_code 19 = .ok (.getfield 15, 3) := by decide +kernel
theorem xd_145_22 : decode prog_7_method_6_code 22 = .ok (.putfield 15, 3) := by decide +kernel
theorem xd_145_25 : decode prog_7_method_6_code 25 = .ok (.aload_n 0, 1) := by decide +kernel
theorem xd_145_26 : decode prog_7_method_6_code 26 = .ok (.aload_n 1, 1) := by decide +kernel
theorem xd_145_27 : decode prog_7_method_6_code 27 = .ok (.getfield 19, 3) := by decide +kernel
theorem xd_145_30 : decode prog_7_method_6_code 30 = .ok (.putfield 19, 3) := by decide +kernel
theorem xd_145_33 : decode prog_7_method_6_code 33 = .ok (.return_, 1) := by decide +kernel
theorem xd_146_0 : decode prog_8_method_1_code 0 = .ok (.aload_n 0, 1) := by decide +kernel
theorem xd_146_1 : decode prog_8_method_1_code 1 = .ok (.invokespecial 3, 3) := by decide +kernel
theorem xd_146_4 : decode prog_8_method_1_code 4 = .ok (.aload_n 0, 1) := by decide +kernel
theorem xd_146_5 : decode prog_8_method_1_code 5 = .ok (.aload_n 1, 1) := by decide +kernel
theorem xd_146_6 : decode prog_8_method_1_code 6 = .ok (.putfield 9, 3) := by decide +kernel
theorem xd_146_9 : decode prog_8_method_1_code 9 = .ok (.aload_n 0, 1) := by decide +kernel
theorem xd_146_10 : decode prog_8_method_1_code 10 = .ok (.aload_n 2, 1) := by decide +kernel
theorem xd_146_11 : decode prog_8_method_1_code 11 = .ok (.putfield 15, 3) := by decide +kernel
theorem xd_146_14 : decode prog_8_method_1_code 14 = .ok (.return_, 1) := by decide +kernel
theorem xd_147_0 : decode prog_8_method_2_code 0 = .ok (.aload_n 0, 1) := by decide +kernel
theorem xd_147_1 : decode prog_8_method_2_code 1 = .ok (.getfield 15, 3) := by decide +kernel
theorem xd_147_4 : decode prog_8_method_2_code 4 = .ok (.iconst 0, 1) := by decide +kernel
theorem xd_147_5 : decode prog_8_method_2_code 5 = .ok (.putfield 19, 3) := by decide +kernel
theorem xd_147_8 : decode prog_8_method_2_code 8 = .ok (.aload_n 0, 1) := by decide +kernel
theorem xd_147_9 : decode prog_8_method_2_code 9 = .ok (.getfield 9, 3) := by decide +kernel
theorem xd_147_12 : decode prog_8_method_2_code 12 = .ok (.iconst 1, 1) := by decide +kernel
theorem xd_147_13 : decode prog_8_method_2_code 13 = .ok (.invokevirtual 25, 3) := by decide +kernel
theorem xd_147_16 : decode prog_8_method_2_code 16 = .ok (.iconst 0, 1) := by decide +kernel
theorem xd_147_17 : decode prog_8_method_2_code 17 = .ok (.istore_n 1, 1) := by decide +kernel
theorem xd_147_18 : decode prog_8_method_2_code 18 = .ok (.iload_n 1, 1) := by decide +kernel
theorem xd_147_19 : decode prog_8_method_2_code 19 = .ok (.bipush 12, 2) := by decide +kernel
theorem xd_147_21 : decode prog_8_method_2_code 21 = .ok (.if_icmp .gt 28, 3) := by decide +kernel
theorem xd_147_24 : decode prog_8_method_2_code 24 = .ok (.aload_n 0, 1) := by decide +kernel
theorem xd_147_25 : decode prog_8_method_2_code 25 = .ok (.getfield 9, 3) := by decide +kernel
theorem xd_147_28 : decode prog_8_method_2_code 28 = .ok (.invokevirtual 31, 3) := by decide +kernel
theorem xd_147_31 : decode prog_8_method_2_code 31 = .ok (.ifCond .eq 18, 3) := by decide +kernel
theorem xd_147_34 : decode prog_8_method_2_code 34 = .ok (.aload_n 0, 1) := by decide +kernel
theorem xd_147_35 : decode prog_8_method_2_code 35 = .ok (.invokevirtual 35, 3) := by decide +kernel
theorem xd_147_38 : decode prog_8_method_2_code 38 = .ok (.ifCond .ne 5, 3) := by decide +kernel
theorem xd_147_41 : decode prog_8_method_2_code 41 = .ok (.iconst 0, 1) := by decide +kernel
theorem xd_147_42 : decode prog_8_method_2_code 42 = .ok (.ireturn, 1) := by decide +kernel
theorem xd_147_43 : decode prog_8_method_2_code 43 = .ok (.iinc 1 1, 3) := by decide +kernel
theorem xd_147_46 : decode prog_8_method_2_code 46 = .ok (.goto (-28), 3) := by decide +kernel
theorem xd_147_49 : decode prog_8_method_2_code 49 = .ok (.iconst 1, 1) := by decide +kernel
theorem xd_147_50 : decode prog_8_method_2_code 50 = .ok (.ireturn, 1) := by decide +kernel
theorem xd_148_0 : decode prog_8_method_3_code 0 = .ok (.aload_n 0, 1) := by decide +kernel
theorem xd_148_1 : decode prog_8_method_3_code 1 = .ok (.getfield 9, 3) := by decide +kernel
theorem xd_148_4 : decode prog_8_method_3_code 4 = .ok (.invokevirtual 38, 3) := by decide +kernel
theorem xd_148_7 : decode prog_8_method_3_code 7 = .ok (.lstore_n 1, 1) := by decide +kernel
theorem xd_148_8 : decode prog_8_method_3_code 8 = .ok (.lload_n 1, 1) := by decide +kernel
theorem xd_148_9 : decode prog_8_method_3_code 9 = .ok (.lconst 0, 1) := by decide +kernel
theorem xd_148_10 : decode prog_8_method_3_code 10 = .ok (.lcmp, 1) := by decide +kernel
theorem xd_148_11 : decode prog_8_method_3_code 11 = .ok (.ifCond .eq 27, 3) := by decide +kernel
theorem xd_148_14 : decode prog_8_method_3_code 14 = .ok (.aload_n 0, 1) := by decide +kernel
theorem xd_148_15 : decode prog_8_method_3_code 15 = .ok (.getfield 15, 3) := by decide +kernel
theorem xd_148_18 : decode prog_8_method_3_code 18 = .ok (.getfield 19, 3) := by decide +kernel
theorem xd_148_21 : decode prog_8_method_3_code 21 = .ok (.bipush 12, 2) := by decide +kernel
theorem xd_148_23 : decode prog_8_method_3_code 23 = .ok (.if_icmp .ge 15, 3) := by decide +kernel
theorem xd_148_26 : decode prog_8_method_3_code 26 = .ok (.aload_n 0, 1) := by decide +kernel
theorem xd_148_27 : decode prog_8_method_3_code 27 = .ok (.getfield 15, 3) := by decide +kernel
theorem xd_148_30 : decode prog_8_method_3_code 30 = .ok (.lload_n 1, 1) := by decide +kernel
theorem xd_148_31 : decode prog_8_method_3_code 31 = .ok (.invokevirtual 42, 3) := by decide +kernel
theorem xd_148_34 : decode prog_8_method_3_code 34 = .ok (.iconst (-1), 1) := by decide +kernel
theorem xd_148_35 : decode prog_8_method_3_code 35 = .ok (.if_icmp .eq 5, 3) := by decide +kernel
theorem xd_148_38 : decode prog_8_method_3_code 38 = .ok (.iconst 0, 1) := by decide +kernel
theorem xd_148_39 : decode prog_8_method_3_code 39 = .ok (.ireturn, 1) := by decide +kernel
theorem xd_148_40 : decode prog_8_method_3_code 40 = .ok (.aload_n 0, 1) := by decide +kernel
theorem xd_148_41 : decode prog_8_method_3_code 41 = .ok (.getfield 9, 3) := by decide +kernel
theorem xd_148_44 : decode prog_8_method_3_code 44 = .ok (.invokevirtual 46, 3) := by decide +kernel
theorem xd_148_47 : decode prog_8_method_3_code 47 = .ok (.aload_n 0, 1) := by decide +kernel
theorem xd_148_48 : decode prog_8_method_3_code 48 = .ok (.getfield 15, 3) := by decide +kernel
theorem xd_148_51 : decode prog_8_method_3_code 51 = .ok (.lload_n 1, 1) := by decide +kernel
theorem xd_148_52 : decode prog_8_method_3_code 52 = .ok (.invokevirtual 49, 3) := by decide +kernel
theorem xd_148_55 : decode prog_8_method_3_code 55 = .ok (.aload_n 0, 1) := by decide +kernel
theorem xd_148_56 : decode prog_8_method_3_code 56 = .ok (.getfield 9, 3) := by decide +kernel
theorem xd_148_59 : decode prog_8_method_3_code 59 = .ok (.bipush 61, 2) := by decide +kernel
theorem xd_148_61 : decode prog_8_method_3_code 61 = .ok (.invokevirtual 53, 3) := by decide +kernel
theorem xd_148_64 : decode prog_8_method_3_code 64 = .ok (.ifCond .ne 5, 3) := by decide +kernel
theorem xd_148_67 : decode prog_8_method_3_code 67 = .ok (.iconst 0, 1) := by decide +kernel
theorem xd_148_68 : decode prog_8_method_3_code 68 = .ok (.ireturn, 1) := by decide +kernel
theorem xd_148_69 : decode prog_8_method_3_code 69 = .ok (.iconst 0, 1) := by decide +kernel
theorem xd_148_70 : decode prog_8_method_3_code 70 = .ok (.istore_n 3, 1) := by decide +kernel
theorem xd_148_71 : decode prog_8_method_3_code 71 = .ok (.iload_n 3, 1) := by decide +kernel
theorem xd_148_72 : decode prog_8_method_3_code 72 = .ok (.bipush 8, 2) := by decide +kernel
theorem xd_148_74 : decode prog_8_method_3_code 74 = .ok (.if_icmp .ge 70, 3) := by decide +kernel
theorem xd_148_77 : decode prog_8_method_3_code 77 = .ok (.ldc 57, 2) := by decide +kernel
theorem xd_148_79 : decode prog_8_method_3_code 79 = .ok (.aload_n 0, 1) := by decide +kernel
theorem xd_148_80 : decode prog_8_method_3_code 80 = .ok (.getfield 9, 3) := by decide +kernel
theorem xd_148_83 : decode prog_8_method_3_code 83 = .ok (.invokevirtual 59, 3) := by decide +kernel
theorem xd_148_86 : decode prog_8_method_3_code 86 = .ok (.invokevirtual 63, 3) := by decide +kernel
theorem xd_148_89 : decode prog_8_method_3_code 89 = .ok (.istore 4, 2) := by decide +kernel
theorem xd_148_91 : decode prog_8_method_3_code 91 = .ok (.iload 4, 2) := by decide +kernel
theorem xd_148_93 : decode prog_8_method_3_code 93 = .ok (.iconst (-1), 1) := by decide +kernel
theorem xd_148_94 : decode prog_8_method_3_code 94 = .ok (.if_icmp .ne 5, 3) := by decide +kernel
theorem xd_148_97 : decode prog_8_method_3_code 97 = .ok (.iconst 0, 1) := by decide +kernel
theorem xd_148_98 : decode prog_8_method_3_code 98 = .ok (.ireturn, 1) := by decide +kernel
theorem xd_148_99 : decode prog_8_method_3_code 99 = .ok (.aload_n 0, 1) := by decide +kernel
theorem xd_148_100 : decode prog_8_method_3_code 100 = .ok (.getfield 9, 3) := by decide +kernel
theorem xd_148_103 : decode prog_8_method_3_code 103 = .ok (.invokevirtual 46, 3) := by decide +kernel
theorem xd_148_106 : decode prog_8_method_3_code 106 = .ok (.aload_n 0, 1) := by decide +kernel
theorem xd_148_107 : decode prog_8_method_3_code 107 = .ok (.getfield 15, 3) := by decide +kernel
theorem xd_148_110 : decode prog_8_method_3_code 110 = .ok (.iload 4, 2) := by decide +kernel
theorem xd_148_112 : decode prog_8_method_3_code 112 = .ok (.aload_n 0, 1) := by decide +kernel
theorem xd_148_113 : decode prog_8_method_3_code 113 = .ok (.getfield 9, 3) := by decide +kernel
theorem xd_148_116 : decode prog_8_method_3_code 116 = .ok (.bipush 63, 2) := by decide +kernel
theorem xd_148_118 : decode prog_8_method_3_code 118 = .ok (.invokevirtual 53, 3) := by decide +kernel
theorem xd_148_121 : decode prog_8_method_3_code 121 = .ok (.invokevirtual 69, 3) := by decide +kernel
theorem xd_148_124 : decode prog_8_method_3_code 124 = .ok (.aload_n 0, 1) := by decide +kernel
theorem xd_148_125 : decode prog_8_method_3_code 125 = .ok (.getfield 9, 3) := by decide +kernel
theorem xd_148_128 : decode prog_8_method_3_code 128 = .ok (.bipush 59, 2) := by decide +kernel
theorem xd_148_130 : decode prog_8_method_3_code 130 = .ok (.invokevirtual 53, 3) := by decide +kernel
theorem xd_148_133 : decode prog_8_method_3_code 133 = .ok (.ifCond .eq 5, 3) := by decide +kernel
theorem xd_148_136 : decode prog_8_method_3_code 136 = .ok (.iconst 1, 1) := by decide +kernel
theorem xd_148_137 : decode prog_8_method_3_code 137 = .ok (.ireturn, 1) := by decide +kernel
theorem xd_148_138 : decode prog_8_method_3_code 138 = .ok (.iinc 3 1, 3) := by decide +kernel
theorem xd_148_141 : decode prog_8_method_3_code 141 = .ok (.goto (-70), 3) := by decide +kernel
theorem xd_148_144 : decode prog_8_method_3_code 144 = .ok (.iconst 0, 1) := by decide +kernel
theorem xd_148_145 : decode prog_8_method_3_code 145 = .ok (.ireturn, 1) := by decide +kernel
theorem xd_149_0 : decode prog_9_method_1_code 0 = .ok (.aload_n 0, 1) := by decide +kernel
theorem xd_149_1 : decode prog_9_method_1_code 1 = .ok (.invokespecial 3, 3) := by decide +kernel
theorem xd_149_4 : decode prog_9_method_1_code 4 = .ok (.aload_n 0, 1) := by decide +kernel
theorem xd_149_5 : decode prog_9_method_1_code 5 = .ok (.sipush 1200, 3) := by decide +kernel
theorem xd_149_8 : decode prog_9_method_1_code 8 = .ok (.newarray .int, 2) := by decide +kernel
theorem xd_149_10 : decode prog_9_method_1_code 10 = .ok (.putfield 9, 3) := by decide +kernel
theorem xd_149_13 : decode prog_9_method_1_code 13 = .ok (.aload_n 0, 1) := by decide +kernel
theorem xd_149_14 : decode prog_9_method_1_code 14 = .ok (.sipush 1200, 3) := by decide +kernel
theorem xd_149_17 : decode prog_9_method_1_code 17 = .ok (.newarray .int, 2) := by decide +kernel
theorem xd_149_19 : decode prog_9_method_1_code 19 = .ok (.putfield 15, 3) := by decide +kernel
theorem xd_149_22 : decode prog_9_method_1_code 22 = .ok (.aload_n 0, 1) := by decide +kernel
theorem xd_149_23 : decode prog_9_method_1_code 23 = .ok (.sipush 1200, 3) := by decide +kernel
theorem xd_149_26 : decode prog_9_method_1_code 26 = .ok (.newarray .char, 2) := by decide +kernel
theorem xd_149_28 : decode prog_9_method_1_code 28 = .ok (.putfield 18, 3) := by decide +kernel
theorem xd_149_31 : decode prog_9_method_1_code 31 = .ok (.aload_n 0, 1) := by decide +kernel
theorem xd_149_32 : decode prog_9_method_1_code 32 = .ok (.sipush 1200, 3) := by decide +kernel
theorem xd_149_35 : decode prog_9_method_1_code 35 = .ok (.newarray .int, 2) := by decide +kernel
theorem xd_149_37 : decode prog_9_method_1_code 37 = .ok (.putfield 22, 3) := by decide +kernel
theorem xd_149_40 : decode prog_9_method_1_code 40 = .ok (.aload_n 0, 1) := by decide +kernel
theorem xd_149_41 : decode prog_9_method_1_code 41 = .ok (.aload_n 1, 1) := by decide +kernel
theorem xd_149_42 : decode prog_9_method_1_code 42 = .ok (.putfield 25, 3) := by decide +kernel
theorem xd_149_45 : decode prog_9_method_1_code 45 = .ok (.return_, 1) := by decide +kernel
theorem xd_150_0 : decode prog_9_method_2_code 0 = .ok (.aload_n 0, 1) := by decide +kernel
theorem xd_150_1 : decode prog_9_method_2_code 1 = .ok (.iconst 0, 1) := by decide +kernel
theorem xd_150_2 : decode prog_9_method_2_code 2 = .ok (.putfield 29, 3) := by decide +kernel
theorem xd_150_5 : decode prog_9_method_2_code 5 = .ok (.aload_n 0, 1) := by decide +kernel
theorem xd_150_6 : decode prog_9_method_2_code 6 = .ok (.iconst 0, 1) := by decide +kernel
theorem xd_150_7 : decode prog_9_method_2_code 7 = .ok (.putfield 33, 3) := by decide +kernel
theorem xd_150_10 : decode prog_9_method_2_code 10 = .ok (.iconst 0, 1) := by decide +kernel
theorem xd_150_11 : decode prog_9_method_2_code 11 = .ok (.istore_n 2, 1) := by decide +kernel
theorem xd_150_12 : decode prog_9_method_2_code 12 = .ok (.iconst 0, 1) := by decide +kernel
theorem xd_150_13 : decode prog_9_method_2_code 13 = .ok (.istore_n 3, 1) := by decide +kernel
theorem xd_150_14 : decode prog_9_method_2_code 14 = .ok (.iconst 0, 1) := by decide +kernel
theorem xd_150_15 : decode prog_9_method_2_code 15 = .ok (.istore 4, 2) := by decide +kernel
theorem xd_150_17 : decode prog_9_method_2_code 17 = .ok (.iload 4, 2) := by decide +kernel
theorem xd_150_19 : decode prog_9_method_2_code 19 = .ok (.sipush 1200, 3) := by decide +kernel
theorem xd_150_22 : decode prog_9_method_2_code 22 = .ok (.if_icmp .ge 181, 3) := by decide +kernel
theorem xd_150_25 : decode prog_9_method_2_code 25 = .ok (.iload_n 2, 1) := by decide +kernel
theorem xd_150_26 : decode prog_9_method_2_code 26 = .ok (.aload_n 0, 1) := by decide +kernel
theorem xd_150_27 : decode prog_9_method_2_code 27 = .ok (.getfield 25, 3) := by decide +kernel
theorem xd_150_30 : decode prog_9_method_2_code 30 = .ok (.getfield 36, 3) := by decide +kernel
theorem xd_150_33 : decode prog_9_method_2_code 33 = .ok (.if_icmp .ge 170, 3) := by decide +kernel
theorem xd_150_36 : decode prog_9_method_2_code 36 = .ok (.aload_n 0, 1) := by decide +kernel
theorem xd_150_37 : decode prog_9_method_2_code 37 = .ok (.getfield 25, 3) := by decide +kernel
theorem xd_150_40 : decode prog_9_method_2_code 40 = .ok (.iload_n 2, 1) := by decide +kernel
theorem xd_150_41 : decode prog_9_method_2_code 41 = .ok (.invokevirtual 41, 3) := by decide +kernel
theorem xd_150_44 : decode prog_9_method_2_code 44 = .ok (.istore 5, 2) := by decide +kernel
theorem xd_150_46 : decode prog_9_method_2_code 46 = .ok (.iload_n 3, 1) := by decide +kernel
theorem xd_150_47 : decode prog_9_method_2_code 47 = .ok (.ifCond .eq 17, 3) := by decide +kernel
theorem xd_150_50 : decode prog_9_method_2_code 50 = .ok (.iload 5, 2) := by decide +kernel
theorem xd_150_52 : decode prog_9_method_2_code 52 = .ok (.invokestatic 45, 3) := by decide +kernel
theorem xd_150_55 : decode prog_9_method_2_code 55 = .ok (.ifCond .eq 9, 3) := by decide +kernel
theorem xd_150_58 : decode prog_9_method_2_code 58 = .ok (.iload_n 2, 1) := by decide +kernel
theorem xd_150_59 : decode prog_9_method_2_code 59 = .ok (.iconst 1, 1) := by decide +kernel
theorem xd_150_60 : decode prog_9_method_2_code 60 = .ok (.iadd, 1) := by decide +kernel
theorem xd_150_61 : decode prog_9_method_2_code 61 = .ok (.goto 10, 3) := by decide +kernel
theorem xd_150_64 : decode prog_9_method_2_code 64 = .ok (.aload_n 0, 1) := by decide +kernel
theorem xd_150_65 : decode prog_9_method_2_code 65 = .ok (.iload_n 2, 1) := by decide +kernel
theorem xd_150_66 : decode prog_9_method_2_code 66 = .ok (.iload 5, 2) := by decide +kernel
theorem xd_150_68 : decode prog_9_method_2_code 68 = .ok (.invokevirtual 49, 3) := by decide +kernel
theorem xd_150_71 : decode prog_9_method_2_code 71 = .ok (.istore 6, 2) := by decide +kernel
theorem xd_150_73 : decode prog_9_method_2_code 73 = .ok (.iload 5, 2) := by decide +kernel
theorem xd_150_75 : decode prog_9_method_2_code 75 = .ok (.bipush 32, 2) := by decide +kernel
theorem xd_150_77 : decode prog_9_method_2_code 77 = .ok (.if_icmp .eq 73, 3) := by decide +kernel
theorem xd_150_80 : decode prog_9_method_2_code 80 = .ok (.aload_n 0, 1) := by decide +kernel
theorem xd_150_81 : decode prog_9_method_2_code 81 = .ok (.getfield 9, 3) := by decide +kernel
theorem xd_150_84 : decode prog_9_method_2_code 84 = .ok (.aload_n 0, 1) := by decide +kernel
theorem xd_150_85 : decode prog_9_method_2_code 85 = .ok (.getfield 29, 3) := by decide +kernel
theorem xd_150_88 : decode prog_9_method_2_code 88 = .ok (.iload_n 2, 1) := by decide +kernel
theorem xd_150_89 : decode prog_9_method_2_code 89 = .ok (.iastore, 1) := by decide +kernel
theorem xd_150_90 : decode prog_9_method_2_code 90 = .ok (.aload_n 0, 1) := by decide +kernel
theorem xd_150_91 : decode prog_9_method_2_code 91 = .ok (.getfield 15, 3) := by decide +kernel
theorem xd_150_94 : decode prog_9_method_2_code 94 = .ok (.aload_n 0, 1) := by decide +kernel
theorem xd_150_95 : decode prog_9_method_2_code 95 = .ok (.getfield 29, 3) := by decide +kernel
theorem xd_150_98 : decode prog_9_method_2_code 98 = .ok (.iload 6, 2) := by decide +kernel
theorem xd_150_100 : decode prog_9_method_2_code 100 = .ok (.iastore, 1) := by decide +kernel
theorem xd_150_101 : decode prog_9_method_2_code 101 = .ok (.aload_n 0, 1) := by decide +kernel
theorem xd_150_102 : decode prog_9_method_2_code 102 = .ok (.getfield 18, 3) := by decide +kernel
theorem xd_150_105 : decode prog_9_method_2_code 105 = .ok (.aload_n 0, 1) := by decide +kernel
theorem xd_150_106 : decode prog_9_method_2_code 106 = .ok (.getfield 29, 3) := by decide +kernel
theorem xd_150_109 : decode prog_9_method_2_code 109 = .ok (.iload 5, 2) := by decide +kernel
theorem xd_150_111 : decode prog_9_method_2_code 111 = .ok (.castore, 1) := by decide +kernel
theorem xd_150_112 : decode prog_9_method_2_code 112 = .ok (.aload_n 0, 1) := by decide +kernel
theorem xd_150_113 : decode prog_9_method_2_code 113 = .ok (.getfield 22, 3) := by decide +kernel
theorem xd_150_116 : decode prog_9_method_2_code 116 = .ok (.aload_n 0, 1) := by decide +kernel
theorem xd_150_117 : decode prog_9_method_2_code 117 = .ok (.getfield 29, 3) := by decide +kernel
theorem xd_150_120 : decode prog_9_method_2_code 120 = .ok (.iload 5, 2) := by decide +kernel
theorem xd_150_122 : decode prog_9_method_2_code 122 = .ok (.invokestatic 53, 3) := by decide +kernel
theorem xd_150_125 : decode prog_9_method_2_code 125 = .ok (.ifCond .eq 13, 3) := by decide +kernel
theorem xd_150_128 : decode prog_9_method_2_code 128 = .ok (.aload_n 0, 1) := by decide +kernel
theorem xd_150_129 : decode prog_9_method_2_code 129 = .ok (.iload_n 2, 1) := by decide +kernel
theorem xd_150_130 : decode prog_9_method_2_code 130 = .ok (.iload 6, 2) := by decide +kernel
theorem xd_150_132 : decode prog_9_method_2_code 132 = .ok (.invokevirtual 56, 3) := by decide +kernel
theorem xd_150_135 : decode prog_9_method_2_code 135 = .ok (.goto 4, 3) := by decide +kernel
theorem xd_150_138 : decode prog_9_method_2_code 138 = .ok (.iconst (-1), 1) := by decide +kernel
theorem xd_150_139 : decode prog_9_method_2_code 139 = .ok (.iastore, 1) := by decide +kernel
theorem xd_150_140 : decode prog_9_method_2_code 140 = .ok (.aload_n 0, 1) := by decide +kernel
theorem xd_150_141 : decode prog_9_method_2_code 141 = .ok (.dup, 1) := by decide +kernel
theorem xd_150_142 : decode prog_9_method_2_code 142 = .ok (.getfield 29, 3) := by decide +kernel
theorem xd_150_145 : decode prog_9_method_2_code 145 = .ok (.iconst 1, 1) := by decide +kernel
theorem xd_150_146 : decode prog_9_method_2_code 146 = .ok (.iadd, 1) := by decide +kernel
theorem xd_150_147 : decode prog_9_method_2_code 147 = .ok (.putfield 29, 3) := by decide +kernel
theorem xd_150_150 : decode prog_9_method_2_code 150 = .ok (.iload 5, 2) := by decide +kernel
theorem xd_150_152 : decode prog_9_method_2_code 152 = .ok (.bipush 61, 2) := by decide +kernel
theorem xd_150_154 : decode prog_9_method_2_code 154 = .ok (.if_icmp .ne 7, 3) := by decide +kernel
theorem xd_150_157 : decode prog_9_method_2_code 157 = .ok (.iload_n 1, 1) := by decide +kernel
theorem xd_150_158 : decode prog_9_method_2_code 158 = .ok (.goto 19, 3) := by decide +kernel
theorem xd_150_161 : decode prog_9_method_2_code 161 = .ok (.iload_n 3, 1) := by decide +kernel
theorem xd_150_162 : decode prog_9_method_2_code 162 = .ok (.ifCond .eq 14, 3) := by decide +kernel
theorem xd_150_165 : decode prog_9_method_2_code 165 = .ok (.iload 5, 2) := by decide +kernel
theorem xd_150_167 : decode prog_9_method_2_code 167 = .ok (.bipush 59, 2) := by decide +kernel
theorem xd_150_169 : decode prog_9_method_2_code 169 = .ok (.if_icmp .eq 7, 3) := by decide +kernel
theorem xd_150_172 : decode prog_9_method_2_code 172 = .ok (.iconst 1, 1) := by decide +kernel
theorem xd_150_173 : decode prog_9_method_2_code 173 = .ok (.goto 4, 3) := by decide +kernel
theorem xd_150_176 : decode prog_9_method_2_code 176 = .ok (.iconst 0, 1) := by decide +kernel
theorem xd_150_177 : decode prog_9_method_2_code 177 = .ok (.istore_n 3, 1) := by decide +kernel
theorem xd_150_178 : decode prog_9_method_2_code 178 = .ok (.iload 6, 2) := by decide +kernel
theorem xd_150_180 : decode prog_9_method_2_code 180 = .ok (.iconst (-1), 1) := by decide +kernel
theorem xd_150_181 : decode prog_9_method_2_code 181 = .ok (.if_icmp .ne 13, 3) := by decide +kernel
theorem xd_150_184 : decode prog_9_method_2_code 184 = .ok (.aload_n 0, 1) := by decide +kernel
theorem xd_150_185 : decode prog_9_method_2_code 185 = .ok (.getfield 25, 3) := by decide +kernel
theorem xd_150_188 : decode prog_9_method_2_code 188 = .ok (.getfield 36, 3) := by decide +kernel
theorem xd_150_191 : decode prog_9_method_2_code 191 = .ok (.goto 5, 3) := by decide +kernel
theorem xd_150_194 : decode prog_9_method_2_code 194 = .ok (.iload 6, 2) := by decide +kernel
theorem xd_150_196 : decode prog_9_method_2_code 196 = .ok (.istore_n 2, 1) := by decide +kernel
theorem xd_150_197 : decode prog_9_method_2_code 197 = .ok (.iinc 4 1, 3) := by decide +kernel
theorem xd_150_200 : decode prog_9_method_2_code 200 = .ok (.goto (-183), 3) := by decide +kernel
theorem xd_150_203 : decode prog_9_method_2_code 203 = .ok (.return_, 1) := by decide +kernel
theorem xd_151_0 : decode prog_9_method_3_code 0 = .ok (.iload_n 2, 1) := by decide +kernel
theorem xd_151_1 : decode prog_9_method_3_code 1 = .ok (.bipush 39, 2) := by decide +kernel
theorem xd_151_3 : decode prog_9_method_3_code 3 = .ok (.if_icmp .ne 9, 3) := by decide +kernel
theorem xd_151_6 : decode prog_9_method_3_code 6 = .ok (.aload_n 0, 1) := by decide +kernel
theorem xd_151_7 : decode prog_9_method_3_code 7 = .ok (.iload_n 1, 1) := by decide +kernel
theorem xd_151_8 : decode prog_9_method_3_code 8 = .ok (.invokevirtual 60, 3) := by decide +kernel
theorem xd_151_11 : decode prog_9_method_3_code 11 = .ok (.ireturn, 1) := by decide +kernel
theorem xd_151_12 : decode prog_9_method_3_code 12 = .ok (.iload_n 1, 1) := by decide +kernel
theorem xd_151_13 : decode prog_9_method_3_code 13 = .ok (.iconst 1, 1) := by decide +kernel
theorem xd_151_14 : decode prog_9_method_3_code 14 = .ok (.iadd, 1) := by decide +kernel
theorem xd_151_15 : decode prog_9_method_3_code 15 = .ok (.istore_n 3, 1) := by decide +kernel
theorem xd_151_16 : decode prog_9_method_3_code 16 = .ok (.iload_n 2, 1) := by decide +kernel
theorem xd_151_17 : decode prog_9_method_3_code 17 = .ok (.invokestatic 53, 3) := by decide +kernel
theorem xd_151_20 : decode prog_9_method_3_code 20 = .ok (.ifCond .eq 34, 3) := by decide +kernel
theorem xd_151_23 : decode prog_9_method_3_code 23 = .ok (.iload_n 3, 1) := by decide +kernel
theorem xd_151_24 : decode prog_9_method_3_code 24 = .ok (.aload_n 0, 1) := by decide +kernel
theorem xd_151_25 : decode prog_9_method_3_code 25 = .ok (.getfield 25, 3) := by decide +kernel
theorem xd_151_28 : decode prog_9_method_3_code 28 = .ok (.getfield 36, 3) := by decide +kernel
theorem xd_151_31 : decode prog_9_method_3_code 31 = .ok (.if_icmp .ge 61, 3) := by decide +kernel
theorem xd_151_34 : decode prog_9_method_3_code 34 = .ok (.aload_n 0, 1) := by decide +kernel
theorem xd_151_35 : decode prog_9_method_3_code 35 = .ok (.getfield 25, 3) := by decide +kernel
theorem xd_151_38 : decode prog_9_method_3_code 38 = .ok (.iload_n 3, 1) := by decide +kernel
theorem xd_151_39 : decode prog_9_method_3_code 39 = .ok (.invokevirtual 41, 3) := by decide +kernel
theorem xd_151_42 : decode prog_9_method_3_code 42 = .ok (.invokestatic 53, 3) := by decide +kernel
theorem xd_151_45 : decode prog_9_method_3_code 45 = .ok (.ifCond .eq 47, 3) := by decide +kernel
theorem xd_151_48 : decode prog_9_method_3_code 48 = .ok (.iinc 3 1, 3) := by decide +kernel
theorem xd_151_51 : decode prog_9_method_3_code 51 = .ok (.goto (-28), 3) := by decide +kernel
theorem xd_151_54 : decode prog_9_method_3_code 54 = .ok (.iload_n 2, 1) := by decide +kernel
theorem xd_151_55 : decode prog_9_method_3_code 55 = .ok (.invokestatic 45, 3) := by decide +kernel
theorem xd_151_58 : decode prog_9_method_3_code 58 = .ok (.ifCond .eq 34, 3) := by decide +kernel
theorem xd_151_61 : decode prog_9_method_3_code 61 = .ok (.iload_n 3, 1) := by decide +kernel
theorem xd_151_62 : decode prog_9_method_3_code 62 = .ok (.aload_n 0, 1) := by decide +kernel
theorem xd_151_63 : decode prog_9_method_3_code 63 = .ok (.getfield 25, 3) := by decide +kernel
theorem xd_151_66 : decode prog_9_method_3_code 66 = .ok (.getfield 36, 3) := by decide +kernel
theorem xd_151_69 : decode prog_9_method_3_code 69 = .ok (.if_icmp .ge 23, 3) := by decide +kernel
theorem xd_151_72 : decode prog_9_method_3_code 72 = .ok (.aload_n 0, 1) := by decide +kernel
theorem xd_151_73 : decode prog_9_method_3_code 73 = .ok (.getfield 25, 3) := by decide +kernel
theorem xd_151_76 : decode prog_9_method_3_code 76 = .ok (.iload_n 3, 1) := by decide +kernel
theorem xd_151_77 : decode prog_9_method_3_code 77 = .ok (.invokevirtual 41, 3) := by decide +kernel
theorem xd_151_80 : decode prog_9_method_3_code 80 = .ok (.invokestatic 45, 3) := by decide +kernel
theorem xd_151_83 : decode prog_9_method_3_code 83 = .ok (.ifCond .eq 9, 3) := by decide +kernel
theorem xd_151_86 : decode prog_9_method_3_code 86 = .ok (.iinc 3 1, 3) := by decide +kernel
theorem xd_151_89 : decode prog_9_method_3_code 89 = .ok (.goto (-28), 3) := by decide +kernel
theorem xd_151_92 : decode prog_9_method_3_code 92 = .ok (.iload_n 3, 1) := by decide +kernel
theorem xd_151_93 : decode prog_9_method_3_code 93 = .ok (.ireturn, 1) := by decide +kernel
theorem xd_152_0 : decode prog_9_method_4_code 0 = .ok (.iload_n 1, 1) := by decide +kernel
theorem xd_152_1 : decode prog_9_method_4_code 1 = .ok (.iconst 1, 1) := by decide +kernel
theorem xd_152_2 : decode prog_9_method_4_code 2 = .ok (.iadd, 1) := by decide +kernel
theorem xd_152_3 : decode prog_9_method_4_code 3 = .ok (.istore_n 2, 1) := by decide +kernel
theorem xd_152_4 : decode prog_9_method_4_code 4 = .ok (.iload_n 2, 1) := by decide +kernel
theorem xd_152_5 : decode prog_9_method_4_code 5 = .ok (.aload_n 0, 1) := by decide +kernel
theorem xd_152_6 : decode prog_9_method_4_code 6 = .ok (.getfield 25, 3) := by decide +kernel
theorem xd_152_9 : decode prog_9_method_4_code 9 = .ok (.getfield 36, 3) := by decide +kernel
theorem xd_152_12 : decode prog_9_method_4_code 12 = .ok (.if_icmp .ge 44, 3) := by decide +kernel
theorem xd_152_15 : decode prog_9_method_4_code 15 = .ok (.aload_n 0, 1) := by decide +kernel
theorem xd_152_16 : decode prog_9_method_4_code 16 = .ok (.getfield 25, 3) := by decide +kernel
theorem xd_152_19 : decode prog_9_method_4_code 19 = .ok (.iload_n 2, 1) := by decide +kernel
theorem xd_152_20 : decode prog_9_method_4_code 20 = .ok (.invokevirtual 41, 3) := by decide +kernel
theorem xd_152_23 : decode prog_9_method_4_code 23 = .ok (.bipush 39, 2) := by decide +kernel
theorem xd_152_25 : decode prog_9_method_4_code 25 = .ok (.if_icmp .ne 25, 3) := by decide +kernel
theorem xd_152_28 : decode prog_9_method_4_code 28 = .ok (.aload_n 0, 1) := by decide +kernel
theorem xd_152_29 : decode prog_9_method_4_code 29 = .ok (.getfield 25, 3) := by decide +kernel
theorem xd_152_32 : decode prog_9_method_4_code 32 = .ok (.iload_n 2, 1) := by decide +kernel
theorem xd_152_33 : decode prog_9_method_4_code 33 = .ok (.iconst 1, 1) := by decide +kernel
theorem xd_152_34 : decode prog_9_method_4_code 34 = .ok (.iadd, 1) := by decide +kernel
theorem xd_152_35 : decode prog_9_method_4_code 35 = .ok (.invokevirtual 41, 3) := by decide +kernel
theorem xd_152_38 : decode prog_9_method_4_code 38 = .ok (.bipush 39, 2) := by decide +kernel
theorem xd_152_40 : decode prog_9_method_4_code 40 = .ok (.if_icmp .eq 7, 3) := by decide +kernel
theorem xd_152_43 : decode prog_9_method_4_code 43 = .ok (.iload_n 2, 1) := by decide +kernel
theorem xd_152_44 : decode prog_9_method_4_code 44 = .ok (.iconst 1, 1) := by decide +kernel
theorem xd_152_45 : decode prog_9_method_4_code 45 = .ok (.iadd, 1) := by decide +kernel
theorem xd_152_46 : decode prog_9_method_4_code 46 = .ok (.ireturn, 1) := by decide +kernel
theorem xd_152_47 : decode prog_9_method_4_code 47 = .ok (.iinc 2 1, 3) := by decide +kernel
theorem xd_152_50 : decode prog_9_method_4_code 50 = .ok (.iinc 2 1, 3) := by decide +kernel
theorem xd_152_53 : decode prog_9_method_4_code 53 = .ok (.goto (-49), 3) := by decide +kernel
theorem xd_152_56 : decode prog_9_method_4_code 56 = .ok (.iconst (-1), 1) := by decide +kernel
theorem xd_152_57 : decode prog_9_method_4_code 57 = .ok (.ireturn, 1) := by decide +kernel
theorem xd_153_0 : decode prog_9_method_5_code 0 = .ok (.iload_n 2, 1) := by decide +kernel
theorem xd_153_1 : decode prog_9_method_5_code 1 = .ok (.iload_n 1, 1) := by decide +kernel
theorem xd_153_2 : decode prog_9_method_5_code 2 = .ok (.isub, 1) := by decide +kernel
theorem xd_153_3 : decode prog_9_method_5_code 3 = .ok (.bipush 9, 2) := by decide +kernel
theorem xd_153_5 : decode prog_9_method_5_code 5 = .ok (.if_icmp .le 5, 3) := by decide +kernel
theorem xd_153_8 : decode prog_9_method_5_code 8 = .ok (.iconst (-1), 1) := by decide +kernel
theorem xd_153_9 : decode prog_9_method_5_code 9 = .ok (.ireturn, 1) := by decide +kernel
theorem xd_153_10 : decode prog_9_method_5_code 10 = .ok (.iconst 0, 1) := by decide +kernel
theorem xd_153_11 : decode prog_9_method_5_code 11 = .ok (.istore_n 3, 1) := by decide +kernel
theorem xd_153_12 : decode prog_9_method_5_code 12 = .ok (.iload_n 1, 1) := by decide +kernel
theorem xd_153_13 : decode prog_9_method_5_code 13 = .ok (.istore 4, 2) := by decide +kernel
theorem xd_153_15 : decode prog_9_method_5_code 15 = .ok (.iload 4, 2) := by decide +kernel
theorem xd_153_17 : decode prog_9_method_5_code 17 = .ok (.iload_n 2, 1) := by decide +kernel
theorem xd_153_18 : decode prog_9_method_5_code 18 = .ok (.if_icmp .ge 27, 3) := by decide +kernel
theorem xd_153_21 : decode prog_9_method_5_code 21 = .ok (.iload_n 3, 1) := by decide +kernel
theorem xd_153_22 : decode prog_9_method_5_code 22 = .ok (.bipush 10, 2) := by decide +kernel
theorem xd_153_24 : decode prog_9_method_5_code 24 = .ok (.imul, 1) := by decide +kernel
theorem xd_153_25 : decode prog_9_method_5_code 25 = .ok (.aload_n 0, 1) := by decide +kernel
theorem xd_153_26 : decode prog_9_method_5_code 26 = .ok (.getfield 25, 3) := by decide +kernel
theorem xd_153_29 : decode prog_9_method_5_code 29 = .ok (.iload 4, 2) := by decide +kernel
theorem xd_153_31 : decode prog_9_method_5_code 31 = .ok (.invokevirtual 41, 3) := by decide +kernel
theorem xd_153_34 : decode prog_9_method_5_code 34 = .ok (.iadd, 1) := by decide +kernel
theorem xd_153_35 : decode prog_9_method_5_code 35 = .ok (.bipush 48, 2) := by decide +kernel
theorem xd_153_37 : decode prog_9_method_5_code 37 = .ok (.isub, 1) := by decide +kernel
theorem xd_153_38 : decode prog_9_method_5_code 38 = .ok (.istore_n 3, 1) := by decide +kernel
theorem xd_153_39 : decode prog_9_method_5_code 39 = .ok (.iinc 4 1, 3) := by decide +kernel
theorem xd_153_42 : decode prog_9_method_5_code 42 = .ok (.goto (-27), 3) := by decide +kernel
theorem xd_153_45 : decode prog_9_method_5_code 45 = .ok (.iload_n 3, 1) := by decide +kernel
theorem xd_153_46 : decode prog_9_method_5_code 46 = .ok (.ireturn, 1) := by decide +kernel
theorem xd_154_0 : decode prog_9_method_6_code 0 = .ok (.aload_n 0, 1) := by decide +kernel
theorem xd_154_1 : decode prog_9_method_6_code 1 = .ok (.getfield 33, 3) := by decide +kernel
theorem xd_154_4 : decode prog_9_method_6_code 4 = .ok (.aload_n 0, 1) := by decide +kernel
theorem xd_154_5 : decode prog_9_method_6_code 5 = .ok (.getfield 29, 3) := by decide +kernel
theorem xd_154_8 : decode prog_9_method_6_code 8 = .ok (.if_icmp .ge 7, 3) := by decide +kernel
theorem xd_154_11 : decode prog_9_method_6_code 11 = .ok (.iconst 1, 1) := by decide +kernel
theorem xd_154_12 : decode prog_9_method_6_code 12 = .ok (.goto 4, 3) := by decide +kernel
theorem xd_154_15 : decode prog_9_method_6_code 15 = .ok (.iconst 0, 1) := by decide +kernel
theorem xd_154_16 : decode prog_9_method_6_code 16 = .ok (.ireturn, 1) := by decide +kernel
theorem xd_155_0 : decode prog_9_method_7_code 0 = .ok (.aload_n 0, 1) := by decide +kernel
theorem xd_155_1 : decode prog_9_method_7_code 1 = .ok (.getfield 33, 3) := by decide +kernel
theorem xd_155_4 : decode prog_9_method_7_code 4 = .ok (.aload_n 0, 1) := by decide +kernel
theorem xd_155_5 : decode prog_9_method_7_code 5 = .ok (.getfield 29, 3) := by decide +kernel
theorem xd_155_8 : decode prog_9_method_7_code 8 = .ok (.if_icmp .ge 15, 3) := by decide +kernel
theorem xd_155_11 : decode prog_9_method_7_code 11 = .ok (.aload_n 0, 1) := by decide +kernel
theorem xd_155_12 : decode prog_9_method_7_code 12 = .ok (.getfield 9, 3) := by decide +kernel
theorem xd_155_15 : decode prog_9_method_7_code 15 = .ok (.aload_n 0, 1) := by decide +kernel
theorem xd_155_16 : decode prog_9_method_7_code 16 = .ok (.getfield 33, 3) := by decide +kernel
theorem xd_155_19 : decode prog_9_method_7_code 19 = .ok (.iaload, 1) := by decide +kernel
theorem xd_155_20 : decode prog_9_method_7_code 20 = .ok (.goto 10, 3) := by decide +kernel
theorem xd_155_23 : decode prog_9_method_7_code 23 = .ok (.aload_n 0, 1) := by decide +kernel
theorem xd_155_24 : decode prog_9_method_7_code 24 = .ok (.getfield 25, 3) := by decide +kernel
theorem xd_155_27 : decode prog_9_method_7_code 27 = .ok (.getfield 36, 3) := by decide +kernel
theorem xd_155_30 : decode prog_9_method_7_code 30 = .ok (.ireturn, 1) := by decide +kernel
theorem xd_156_0 : decode prog_9_method_8_code 0 = .ok (.aload_n 0, 1) := by decide +kernel
theorem xd_156_1 : decode prog_9_method_8_code 1 = .ok (.getfield 33, 3) := by decide +kernel
theorem xd_156_4 : decode prog_9_method_8_code 4 = .ok (.aload_n 0, 1) := by decide +kernel
theorem xd_156_5 : decode prog_9_method_8_code 5 = .ok (.getfield 29, 3) := by decide +kernel
theorem xd_156_8 : decode prog_9_method_8_code 8 = .ok (.if_icmp .ge 15, 3) := by decide +kernel
theorem xd_156_11 : decode prog_9_method_8_code 11 = .ok (.aload_n 0, 1) := by decide +kernel
theorem xd_156_12 : decode prog_9_method_8_code 12 = .ok (.getfield 18, 3) := by decide +kernel
theorem xd_156_15 : decode prog_9_method_8_code 15 = .ok (.aload_n 0, 1) := by decide +kernel
theorem xd_156_16 : decode prog_9_method_8_code 16 = .ok (.getfield 33, 3) := by decide +kernel
theorem xd_156_19 : decode prog_9_method_8_code 19 = .ok (.caload, 1) := by decide +kernel
theorem xd_156_20 : decode prog_9_method_8_code 20 = .ok (.goto 4, 3) := by decide +kernel
theorem xd_156_23 : decode prog_9_method_8_code 23 = .ok (.iconst 0, 1) := by decide +kernel
theorem xd_156_24 : decode prog_9_method_8_code 24 = .ok (.ireturn, 1) := by decide +kernel
theorem xd_157_0 : decode prog_9_method_9_code 0 = .ok (.aload_n 0, 1) := by decide +kernel
theorem xd_157_1 : decode prog_9_method_9_code 1 = .ok (.dup, 1) := by decide +kernel
theorem xd_157_2 : decode prog_9_method_9_code 2 = .ok (.getfield 33, 3) := by decide +kernel
theorem xd_157_5 : decode prog_9_method_9_code 5 = .ok (.iconst 1, 1) := by decide +kernel
theorem xd_157_6 : decode prog_9_method_9_code 6 = .ok (.iadd, 1) := by decide +kernel
theorem xd_157_7 : decode prog_9_method_9_code 7 = .ok (.putfield 33, 3) := by decide +kernel
theorem xd_157_10 : decode prog_9_method_9_code 10 = .ok (.return_, 1) := by decide +kernel
theorem xd_158_0 : decode prog_9_method_10_code 0 = .ok (.aload_n 0, 1) := by decide +kernel
theorem xd_158_1 : decode prog_9_method_10_code 1 = .ok (.getfield 33, 3) := by decide +kernel
theorem xd_158_4 : decode prog_9_method_10_code 4 = .ok (.aload_n 0, 1) := by decide +kernel
theorem xd_158_5 : decode prog_9_method_10_code 5 = .ok (.getfield 29, 3) := by decide +kernel
theorem xd_158_8 : decode prog_9_method_10_code 8 = .ok (.if_icmp .ge 20, 3) := by decide +kernel
theorem xd_158_11 : decode prog_9_method_10_code 11 = .ok (.aload_n 0, 1) := by decide +kernel
theorem xd_158_12 : decode prog_9_method_10_code 12 = .ok (.getfield 18, 3) := by decide +kernel
theorem xd_158_15 : decode prog_9_method_10_code 15 = .ok (.aload_n 0, 1) := by decide +kernel
theorem xd_158_16 : decode prog_9_method_10_code 16 = .ok (.getfield 33, 3) := by decide +kernel
theorem xd_158_19 : decode prog_9_method_10_code 19 = .ok (.caload, 1) := by decide +kernel
theorem xd_158_20 : decode prog_9_method_10_code 20 = .ok (.iload_n 1, 1) := by decide +kernel
theorem xd_158_21 : decode prog_9_method_10_code 21 = .ok (.if_icmp .ne 7, 3) := by decide +kernel
theorem xd_158_24 : decode prog_9_method_10_code 24 = .ok (.iconst 1, 1) := by decide +kernel
theorem xd_158_25 : decode prog_9_method_10_code 25 = .ok (.goto 4, 3) := by decide +kernel
theorem xd_158_28 : decode prog_9_method_10_code 28 = .ok (.iconst 0, 1) := by decide +kernel
theorem xd_158_29 : decode prog_9_method_10_code 29 = .ok (.istore_n 2, 1) := by decide +kernel
theorem xd_158_30 : decode prog_9_method_10_code 30 = .ok (.iload_n 2, 1) := by decide +kernel
theorem xd_158_31 : decode prog_9_method_10_code 31 = .ok (.ifCond .eq 13, 3) := by decide +kernel
theorem xd_158_34 : decode prog_9_method_10_code 34 = .ok (.aload_n 0, 1) := by decide +kernel
theorem xd_158_35 : decode prog_9_method_10_code 35 = .ok (.dup, 1) := by decide +kernel
theorem xd_158_36 : decode prog_9_method_10_code 36 = .ok (.getfield 33, 3) := by decide +kernel
theorem xd_158_39 : decode prog_9_method_10_code 39 = .ok (.iconst 1, 1) := by decide +kernel
theorem xd_158_40 : decode prog_9_method_10_code 40 = .ok (.iadd, 1) := by decide +kernel
theorem xd_158_41 : decode prog_9_method_10_code 41 = .ok (.putfield 33, 3) := by decide +kernel
theorem xd_158_44 : decode prog_9_method_10_code 44 = .ok (.iload_n 2, 1) := by decide +kernel
theorem xd_158_45 : decode prog_9_method_10_code 45 = .ok (.ireturn, 1) := by decide +kernel
theorem xd_159_0 : decode prog_9_method_11_code 0 = .ok (.aload_n 0, 1) := by decide +kernel
theorem xd_159_1 : decode prog_9_method_11_code 1 = .ok (.invokevirtual 64, 3) := by decide +kernel
theorem xd_159_4 : decode prog_9_method_11_code 4 = .ok (.invokestatic 45, 3) := by decide +kernel
theorem xd_159_7 : decode prog_9_method_11_code 7 = .ok (.ifCond .eq 27, 3) := by decide +kernel
theorem xd_159_10 : decode prog_9_method_11_code 10 = .ok (.aload_n 0, 1) := by decide +kernel
theorem xd_159_11 : decode prog_9_method_11_code 11 = .ok (.getfield 15, 3) := by decide +kernel
theorem xd_159_14 : decode prog_9_method_11_code 14 = .ok (.aload_n 0, 1) := by decide +kernel
theorem xd_159_15 : decode prog_9_method_11_code 15 = .ok (.getfield 33, 3) := by decide +kernel
theorem xd_159_18 : decode prog_9_method_11_code 18 = .ok (.iaload, 1) := by decide +kernel
theorem xd_159_19 : decode prog_9_method_11_code 19 = .ok (.aload_n 0, 1) := by decide +kernel
theorem xd_159_20 : decode prog_9_method_11_code 20 = .ok (.getfield 9, 3) := by decide +kernel
theorem xd_159_23 : decode prog_9_method_11_code 23 = .ok (.aload_n 0, 1) := by decide +kernel
theorem xd_159_24 : decode prog_9_method_11_code 24 = .ok (.getfield 33, 3) := by decide +kernel
theorem xd_159_27 : decode prog_9_method_11_code 27 = .ok (.iaload, 1) := by decide +kernel
theorem xd_159_28 : decode prog_9_method_11_code 28 = .ok (.isub, 1) := by decide +kernel
theorem xd_159_29 : decode prog_9_method_11_code 29 = .ok (.bipush 8, 2) := by decide +kernel
theorem xd_159_31 : decode prog_9_method_11_code 31 = .ok (.if_icmp .le 5, 3) := by decide +kernel
theorem xd_159_34 : decode prog_9_method_11_code 34 = .ok (.lconst 0, 1) := by decide +kernel
theorem xd_159_35 : decode prog_9_method_11_code 35 = .ok (.lreturn, 1) := by decide +kernel
theorem xd_159_36 : decode prog_9_method_11_code 36 = .ok (.lconst 0, 1) := by decide +kernel
theorem xd_159_37 : decode prog_9_method_11_code 37 = .ok (.lstore_n 1, 1) := by decide +kernel
theorem xd_159_38 : decode prog_9_method_11_code 38 = .ok (.aload_n 0, 1) := by decide +kernel
theorem xd_159_39 : decode prog_9_method_11_code 39 = .ok (.getfield 9, 3) := by decide +kernel
theorem xd_159_42 : decode prog_9_method_11_code 42 = .ok (.aload_n 0, 1) := by decide +kernel
theorem xd_159_43 : decode prog_9_method_11_code 43 = .ok (.getfield 33, 3) := by decide +kernel
theorem xd_159_46 : decode prog_9_method_11_code 46 = .ok (.iaload, 1) := by decide +kernel
theorem xd_159_47 : decode prog_9_method_11_code 47 = .ok (.istore_n 3, 1) := by decide +kernel
theorem xd_159_48 : decode prog_9_method_11_code 48 = .ok (.iload_n 3, 1) := by decide +kernel
theorem xd_159_49 : decode prog_9_method_11_code 49 = .ok (.aload_n 0, 1) := by decide +kernel
theorem xd_159_50 : decode prog_9_method_11_code 50 = .ok (.getfield 15, 3) := by decide +kernel
theorem xd_159_53 : decode prog_9_method_11_code 53 = .ok (.aload_n 0, 1) := by decide +kernel
theorem xd_159_54 : decode prog_9_method_11_code 54 = .ok (.getfield 33, 3) := by decide +kernel
theorem xd_159_57 : decode prog_9_method_11_code 57 = .ok (.iaload, 1) := by decide +kernel
theorem xd_159_58 : decode prog_9_method_11_code 58 = .ok (.if_icmp .ge 24, 3) := by decide +kernel
theorem xd_159_61 : decode prog_9_method_11_code 61 = .ok (.lload_n 1, 1) := by decide +kernel
theorem xd_159_62 : decode prog_9_method_11_code 62 = .ok (.bipush 8, 2) := by decide +kernel
theorem xd_159_64 : decode prog_9_method_11_code 64 = .ok (.lshl, 1) := by decide +kernel
theorem xd_159_65 : decode prog_9_method_11_code 65 = .ok (.aload_n 0, 1) := by decide +kernel
theorem xd_159_66 : decode prog_9_method_11_code 66 = .ok (.getfield 25, 3) := by decide +kernel
theorem xd_159_69 : decode prog_9_method_11_code 69 = .ok (.iload_n 3, 1) := by decide +kernel
theorem xd_159_70 : decode prog_9_method_11_code 70 = .ok (.invokevirtual 41, 3) := by decide +kernel
theorem xd_159_73 : decode prog_9_method_11_code 73 = .ok (.i2l, 1) := by decide +kernel
theorem xd_159_74 : decode prog_9_method_11_code 74 = .ok (.lor, 1) := by decide +kernel
theorem xd_159_75 : decode prog_9_method_11_code 75 = .ok (.lstore_n 1, 1) := by decide +kernel
theorem xd_159_76 : decode prog_9_method_11_code 76 = .ok (.iinc 3 1, 3) := by decide +kernel
theorem xd_159_79 : decode prog_9_method_11_code 79 = .ok (.goto (-31), 3) := by decide +kernel
theorem xd_159_82 : decode prog_9_method_11_code 82 = .ok (.lload_n 1, 1) := by decide +kernel
theorem xd_159_83 : decode prog_9_method_11_code 83 = .ok (.lreturn, 1) := by decide +kernel
theorem xd_160_0 : decode prog_9_method_12_code 0 = .ok (.aload_n 0, 1) := by decide +kernel
theorem xd_160_1 : decode prog_9_method_12_code 1 = .ok (.invokevirtual 64, 3) := by decide +kernel
theorem xd_160_4 : decode prog_9_method_12_code 4 = .ok (.bipush 45, 2) := by decide +kernel
theorem xd_160_6 : decode prog_9_method_12_code 6 = .ok (.if_icmp .ne 7, 3) := by decide +kernel
theorem xd_160_9 : decode prog_9_method_12_code 9 = .ok (.iconst 1, 1) := by decide +kernel
theorem xd_160_10 : decode prog_9_method_12_code 10 = .ok (.goto 4, 3) := by decide +kernel
theorem xd_160_13 : decode prog_9_method_12_code 13 = .ok (.iconst 0, 1) := by decide +kernel
theorem xd_160_14 : decode prog_9_method_12_code 14 = .ok (.istore_n 1, 1) := by decide +kernel
theorem xd_160_15 : decode prog_9_method_12_code 15 = .ok (.iload_n 1, 1) := by decide +kernel
theorem xd_160_16 : decode prog_9_method_12_code 16 = .ok (.ifCond .eq 12, 3) := by decide +kernel
theorem xd_160_19 : decode prog_9_method_12_code 19 = .ok (.aload_n 0, 1) := by decide +kernel
theorem xd_160_20 : decode prog_9_method_12_code 20 = .ok (.getfield 33, 3) := by decide +kernel
theorem xd_160_23 : decode prog_9_method_12_code 23 = .ok (.iconst 1, 1) := by decide +kernel
theorem xd_160_24 : decode prog_9_method_12_code 24 = .ok (.iadd, 1) := by decide +kernel
theorem xd_160_25 : decode prog_9_method_12_code 25 = .ok (.goto 7, 3) := by decide +kernel
theorem xd_160_28 : decode prog_9_method_12_code 28 = .ok (.aload_n 0, 1) := by decide +kernel
theorem xd_160_29 : decode prog_9_method_12_code 29 = .ok (.getfield 33, 3) := by decide +kernel
theorem xd_160_32 : decode prog_9_method_12_code 32 = .ok (.istore_n 2, 1) := by decide +kernel
theorem xd_160_33 : decode prog_9_method_12_code 33 = .ok (.iload_n 2, 1) := by decide +kernel
theorem xd_160_34 : decode prog_9_method_12_code 34 = .ok (.aload_n 0, 1) := by decide +kernel
theorem xd_160_35 : decode prog_9_method_12_code 35 = .ok (.getfield 29, 3) := by decide +kernel
theorem xd_160_38 : decode prog_9_method_12_code 38 = .ok (.if_icmp .ge 41, 3) := by decide +kernel
theorem xd_160_41 : decode prog_9_method_12_code 41 = .ok (.aload_n 0, 1) := by decide +kernel
theorem xd_160_42 : decode prog_9_method_12_code 42 = .ok (.getfield 22, 3) := by decide +kernel
theorem xd_160_45 : decode prog_9_method_12_code 45 = .ok (.iload_n 2, 1) := by decide +kernel
theorem xd_160_46 : decode prog_9_method_12_code 46 = .ok (.iaload, 1) := by decide +kernel
theorem xd_160_47 : decode prog_9_method_12_code 47 = .ok (.iconst (-1), 1) := by decide +kernel
theorem xd_160_48 : decode prog_9_method_12_code 48 = .ok (.if_icmp .eq 31, 3) := by decide +kernel
theorem xd_160_51 : decode prog_9_method_12_code 51 = .ok (.aload_n 0, 1) := by decide +kernel
theorem xd_160_52 : decode prog_9_method_12_code 52 = .ok (.iload_n 2, 1) := by decide +kernel
theorem xd_160_53 : decode prog_9_method_12_code 53 = .ok (.iconst 1, 1) := by decide +kernel
theorem xd_160_54 : decode prog_9_method_12_code 54 = .ok (.iadd, 1) := by decide +kernel
theorem xd_160_55 : decode prog_9_method_12_code 55 = .ok (.putfield 33, 3) := by decide +kernel
theorem xd_160_58 : decode prog_9_method_12_code 58 = .ok (.iload_n 1, 1) := by decide +kernel
theorem xd_160_59 : decode prog_9_method_12_code 59 = .ok (.ifCond .eq 13, 3) := by decide +kernel
theorem xd_160_62 : decode prog_9_method_12_code 62 = .ok (.aload_n 0, 1) := by decide +kernel
theorem xd_160_63 : decode prog_9_method_12_code 63 = .ok (.getfield 22, 3) := by decide +kernel
theorem xd_160_66 : decode prog_9_method_12_code 66 = .ok (.iload_n 2, 1) := by decide +kernel
theorem xd_160_67 : decode prog_9_method_12_code 67 = .ok (.iaload, 1) := by decide +kernel
theorem xd_160_68 : decode prog_9_method_12_code 68 = .ok (.ineg, 1) := by decide +kernel
theorem xd_160_69 : decode prog_9_method_12_code 69 = .ok (.goto 9, 3) := by decide +kernel
theorem xd_160_72 : decode prog_9_method_12_code 72 = .ok (.aload_n 0, 1) := by decide +kernel
theorem xd_160_73 : decode prog_9_method_12_code 73 = .ok (.getfield 22, 3) := by decide +kernel
theorem xd_160_76 : decode prog_9_method_12_code 76 = .ok (.iload_n 2, 1) := by decide +kernel
theorem xd_160_77 : decode prog_9_method_12_code 77 = .ok (.iaload, 1) := by decide +kernel
theorem xd_160_78 : decode prog_9_method_12_code 78 = .ok (.ireturn, 1) := by decide +kernel
theorem xd_160_79 : decode prog_9_method_12_code 79 = .ok (.iload_n 2, 1) := by decide +kernel
theorem xd_160_80 : decode prog_9_method_12_code 80 = .ok (.aload_n 0, 1) := by decide +kernel
theorem xd_160_81 : decode prog_9_method_12_code 81 = .ok (.getfield 29, 3) := by decide +kernel
theorem xd_160_84 : decode prog_9_method_12_code 84 = .ok (.if_icmp .ge 15, 3) := by decide +kernel
theorem xd_160_87 : decode prog_9_method_12_code 87 = .ok (.aload_n 0, 1) := by decide +kernel
theorem xd_160_88 : decode prog_9_method_12_code 88 = .ok (.getfield 18, 3) := by decide +kernel
theorem xd_160_91 : decode prog_9_method_12_code 91 = .ok (.iload_n 2, 1) := by decide +kernel
theorem xd_160_92 : decode prog_9_method_12_code 92 = .ok (.caload, 1) := by decide +kernel
theorem xd_160_93 : decode prog_9_method_12_code 93 = .ok (.invokestatic 53, 3) := by decide +kernel
theorem xd_160_96 : decode prog_9_method_12_code 96 = .ok (.ifCond .ne 8, 3) := by decide +kernel
theorem xd_160_99 : decode prog_9_method_12_code 99 = .ok (.aload_n 0, 1) := by decide +kernel
theorem xd_160_100 : decode prog_9_method_12_code 100 = .ok (.iload_n 2, 1) := by decide +kernel
theorem xd_160_101 : decode prog_9_method_12_code 101 = .ok (.putfield 33, 3) := by decide +kernel
theorem xd_160_104 : decode prog_9_method_12_code 104 = .ok (.ldc 68, 2) := by decide +kernel
theorem xd_160_106 : decode prog_9_method_12_code 106 = .ok (.ireturn, 1) := by decide +kernel
theorem xd_161_0 : decode prog_9_method_13_code 0 = .ok (.aload_n 0, 1) := by decide +kernel
theorem xd_161_1 : decode prog_9_method_13_code 1 = .ok (.getfield 33, 3) := by decide +kernel
theorem xd_161_4 : decode prog_9_method_13_code 4 = .ok (.aload_n 0, 1) := by decide +kernel
theorem xd_161_5 : decode prog_9_method_13_code 5 = .ok (.getfield 29, 3) := by decide +kernel
theorem xd_161_8 : decode prog_9_method_13_code 8 = .ok (.if_icmp .ge 39, 3) := by decide +kernel
theorem xd_161_11 : decode prog_9_method_13_code 11 = .ok (.aload_n 0, 1) := by decide +kernel
theorem xd_161_12 : decode prog_9_method_13_code 12 = .ok (.getfield 15, 3) := by decide +kernel
theorem xd_161_15 : decode prog_9_method_13_code 15 = .ok (.aload_n 0, 1) := by decide +kernel
theorem xd_161_16 : decode prog_9_method_13_code 16 = .ok (.getfield 33, 3) := by decide +kernel
theorem xd_161_19 : decode prog_9_method_13_code 19 = .ok (.iaload, 1) := by decide +kernel
theorem xd_161_20 : decode prog_9_method_13_code 20 = .ok (.aload_n 0, 1) := by decide +kernel
theorem xd_161_21 : decode prog_9_method_13_code 21 = .ok (.getfield 9, 3) := by decide +kernel
theorem xd_161_24 : decode prog_9_method_13_code 24 = .ok (.aload_n 0, 1) := by decide +kernel
theorem xd_161_25 : decode prog_9_method_13_code 25 = .ok (.getfield 33, 3) := by decide +kernel
theorem xd_161_28 : decode prog_9_method_13_code 28 = .ok (.iaload, 1) := by decide +kernel
theorem xd_161_29 : decode prog_9_method_13_code 29 = .ok (.isub, 1) := by decide +kernel
theorem xd_161_30 : decode prog_9_method_13_code 30 = .ok (.iconst 3, 1) := by decide +kernel
theorem xd_161_31 : decode prog_9_method_13_code 31 = .ok (.if_icmp .gt 16, 3) := by decide +kernel
theorem xd_161_34 : decode prog_9_method_13_code 34 = .ok (.aload_n 0, 1) := by decide +kernel
theorem xd_161_35 : decode prog_9_method_13_code 35 = .ok (.getfield 22, 3) := by decide +kernel
theorem xd_161_38 : decode prog_9_method_13_code 38 = .ok (.aload_n 0, 1) := by decide +kernel
theorem xd_161_39 : decode prog_9_method_13_code 39 = .ok (.getfield 33, 3) := by decide +kernel
theorem xd_161_42 : decode prog_9_method_13_code 42 = .ok (.iaload, 1) := by decide +kernel
theorem xd_161_43 : decode prog_9_method_13_code 43 = .ok (.iconst 1, 1) := by decide +kernel
theorem xd_161_44 : decode prog_9_method_13_code 44 = .ok (.if_icmp .ge 5, 3) := by decide +kernel
theorem xd_161_47 : decode prog_9_method_13_code 47 = .ok (.iconst (-1), 1) := by decide +kernel
theorem xd_161_48 : decode prog_9_method_13_code 48 = .ok (.ireturn, 1) := by decide +kernel
theorem xd_161_49 : decode prog_9_method_13_code 49 = .ok (.aload_n 0, 1) := by decide +kernel
theorem xd_161_50 : decode prog_9_method_13_code 50 = .ok (.getfield 22, 3) := by decide +kernel
theorem xd_161_53 : decode prog_9_method_13_code 53 = .ok (.aload_n 0, 1) := by decide +kernel
theorem xd_161_54 : decode prog_9_method_13_code 54 = .ok (.getfield 33, 3) := by decide +kernel
theorem xd_161_57 : decode prog_9_method_13_code 57 = .ok (.iaload, 1) := by decide +kernel
theorem xd_161_58 : decode prog_9_method_13_code 58 = .ok (.ireturn, 1) := by decide +kernel
theorem xd_162_0 : decode prog_9_method_14_code 0 = .ok (.aload_n 0, 1) := by decide +kernel
theorem xd_162_1 : decode prog_9_method_14_code 1 = .ok (.bipush 35, 2) := by decide +kernel
theorem xd_162_3 : decode prog_9_method_14_code 3 = .ok (.invokevirtual 69, 3) := by decide +kernel
theorem xd_162_6 : decode prog_9_method_14_code 6 = .ok (.ifCond .eq 10, 3) := by decide +kernel
theorem xd_162_9 : decode prog_9_method_14_code 9 = .ok (.aload_n 0, 1) := by decide +kernel
theorem xd_162_10 : decode prog_9_method_14_code 10 = .ok (.invokevirtual 72, 3) := by decide +kernel
theorem xd_162_13 : decode prog_9_method_14_code 13 = .ok (.goto 4, 3) := by decide +kernel
theorem xd_162_16 : decode prog_9_method_14_code 16 = .ok (.iconst (-1), 1) := by decide +kernel
theorem xd_162_17 : decode prog_9_method_14_code 17 = .ok (.istore_n 1, 1) := by decide +kernel
theorem xd_162_18 : decode prog_9_method_14_code 18 = .ok (.iload_n 1, 1) := by decide +kernel
theorem xd_162_19 : decode prog_9_method_14_code 19 = .ok (.iconst (-1), 1) := by decide +kernel
theorem xd_162_20 : decode prog_9_method_14_code 20 = .ok (.if_icmp .ne 6, 3) := by decide +kernel
theorem xd_162_23 : decode prog_9_method_14_code 23 = .ok (.ldc 68, 2) := by decide +kernel
theorem xd_162_25 : decode prog_9_method_14_code 25 = .ok (.ireturn, 1) := by decide +kernel
theorem xd_162_26 : decode prog_9_method_14_code 26 = .ok (.aload_n 0, 1) := by decide +kernel
theorem xd_162_27 : decode prog_9_method_14_code 27 = .ok (.dup, 1) := by decide +kernel
theorem xd_162_28 : decode prog_9_method_14_code 28 = .ok (.getfield 33, 3) := by decide +kernel
theorem xd_162_31 : decode prog_9_method_14_code 31 = .ok (.iconst 1, 1) := by decide +kernel
theorem xd_162_32 : decode prog_9_method_14_code 32 = .ok (.iadd, 1) := by decide +kernel
theorem xd_162_33 : decode prog_9_method_14_code 33 = .ok (.putfield 33, 3) := by decide +kernel
theorem xd_162_36 : decode prog_9_method_14_code 36 = .ok (.iload_n 1, 1) := by decide +kernel
theorem xd_162_37 : decode prog_9_method_14_code 37 = .ok (.ireturn, 1) := by decide +kernel
theorem xd_163_0 : decode prog_9_method_15_code 0 = .ok (.aload_n 0, 1) := by decide +kernel
theorem xd_163_1 : decode prog_9_method_15_code 1 = .ok (.invokevirtual 64, 3) := by decide +kernel
theorem xd_163_4 : decode prog_9_method_15_code 4 = .ok (.bipush 39, 2) := by decide +kernel
theorem xd_163_6 : decode prog_9_method_15_code 6 = .ok (.if_icmp .ne 16, 3) := by decide +kernel
theorem xd_163_9 : decode prog_9_method_15_code 9 = .ok (.aload_n 0, 1) := by decide +kernel
theorem xd_163_10 : decode prog_9_method_15_code 10 = .ok (.getfield 15, 3) := by decide +kernel
theorem xd_163_13 : decode prog_9_method_15_code 13 = .ok (.aload_n 0, 1) := by decide +kernel
theorem xd_163_14 : decode prog_9_method_15_code 14 = .ok (.getfield 33, 3) := by decide +kernel
theorem xd_163_17 : decode prog_9_method_15_code 17 = .ok (.iaload, 1) := by decide +kernel
theorem xd_163_18 : decode prog_9_method_15_code 18 = .ok (.iconst (-1), 1) := by decide +kernel
theorem xd_163_19 : decode prog_9_method_15_code 19 = .ok (.if_icmp .ne 5, 3) := by decide +kernel
theorem xd_163_22 : decode prog_9_method_15_code 22 = .ok (.iconst (-1), 1) := by decide +kernel
theorem xd_163_23 : decode prog_9_method_15_code 23 = .ok (.ireturn, 1) := by decide +kernel
theorem xd_163_24 : decode prog_9_method_15_code 24 = .ok (.iconst 0, 1) := by decide +kernel
theorem xd_163_25 : decode prog_9_method_15_code 25 = .ok (.istore_n 1, 1) := by decide +kernel
theorem xd_163_26 : decode prog_9_method_15_code 26 = .ok (.aload_n 0, 1) := by decide +kernel
theorem xd_163_27 : decode prog_9_method_15_code 27 = .ok (.getfield 9, 3) := by decide +kernel
theorem xd_163_30 : decode prog_9_method_15_code 30 = .ok (.aload_n 0, 1) := by decide +kernel
theorem xd_163_31 : decode prog_9_method_15_code 31 = .ok (.getfield 33, 3) := by decide +kernel
theorem xd_163_34 : decode prog_9_method_15_code 34 = .ok (.iaload, 1) := by decide +kernel
theorem xd_163_35 : decode prog_9_method_15_code 35 = .ok (.iconst 1, 1) := by decide +kernel
theorem xd_163_36 : decode prog_9_method_15_code 36 = .ok (.iadd, 1) := by decide +kernel
theorem xd_163_37 : decode prog_9_method_15_code 37 = .ok (.istore_n 2, 1) := by decide +kernel
theorem xd_163_38 : decode prog_9_method_15_code 38 = .ok (.iload_n 2, 1) := by decide +kernel
theorem xd_163_39 : decode prog_9_method_15_code 39 = .ok (.aload_n 0, 1) := by decide +kernel
theorem xd_163_40 : decode prog_9_method_15_code 40 = .ok (.getfield 15, 3) := by decide +kernel
theorem xd_163_43 : decode prog_9_method_15_code 43 = .ok (.aload_n 0, 1) := by decide +kernel
theorem xd_163_44 : decode prog_9_method_15_code 44 = .ok (.getfield 33, 3) := by decide +kernel
theorem xd_163_47 : decode prog_9_method_15_code 47 = .ok (.iaload, 1) := by decide +kernel
theorem xd_163_48 : decode prog_9_method_15_code 48 = .ok (.iconst 1, 1) := by decide +kernel
theorem xd_163_49 : decode prog_9_method_15_code 49 = .ok (.isub, 1) := by decide +kernel
theorem xd_163_50 : decode prog_9_method_15_code 50 = .ok (.if_icmp .ge 33, 3) := by decide +kernel
theorem xd_163_53 : decode prog_9_method_15_code 53 = .ok (.iload_n 2, 1) := by decide +kernel
theorem xd_163_54 : decode prog_9_method_15_code 54 = .ok (.aload_n 0, 1) := by decide +kernel
theorem xd_163_55 : decode prog_9_method_15_code 55 = .ok (.getfield 25, 3) := by decide +kernel
theorem xd_163_58 : decode prog_9_method_15_code 58 = .ok (.iload_n 2, 1) := by decide +kernel
theorem xd_163_59 : decode prog_9_method_15_code 59 = .ok (.invokevirtual 41, 3) := by decide +kernel
theorem xd_163_62 : decode prog_9_method_15_code 62 = .ok (.bipush 39, 2) := by decide +kernel
theorem xd_163_64 : decode prog_9_method_15_code 64 = .ok (.if_icmp .ne 7, 3) := by decide +kernel
theorem xd_163_67 : decode prog_9_method_15_code 67 = .ok (.iconst 1, 1) := by decide +kernel
theorem xd_163_68 : decode prog_9_method_15_code 68 = .ok (.goto 4, 3) := by decide +kernel
theorem xd_163_71 : decode prog_9_method_15_code 71 = .ok (.iconst 0, 1) := by decide +kernel
theorem xd_163_72 : decode prog_9_method_15_code 72 = .ok (.iadd, 1) := by decide +kernel
theorem xd_163_73 : decode prog_9_method_15_code 73 = .ok (.istore_n 2, 1) := by decide +kernel
theorem xd_163_74 : decode prog_9_method_15_code 74 = .ok (.iinc 1 1, 3) := by decide +kernel
theorem xd_163_77 : decode prog_9_method_15_code 77 = .ok (.iinc 2 1, 3) := by decide +kernel
theorem xd_163_80 : decode prog_9_method_15_code 80 = .ok (.goto (-42), 3) := by decide +kernel
theorem xd_163_83 : decode prog_9_method_15_code 83 = .ok (.iload_n 1, 1) := by decide +kernel
theorem xd_163_84 : decode prog_9_method_15_code 84 = .ok (.ireturn, 1) := by decide +kernel
theorem xd_164_0 : decode prog_9_method_16_code 0 = .ok (.aload_n 0, 1) := by decide +kernel
theorem xd_164_1 : decode prog_9_method_16_code 1 = .ok (.invokevirtual 64, 3) := by decide +kernel
theorem xd_164_4 : decode prog_9_method_16_code 4 = .ok (.bipush 39, 2) := by decide +kernel
theorem xd_164_6 : decode prog_9_method_16_code 6 = .ok (.if_icmp .eq 4, 3) := by decide +kernel
theorem xd_164_9 : decode prog_9_method_16_code 9 = .ok (.return_, 1) := by decide +kernel
theorem xd_164_10 : decode prog_9_method_16_code 10 = .ok (.aload_n 0, 1) := by decide +kernel
theorem xd_164_11 : decode prog_9_method_16_code 11 = .ok (.getfield 9, 3) := by decide +kernel
theorem xd_164_14 : decode prog_9_method_16_code 14 = .ok (.aload_n 0, 1) := by decide +kernel
theorem xd_164_15 : decode prog_9_method_16_code 15 = .ok (.getfield 33, 3) := by decide +kernel
theorem xd_164_18 : decode prog_9_method_16_code 18 = .ok (.iaload, 1) := by decide +kernel
theorem xd_164_19 : decode prog_9_method_16_code 19 = .ok (.iconst 1, 1) := by decide +kernel
theorem xd_164_20 : decode prog_9_method_16_code 20 = .ok (.iadd, 1) := by decide +kernel
theorem xd_164_21 : decode prog_9_method_16_code 21 = .ok (.istore_n 3, 1) := by decide +kernel
theorem xd_164_22 : decode prog_9_method_16_code 22 = .ok (.iload_n 3, 1) := by decide +kernel
theorem xd_164_23 : decode prog_9_method_16_code 23 = .ok (.aload_n 0, 1) := by decide +kernel
theorem xd_164_24 : decode prog_9_method_16_code 24 = .ok (.getfield 15, 3) := by decide +kernel
theorem xd_164_27 : decode prog_9_method_16_code 27 = .ok (.aload_n 0, 1) := by decide +kernel
theorem xd_164_28 : decode prog_9_method_16_code 28 = .ok (.getfield 33, 3) := by decide +kernel
theorem xd_164_31 : decode prog_9_method_16_code 31 = .ok (.iaload, 1) := by decide +kernel
theorem xd_164_32 : decode prog_9_method_16_code 32 = .ok (.iconst 1, 1) := by decide +kernel
theorem xd_164_33 : decode prog_9_method_16_code 33 = .ok (.isub, 1) := by decide +kernel
theorem xd_164_34 : decode prog_9_method_16_code 34 = .ok (.if_icmp .ge 43, 3) := by decide +kernel
theorem xd_164_37 : decode prog_9_method_16_code 37 = .ok (.iload_n 3, 1) := by decide +kernel
theorem xd_164_38 : decode prog_9_method_16_code 38 = .ok (.aload_n 0, 1) := by decide +kernel
theorem xd_164_39 : decode prog_9_method_16_code 39 = .ok (.getfield 25, 3) := by decide +kernel
theorem xd_164_42 : decode prog_9_method_16_code 42 = .ok (.iload_n 3, 1) := by decide +kernel
theorem xd_164_43 : decode prog_9_method_16_code 43 = .ok (.invokevirtual 41, 3) := by decide +kernel
theorem xd_164_46 : decode prog_9_method_16_code 46 = .ok (.bipush 39, 2) := by decide +kernel
theorem xd_164_48 : decode prog_9_method_16_code 48 = .ok (.if_icmp .ne 7, 3) := by decide +kernel
theorem xd_164_51 : decode prog_9_method_16_code 51 = .ok (.iconst 1, 1) := by decide +kernel
theorem xd_164_52 : decode prog_9_method_16_code 52 = .ok (.goto 4, 3) := by decide +kernel
theorem xd_164_55 : decode prog_9_method_16_code 55 = .ok (.iconst 0, 1) := by decide +kernel
theorem xd_164_56 : decode prog_9_method_16_code 56 = .ok (.iadd, 1) := by decide +kernel
theorem xd_164_57 : decode prog_9_method_16_code 57 = .ok (.istore_n 3, 1) := by decide +kernel
theorem xd_164_58 : decode prog_9_method_16_code 58 = .ok (.aload_n 1, 1) := by decide +kernel
theorem xd_164_59 : decode prog_9_method_16_code 59 = .ok (.iload_n 2, 1) := by decide +kernel
theorem xd_164_60 : decode prog_9_method_16_code 60 = .ok (.aload_n 0, 1) := by decide +kernel
theorem xd_164_61 : decode prog_9_method_16_code 61 = .ok (.getfield 25, 3) := by decide +kernel
theorem xd_164_64 : decode prog_9_method_16_code 64 = .ok (.iload_n 3, 1) := by decide +kernel
theorem xd_164_65 : decode prog_9_method_16_code 65 = .ok (.invokevirtual 41, 3) := by decide +kernel
theorem xd_164_68 : decode prog_9_method_16_code 68 = .ok (.invokevirtual 76, 3) := by decide +kernel
theorem xd_164_71 : decode prog_9_method_16_code 71 = .ok (.iinc 3 1, 3) := by decide +kernel
theorem xd_164_74 : decode prog_9_method_16_code 74 = .ok (.goto (-52), 3) := by decide +kernel
theorem xd_164_77 : decode prog_9_method_16_code 77 = .ok (.aload_n 0, 1) := by decide +kernel
theorem xd_164_78 : decode prog_9_method_16_code 78 = .ok (.dup, 1) := by decide +kernel
theorem xd_164_79 : decode prog_9_method_16_code 79 = .ok (.getfield 33, 3) := by decide +kernel
theorem xd_164_82 : decode prog_9_method_16_code 82 = .ok (.iconst 1, 1) := by decide +kernel
theorem xd_164_83 : decode prog_9_method_16_code 83 = .ok (.iadd, 1) := by decide +kernel
theorem xd_164_84 : decode prog_9_method_16_code 84 = .ok (.putfield 33, 3) := by decide +kernel
theorem xd_164_87 : decode prog_9_method_16_code 87 = .ok (.return_, 1) := by decide +kernel
theorem xd_165_0 : decode prog_9_method_17_code 0 = .ok (.aload_n 0, 1) := by decide +kernel
theorem xd_165_1 : decode prog_9_method_17_code 1 = .ok (.invokevirtual 64, 3) := by decide +kernel
theorem xd_165_4 : decode prog_9_method_17_code 4 = .ok (.invokestatic 45, 3) := by decide +kernel
theorem xd_165_7 : decode prog_9_method_17_code 7 = .ok (.ifCond .ne 4, 3) := by decide +kernel
theorem xd_165_10 : decode prog_9_method_17_code 10 = .ok (.return_, 1) := by decide +kernel
theorem xd_165_11 : decode prog_9_method_17_code 11 = .ok (.aload_n 0, 1) := by decide +kernel
theorem xd_165_12 : decode prog_9_method_17_code 12 = .ok (.getfield 9, 3) := by decide +kernel
theorem xd_165_15 : decode prog_9_method_17_code 15 = .ok (.aload_n 0, 1) := by decide +kernel
theorem xd_165_16 : decode prog_9_method_17_code 16 = .ok (.getfield 33, 3) := by decide +kernel
theorem xd_165_19 : decode prog_9_method_17_code 19 = .ok (.iaload, 1) := by decide +kernel
theorem xd_165_20 : decode prog_9_method_17_code 20 = .ok (.istore_n 3, 1) := by decide +kernel
theorem xd_165_21 : decode prog_9_method_17_code 21 = .ok (.iload_n 3, 1) := by decide +kernel
theorem xd_165_22 : decode prog_9_method_17_code 22 = .ok (.aload_n 0, 1) := by decide +kernel
theorem xd_165_23 : decode prog_9_method_17_code 23 = .ok (.getfield 15, 3) := by decide +kernel
theorem xd_165_26 : decode prog_9_method_17_code 26 = .ok (.aload_n 0, 1) := by decide +kernel
theorem xd_165_27 : decode prog_9_method_17_code 27 = .ok (.getfield 33, 3) := by decide +kernel
theorem xd_165_30 : decode prog_9_method_17_code 30 = .ok (.iaload, 1) := by decide +kernel
theorem xd_165_31 : decode prog_9_method_17_code 31 = .ok (.if_icmp .ge 22, 3) := by decide +kernel
theorem xd_165_34 : decode prog_9_method_17_code 34 = .ok (.aload_n 1, 1) := by decide +kernel
theorem xd_165_35 : decode prog_9_method_17_code 35 = .ok (.iload_n 2, 1) := by decide +kernel
theorem xd_165_36 : decode prog_9_method_17_code 36 = .ok (.aload_n 0, 1) := by decide +kernel
theorem xd_165_37 : decode prog_9_method_17_code 37 = .ok (.getfield 25, 3) := by decide +kernel
theorem xd_165_40 : decode prog_9_method_17_code 40 = .ok (.iload_n 3, 1) := by decide +kernel
theorem xd_165_41 : decode prog_9_method_17_code 41 = .ok (.invokevirtual 41, 3) := by decide +kernel
theorem xd_165_44 : decode prog_9_method_17_code 44 = .ok (.invokevirtual 76, 3) := by decide +kernel
theorem xd_165_47 : decode prog_9_method_17_code 47 = .ok (.iinc 3 1, 3) := by decide +kernel
theorem xd_165_50 : decode prog_9_method_17_code 50 = .ok (.goto (-29), 3) := by decide +kernel
theorem xd_165_53 : decode prog_9_method_17_code 53 = .ok (.aload_n 0, 1) := by decide +kernel
theorem xd_165_54 : decode prog_9_method_17_code 54 = .ok (.dup, 1) := by decide +kernel
theorem xd_165_55 : decode prog_9_method_17_code 55 = .ok (.getfield 33, 3) := by decide +kernel
theorem xd_165_58 : decode prog_9_method_17_code 58 = .ok (.iconst 1, 1) := by decide +kernel
theorem xd_165_59 : decode prog_9_method_17_code 59 = .ok (.iadd, 1) := by decide +kernel
theorem xd_165_60 : decode prog_9_method_17_code 60 = .ok (.putfield 33, 3) := by decide +kernel
theorem xd_165_63 : decode prog_9_method_17_code 63 = .ok (.return_, 1) := by decide +kernel
theorem xd_166_0 : decode prog_10_method_2_code 0 = .ok (.aload_n 2, 1) := by decide +kernel
theorem xd_166_1 : decode prog_10_method_2_code 1 = .ok (.bipush 35, 2) := by decide +kernel
theorem xd_166_3 : decode prog_10_method_2_code 3 = .ok (.invokevirtual 9, 3) := by decide +kernel
theorem xd_166_6 : decode prog_10_method_2_code 6 = .ok (.aload_n 0, 1) := by decide +kernel
theorem xd_166_7 : decode prog_10_method_2_code 7 = .ok (.getfield 15, 3) := by decide +kernel
theorem xd_166_10 : decode prog_10_method_2_code 10 = .ok (.iload_n 1, 1) := by decide +kernel
theorem xd_166_11 : decode prog_10_method_2_code 11 = .ok (.iaload, 1) := by decide +kernel
theorem xd_166_12 : decode prog_10_method_2_code 12 = .ok (.aload_n 2, 1) := by decide +kernel
theorem xd_166_13 : decode prog_10_method_2_code 13 = .ok (.invokestatic 21, 3) := by decide +kernel
theorem xd_166_16 : decode prog_10_method_2_code 16 = .ok (.aload_n 2, 1) := by decide +kernel
theorem xd_166_17 : decode prog_10_method_2_code 17 = .ok (.bipush 61, 2) := by decide +kernel
theorem xd_166_19 : decode prog_10_method_2_code 19 = .ok (.invokevirtual 9, 3) := by decide +kernel
theorem xd_166_22 : decode prog_10_method_2_code 22 = .ok (.aload_n 2, 1) := by decide +kernel
theorem xd_166_23 : decode prog_10_method_2_code 23 = .ok (.aload_n 0, 1) := by decide +kernel
theorem xd_166_24 : decode prog_10_method_2_code 24 = .ok (.getfield 27, 3) := by decide +kernel
theorem xd_166_27 : decode prog_10_method_2_code 27 = .ok (.iload_n 1, 1) := by decide +kernel
theorem xd_166_28 : decode prog_10_method_2_code 28 = .ok (.laload, 1) := by decide +kernel
theorem xd_166_29 : decode prog_10_method_2_code 29 = .ok (.invokevirtual 31, 3) := by decide +kernel
theorem xd_166_32 : decode prog_10_method_2_code 32 = .ok (.aload_n 2, 1) := by decide +kernel
theorem xd_166_33 : decode prog_10_method_2_code 33 = .ok (.bipush 40, 2) := by decide +kernel
theorem xd_166_35 : decode prog_10_method_2_code 35 = .ok (.invokevirtual 9, 3) := by decide +kernel
theorem xd_166_38 : decode prog_10_method_2_code 38 = .ok (.iconst 0, 1) := by decide +kernel
theorem xd_166_39 : decode prog_10_method_2_code 39 = .ok (.istore_n 3, 1) := by decide +kernel
theorem xd_166_40 : decode prog_10_method_2_code 40 = .ok (.iload_n 3, 1) := by decide +kernel
theorem xd_166_41 : decode prog_10_method_2_code 41 = .ok (.aload_n 0, 1) := by decide +kernel
theorem xd_166_42 : decode prog_10_method_2_code 42 = .ok (.getfield 35, 3) := by decide +kernel
theorem xd_166_45 : decode prog_10_method_2_code 45 = .ok (.iload_n 1, 1) := by decide +kernel
theorem xd_166_46 : decode prog_10_method_2_code 46 = .ok (.iaload, 1) := by decide +kernel
theorem xd_166_47 : decode prog_10_method_2_code 47 = .ok (.if_icmp .ge 30, 3) := by decide +kernel
theorem xd_166_50 : decode prog_10_method_2_code 50 = .ok (.iload_n 3, 1) := by decide +kernel
theorem xd_166_51 : decode prog_10_method_2_code 51 = .ok (.ifCond .le 9, 3) := by decide +kernel
theorem xd_166_54 : decode prog_10_method_2_code 54 = .ok (.aload_n 2, 1) := by decide +kernel
theorem xd_166_55 : decode prog_10_method_2_code 55 = .ok (.bipush 44, 2) := by decide +kernel
theorem xd_166_57 : decode prog_10_method_2_code 57 = .ok (.invokevirtual 9, 3) := by decide +kernel
theorem xd_166_60 : decode prog_10_method_2_code 60 = .ok (.aload_n 0, 1) := by decide +kernel
theorem xd_166_61 : decode prog_10_method_2_code 61 = .ok (.iload_n 1, 1) := by decide +kernel
theorem xd_166_62 : decode prog_10_method_2_code 62 = .ok (.bipush 8, 2) := by decide +kernel
theorem xd_166_64 : decode prog_10_method_2_code 64 = .ok (.imul, 1) := by decide +kernel
theorem xd_166_65 : decode prog_10_method_2_code 65 = .ok (.iload_n 3, 1) := by decide +kernel
theorem xd_166_66 : decode prog_10_method_2_code 66 = .ok (.iadd, 1) := by decide +kernel
theorem xd_166_67 : decode prog_10_method_2_code 67 = .ok (.aload_n 2, 1) := by decide +kernel
theorem xd_166_68 : decode prog_10_method_2_code 68 = .ok (.invokestatic 38, 3) := by decide +kernel
theorem xd_166_71 : decode prog_10_method_2_code 71 = .ok (.iinc 3 1, 3) := by decide +kernel
theorem xd_166_74 : decode prog_10_method_2_code 74 = .ok (.goto (-34), 3) := by decide +kernel
theorem xd_166_77 : decode prog_10_method_2_code 77 = .ok (.aload_n 2, 1) := by decide +kernel
theorem xd_166_78 : decode prog_10_method_2_code 78 = .ok (.bipush 41, 2) := by decide +kernel
theorem xd_166_80 : decode prog_10_method_2_code 80 = .ok (.invokevirtual 9, 3) := by decide +kernel
theorem xd_166_83 : decode prog_10_method_2_code 83 = .ok (.aload_n 2, 1) := by decide +kernel
theorem xd_166_84 : decode prog_10_method_2_code 84 = .ok (.bipush 59, 2) := by decide +kernel
theorem xd_166_86 : decode prog_10_method_2_code 86 = .ok (.invokevirtual 9, 3) := by decide +kernel
theorem xd_166_89 : decode prog_10_method_2_code 89 = .ok (.return_, 1) := by decide +kernel
theorem xd_167_0 : decode prog_10_method_3_code 0 = .ok (.aload_n 0, 1) := by decide +kernel
theorem xd_167_1 : decode prog_10_method_3_code 1 = .ok (.getfield 42, 3) := by decide +kernel
theorem xd_167_4 : decode prog_10_method_3_code 4 = .ok (.iload_n 1, 1) := by decide +kernel
theorem xd_167_5 : decode prog_10_method_3_code 5 = .ok (.iaload, 1) := by decide +kernel
theorem xd_167_6 : decode prog_10_method_3_code 6 = .ok (.tableswitch 105 0 6 #[42, 55, 66, 105, 105, 85, 96], 42) := by decide +kernel
theorem xd_167_48 : decode prog_10_method_3_code 48 = .ok (.aload_n 0, 1) := by decide +kernel
theorem xd_167_49 : decode prog_10_method_3_code 49 = .ok (.getfield 45, 3) := by decide +kernel
theorem xd_167_52 : decode prog_10_method_3_code 52 = .ok (.iload_n 1, 1) := by decide +kernel
theorem xd_167_53 : decode prog_10_method_3_code 53 = .ok (.iaload, 1) := by decide +kernel
theorem xd_167_54 : decode prog_10_method_3_code 54 = .ok (.aload_n 2, 1) := by decide +kernel
theorem xd_167_55 : decode prog_10_method_3_code 55 = .ok (.invokestatic 21, 3) := by decide +kernel
theorem xd_167_58 : decode prog_10_method_3_code 58 = .ok (.goto 59, 3) := by decide +kernel
theorem xd_167_61 : decode prog_10_method_3_code 61 = .ok (.aload_n 0, 1) := by decide +kernel
theorem xd_167_62 : decode prog_10_method_3_code 62 = .ok (.iload_n 1, 1) := by decide +kernel
theorem xd_167_63 : decode prog_10_method_3_code 63 = .ok (.bipush 39, 2) := by decide +kernel
theorem xd_167_65 : decode prog_10_method_3_code 65 = .ok (.aload_n 2, 1) := by decide +kernel
theorem xd_167_66 : decode prog_10_method_3_code 66 = .ok (.invokestatic 48, 3) := by decide +kernel
theorem xd_167_69 : decode prog_10_method_3_code 69 = .ok (.goto 48, 3) := by decide +kernel
theorem xd_167_72 : decode prog_10_method_3_code 72 = .ok (.aload_n 2, 1) := by decide +kernel
theorem xd_167_73 : decode prog_10_method_3_code 73 = .ok (.bipush 35, 2) := by decide +kernel
theorem xd_167_75 : decode prog_10_method_3_code 75 = .ok (.invokevirtual 9, 3) := by decide +kernel
theorem xd_167_78 : decode prog_10_method_3_code 78 = .ok (.aload_n 0, 1) := by decide +kernel
theorem xd_167_79 : decode prog_10_method_3_code 79 = .ok (.getfield 45, 3) := by decide +kernel
theorem xd_167_82 : decode prog_10_method_3_code 82 = .ok (.iload_n 1, 1) := by decide +kernel
theorem xd_167_83 : decode prog_10_method_3_code 83 = .ok (.iaload, 1) := by decide +kernel
theorem xd_167_84 : decode prog_10_method_3_code 84 = .ok (.aload_n 2, 1) := by decide +kernel
theorem xd_167_85 : decode prog_10_method_3_code 85 = .ok (.invokestatic 21, 3) := by decide +kernel
theorem xd_167_88 : decode prog_10_method_3_code 88 = .ok (.goto 29, 3) := by decide +kernel
theorem xd_167_91 : decode prog_10_method_3_code 91 = .ok (.aload_n 0, 1) := by decide +kernel
theorem xd_167_92 : decode prog_10_method_3_code 92 = .ok (.iload_n 1, 1) := by decide +kernel
theorem xd_167_93 : decode prog_10_method_3_code 93 = .ok (.bipush 46, 2) := by decide +kernel
theorem xd_167_95 : decode prog_10_method_3_code 95 = .ok (.aload_n 2, 1) := by decide +kernel
theorem xd_167_96 : decode prog_10_method_3_code 96 = .ok (.invokestatic 48, 3) := by decide +kernel
theorem xd_167_99 : decode prog_10_method_3_code 99 = .ok (.goto 18, 3) := by decide +kernel
theorem xd_167_102 : decode prog_10_method_3_code 102 = .ok (.aload_n 2, 1) := by decide +kernel
theorem xd_167_103 : decode prog_10_method_3_code 103 = .ok (.bipush 36, 2) := by decide +kernel
theorem xd_167_105 : decode prog_10_method_3_code 105 = .ok (.invokevirtual 9, 3) := by decide +kernel
theorem xd_167_108 : decode prog_10_method_3_code 108 = .ok (.goto 9, 3) := by decide +kernel
theorem xd_167_111 : decode prog_10_method_3_code 111 = .ok (.aload_n 0, 1) := by decide +kernel
theorem xd_167_112 : decode prog_10_method_3_code 112 = .ok (.iload_n 1, 1) := by decide +kernel
theorem xd_167_113 : decode prog_10_method_3_code 113 = .ok (.aload_n 2, 1) := by decide +kernel
theorem xd_167_114 : decode prog_10_method_3_code 114 = .ok (.invokestatic 52, 3) := by decide +kernel
theorem xd_167_117 : decode prog_10_method_3_code 117 = .ok (.return_, 1) := by decide +kernel
theorem xd_168_0 : decode prog_10_method_4_code 0 = .ok (.aload_n 3, 1) := by decide +kernel
theorem xd_168_1 : decode prog_10_method_4_code 1 = .ok (.iload_n 2, 1) := by decide +kernel
theorem xd_168_2 : decode prog_10_method_4_code 2 = .ok (.invokevirtual 9, 3) := by decide +kernel
theorem xd_168_5 : decode prog_10_method_4_code 5 = .ok (.iconst 0, 1) := by decide +kernel
theorem xd_168_6 : decode prog_10_method_4_code 6 = .ok (.istore 4, 2) := by decide +kernel
theorem xd_168_8 : decode prog_10_method_4_code 8 = .ok (.iload 4, 2) := by decide +kernel
theorem xd_168_10 : decode prog_10_method_4_code 10 = .ok (.aload_n 0, 1) := by decide +kernel
theorem xd_168_11 : decode prog_10_method_4_code 11 = .ok (.iload_n 1, 1) := by decide +kernel
theorem xd_168_12 : decode prog_10_method_4_code 12 = .ok (.invokevirtual 55, 3) := by decide +kernel
theorem xd_168_15 : decode prog_10_method_4_code 15 = .ok (.if_icmp .ge 37, 3) := by decide +kernel
theorem xd_168_18 : decode prog_10_method_4_code 18 = .ok (.aload_n 0, 1) := by decide +kernel
theorem xd_168_19 : decode prog_10_method_4_code 19 = .ok (.iload_n 1, 1) := by decide +kernel
theorem xd_168_20 : decode prog_10_method_4_code 20 = .ok (.iload 4, 2) := by decide +kernel
theorem xd_168_22 : decode prog_10_method_4_code 22 = .ok (.invokevirtual 59, 3) := by decide +kernel
theorem xd_168_25 : decode prog_10_method_4_code 25 = .ok (.i2c, 1) := by decide +kernel
theorem xd_168_26 : decode prog_10_method_4_code 26 = .ok (.istore 5, 2) := by decide +kernel
theorem xd_168_28 : decode prog_10_method_4_code 28 = .ok (.aload_n 3, 1) := by decide +kernel
theorem xd_168_29 : decode prog_10_method_4_code 29 = .ok (.iload 5, 2) := by decide +kernel
theorem xd_168_31 : decode prog_10_method_4_code 31 = .ok (.invokevirtual 9, 3) := by decide +kernel
theorem xd_168_34 : decode prog_10_method_4_code 34 = .ok (.iload 5, 2) := by decide +kernel
theorem xd_168_36 : decode prog_10_method_4_code 36 = .ok (.iload_n 2, 1) := by decide +kernel
theorem xd_168_37 : decode prog_10_method_4_code 37 = .ok (.if_icmp .ne 9, 3) := by decide +kernel
theorem xd_168_40 : decode prog_10_method_4_code 40 = .ok (.aload_n 3, 1) := by decide +kernel
theorem xd_168_41 : decode prog_10_method_4_code 41 = .ok (.iload 5, 2) := by decide +kernel
theorem xd_168_43 : decode prog_10_method_4_code 43 = .ok (.invokevirtual 9, 3) := by decide +kernel
theorem xd_168_46 : decode prog_10_method_4_code 46 = .ok (.iinc 4 1, 3) := by decide +kernel
theorem xd_168_49 : decode prog_10_method_4_code 49 = .ok (.goto (-41), 3) := by decide +kernel
theorem xd_168_52 : decode prog_10_method_4_code 52 = .ok (.aload_n 3, 1) := by decide +kernel
theorem xd_168_53 : decode prog_10_method_4_code 53 = .ok (.iload_n 2, 1) := by decide +kernel
theorem xd_168_54 : decode prog_10_method_4_code 54 = .ok (.invokevirtual 9, 3) := by decide +kernel
theorem xd_168_57 : decode prog_10_method_4_code 57 = .ok (.return_, 1) := by decide +kernel
theorem xd_169_0 : decode prog_10_method_5_code 0 = .ok (.aload_n 2, 1) := by decide +kernel
theorem xd_169_1 : decode prog_10_method_5_code 1 = .ok (.bipush 40, 2) := by decide +kernel
theorem xd_169_3 : decode prog_10_method_5_code 3 = .ok (.invokevirtual 9, 3) := by decide +kernel
theorem xd_169_6 : decode prog_10_method_5_code 6 = .ok (.iconst 0, 1) := by decide +kernel
theorem xd_169_7 : decode prog_10_method_5_code 7 = .ok (.istore_n 3, 1) := by decide +kernel
theorem xd_169_8 : decode prog_10_method_5_code 8 = .ok (.iload_n 3, 1) := by decide +kernel
theorem xd_169_9 : decode prog_10_method_5_code 9 = .ok (.aload_n 0, 1) := by decide +kernel
theorem xd_169_10 : decode prog_10_method_5_code 10 = .ok (.iload_n 1, 1) := by decide +kernel
theorem xd_169_11 : decode prog_10_method_5_code 11 = .ok (.invokevirtual 55, 3) := by decide +kernel
theorem xd_169_14 : decode prog_10_method_5_code 14 = .ok (.if_icmp .ge 45, 3) := by decide +kernel
theorem xd_169_17 : decode prog_10_method_5_code 17 = .ok (.iload_n 3, 1) := by decide +kernel
theorem xd_169_18 : decode prog_10_method_5_code 18 = .ok (.ifCond .le 9, 3) := by decide +kernel
theorem xd_169_21 : decode prog_10_method_5_code 21 = .ok (.aload_n 2, 1) := by decide +kernel
theorem xd_169_22 : decode prog_10_method_5_code 22 = .ok (.bipush 44, 2) := by decide +kernel
theorem xd_169_24 : decode prog_10_method_5_code 24 = .ok (.invokevirtual 9, 3) := by decide +kernel
theorem xd_169_27 : decode prog_10_method_5_code 27 = .ok (.aload_n 0, 1) := by decide +kernel
theorem xd_169_28 : decode prog_10_method_5_code 28 = .ok (.getfield 42, 3) := by decide +kernel
theorem xd_169_31 : decode prog_10_method_5_code 31 = .ok (.iload_n 1, 1) := by decide +kernel
theorem xd_169_32 : decode prog_10_method_5_code 32 = .ok (.iaload, 1) := by decide +kernel
theorem xd_169_33 : decode prog_10_method_5_code 33 = .ok (.iconst 4, 1) := by decide +kernel
theorem xd_169_34 : decode prog_10_method_5_code 34 = .ok (.if_icmp .ne 9, 3) := by decide +kernel
theorem xd_169_37 : decode prog_10_method_5_code 37 = .ok (.aload_n 2, 1) := by decide +kernel
theorem xd_169_38 : decode prog_10_method_5_code 38 = .ok (.bipush 35, 2) := by decide +kernel
theorem xd_169_40 : decode prog_10_method_5_code 40 = .ok (.invokevirtual 9, 3) := by decide +kernel
theorem xd_169_43 : decode prog_10_method_5_code 43 = .ok (.aload_n 0, 1) := by decide +kernel
theorem xd_169_44 : decode prog_10_method_5_code 44 = .ok (.iload_n 1, 1) := by decide +kernel
theorem xd_169_45 : decode prog_10_method_5_code 45 = .ok (.iload_n 3, 1) := by decide +kernel
theorem xd_169_46 : decode prog_10_method_5_code 46 = .ok (.invokevirtual 59, 3) := by decide +kernel
theorem xd_169_49 : decode prog_10_method_5_code 49 = .ok (.aload_n 2, 1) := by decide +kernel
theorem xd_169_50 : decode prog_10_method_5_code 50 = .ok (.invokestatic 21, 3) := by decide +kernel
theorem xd_169_53 : decode prog_10_method_5_code 53 = .ok (.iinc 3 1, 3) := by decide +kernel
theorem xd_169_56 : decode prog_10_method_5_code 56 = .ok (.goto (-48), 3) := by decide +kernel
theorem xd_169_59 : decode prog_10_method_5_code 59 = .ok (.aload_n 2, 1) := by decide +kernel
theorem xd_169_60 : decode prog_10_method_5_code 60 = .ok (.bipush 41, 2) := by decide +kernel
theorem xd_169_62 : decode prog_10_method_5_code 62 = .ok (.invokevirtual 9, 3) := by decide +kernel
theorem xd_169_65 : decode prog_10_method_5_code 65 = .ok (.return_, 1) := by decide +kernel
theorem xd_170_0 : decode prog_10_method_6_code 0 = .ok (.iload_n 0, 1) := by decide +kernel
theorem xd_170_1 : decode prog_10_method_6_code 1 = .ok (.ifCond .ge 9, 3) := by decide +kernel
theorem xd_170_4 : decode prog_10_method_6_code 4 = .ok (.aload_n 1, 1) := by decide +kernel
theorem xd_170_5 : decode prog_10_method_6_code 5 = .ok (.bipush 45, 2) := by decide +kernel
theorem xd_170_7 : decode prog_10_method_6_code 7 = .ok (.invokevirtual 9, 3) := by decide +kernel
theorem xd_170_10 : decode prog_10_method_6_code 10 = .ok (.iload_n 0, 1) := by decide +kernel
theorem xd_170_11 : decode prog_10_method_6_code 11 = .ok (.ifCond .ge 8, 3) := by decide +kernel
theorem xd_170_14 : decode prog_10_method_6_code 14 = .ok (.iload_n 0, 1) := by decide +kernel
theorem xd_170_15 : decode prog_10_method_6_code 15 = .ok (.ineg, 1) := by decide +kernel
theorem xd_170_16 : decode prog_10_method_6_code 16 = .ok (.goto 4, 3) := by decide +kernel
theorem xd_170_19 : decode prog_10_method_6_code 19 = .ok (.iload_n 0, 1) := by decide +kernel
theorem xd_170_20 : decode prog_10_method_6_code 20 = .ok (.istore_n 2, 1) := by decide +kernel
theorem xd_170_21 : decode prog_10_method_6_code 21 = .ok (.iconst 0, 1) := by decide +kernel
theorem xd_170_22 : decode prog_10_method_6_code 22 = .ok (.istore_n 3, 1) := by decide +kernel
theorem xd_170_23 : decode prog_10_method_6_code 23 = .ok (.ldc 63, 2) := by decide +kernel
theorem xd_170_25 : decode prog_10_method_6_code 25 = .ok (.istore 4, 2) := by decide +kernel
theorem xd_170_27 : decode prog_10_method_6_code 27 = .ok (.iload 4, 2) := by decide +kernel
theorem xd_170_29 : decode prog_10_method_6_code 29 = .ok (.ifCond .le 57, 3) := by decide +kernel
theorem xd_170_32 : decode prog_10_method_6_code 32 = .ok (.iload_n 2, 1) := by decide +kernel
theorem xd_170_33 : decode prog_10_method_6_code 33 = .ok (.iload 4, 2) := by decide +kernel
theorem xd_170_35 : decode prog_10_method_6_code 35 = .ok (.idiv, 1) := by decide +kernel
theorem xd_170_36 : decode prog_10_method_6_code 36 = .ok (.bipush 10, 2) := by decide +kernel
theorem xd_170_38 : decode prog_10_method_6_code 38 = .ok (.irem, 1) := by decide +kernel
theorem xd_170_39 : decode prog_10_method_6_code 39 = .ok (.istore 5, 2) := by decide +kernel
theorem xd_170_41 : decode prog_10_method_6_code 41 = .ok (.iload_n 3, 1) := by decide +kernel
theorem xd_170_42 : decode prog_10_method_6_code 42 = .ok (.ifCond .ne 14, 3) := by decide +kernel
theorem xd_170_45 : decode prog_10_method_6_code 45 = .ok (.iload 5, 2) := by decide +kernel
theorem xd_170_47 : decode prog_10_method_6_code 47 = .ok (.ifCond .ne 9, 3) := by decide +kernel
theorem xd_170_50 : decode prog_10_method_6_code 50 = .ok (.iload 4, 2) := by decide +kernel
theorem xd_170_52 : decode prog_10_method_6_code 52 = .ok (.iconst 1, 1) := by decide +kernel
theorem xd_170_53 : decode prog_10_method_6_code 53 = .ok (.if_icmp .ne 7, 3) := by decide +kernel
theorem xd_170_56 : decode prog_10_method_6_code 56 = .ok (.iconst 1, 1) := by decide +kernel
theorem xd_170_57 : decode prog_10_method_6_code 57 = .ok (.goto 4, 3) := by decide +kernel
theorem xd_170_60 : decode prog_10_method_6_code 60 = .ok (.iconst 0, 1) := by decide +kernel
theorem xd_170_61 : decode prog_10_method_6_code 61 = .ok (.istore_n 3, 1) := by decide +kernel
theorem xd_170_62 : decode prog_10_method_6_code 62 = .ok (.iload_n 3, 1) := by decide +kernel
theorem xd_170_63 : decode prog_10_method_6_code 63 = .ok (.ifCond .eq 13, 3) := by decide +kernel
theorem xd_170_66 : decode prog_10_method_6_code 66 = .ok (.aload_n 1, 1) := by decide +kernel
theorem xd_170_67 : decode prog_10_method_6_code 67 = .ok (.bipush 48, 2) := by decide +kernel
theorem xd_170_69 : decode prog_10_method_6_code 69 = .ok (.iload 5, 2) := by decide +kernel
theorem xd_170_71 : decode prog_10_method_6_code 71 = .ok (.iadd, 1) := by decide +kernel
theorem xd_170_72 : decode prog_10_method_6_code 72 = .ok (.i2c, 1) := by decide +kernel
theorem xd_170_73 : decode prog_10_method_6_code 73 = .ok (.invokevirtual 9, 3) := by decide +kernel
theorem xd_170_76 : decode prog_10_method_6_code 76 = .ok (.iload 4, 2) := by decide +kernel
theorem xd_170_78 : decode prog_10_method_6_code 78 = .ok (.bipush 10, 2) := by decide +kernel
theorem xd_170_80 : decode prog_10_method_6_code 80 = .ok (.idiv, 1) := by decide +kernel
theorem xd_170_81 : decode prog_10_method_6_code 81 = .ok (.istore 4, 2) := by decide +kernel
theorem xd_170_83 : decode prog_10_method_6_code 83 = .ok (.goto (-56), 3) := by decide +kernel
theorem xd_170_86 : decode prog_10_method_6_code 86 = .ok (.return_, 1) := by decide +kernel
theorem xd_171_0 : decode method_3_code 0 = .ok (.aload_n 3, 1) := by decide +kernel
theorem xd_171_1 : decode method_3_code 1 = .ok (.iconst 0, 1) := by decide +kernel
theorem xd_171_2 : decode method_3_code 2 = .ok (.aload_n 0, 1) := by decide +kernel
theorem xd_171_3 : decode method_3_code 3 = .ok (.lload_n 1, 1) := by decide +kernel
theorem xd_171_4 : decode method_3_code 4 = .ok (.invokevirtual 7, 3) := by decide +kernel
theorem xd_171_7 : decode method_3_code 7 = .ok (.i2l, 1) := by decide +kernel
theorem xd_171_8 : decode method_3_code 8 = .ok (.lastore, 1) := by decide +kernel
theorem xd_171_9 : decode method_3_code 9 = .ok (.goto 11, 3) := by decide +kernel
theorem xd_171_12 : decode method_3_code 12 = .ok (.astore 4, 2) := by decide +kernel
theorem xd_171_14 : decode method_3_code 14 = .ok (.iconst 1, 1) := by decide +kernel
theorem xd_171_15 : decode method_3_code 15 = .ok (.ireturn, 1) := by decide +kernel
theorem xd_171_16 : decode method_3_code 16 = .ok (.astore 4, 2) := by decide +kernel
theorem xd_171_18 : decode method_3_code 18 = .ok (.iconst 2, 1) := by decide +kernel
theorem xd_171_19 : decode method_3_code 19 = .ok (.ireturn, 1) := by decide +kernel
theorem xd_171_20 : decode method_3_code 20 = .ok (.iconst 0, 1) := by decide +kernel
theorem xd_171_21 : decode method_3_code 21 = .ok (.ireturn, 1) := by decide +kernel
theorem xd_172_0 : decode method_4_code 0 = .ok (.aload_n 2, 1) := by decide +kernel
theorem xd_172_1 : decode method_4_code 1 = .ok (.iconst 0, 1) := by decide +kernel
theorem xd_172_2 : decode method_4_code 2 = .ok (.aload_n 0, 1) := by decide +kernel
theorem xd_172_3 : decode method_4_code 3 = .ok (.iload_n 1, 1) := by decide +kernel
theorem xd_172_4 : decode method_4_code 4 = .ok (.invokevirtual 17, 3) := by decide +kernel
theorem xd_172_7 : decode method_4_code 7 = .ok (.i2l, 1) := by decide +kernel
theorem xd_172_8 : decode method_4_code 8 = .ok (.lastore, 1) := by decide +kernel
theorem xd_172_9 : decode method_4_code 9 = .ok (.goto 6, 3) := by decide +kernel
theorem xd_172_12 : decode method_4_code 12 = .ok (.astore_n 3, 1) := by decide +kernel
theorem xd_172_13 : decode method_4_code 13 = .ok (.iconst 1, 1) := by decide +kernel
theorem xd_172_14 : decode method_4_code 14 = .ok (.ireturn, 1) := by decide +kernel
theorem xd_172_15 : decode method_4_code 15 = .ok (.iconst 0, 1) := by decide +kernel
theorem xd_172_16 : decode method_4_code 16 = .ok (.ireturn, 1) := by decide +kernel
theorem xd_173_0 : decode method_5_code 0 = .ok (.aload_n 2, 1) := by decide +kernel
theorem xd_173_1 : decode method_5_code 1 = .ok (.iconst 0, 1) := by decide +kernel
theorem xd_173_2 : decode method_5_code 2 = .ok (.aload_n 0, 1) := by decide +kernel
theorem xd_173_3 : decode method_5_code 3 = .ok (.iload_n 1, 1) := by decide +kernel
theorem xd_173_4 : decode method_5_code 4 = .ok (.invokevirtual 21, 3) := by decide +kernel
theorem xd_173_7 : decode method_5_code 7 = .ok (.i2l, 1) := by decide +kernel
theorem xd_173_8 : decode method_5_code 8 = .ok (.lastore, 1) := by decide +kernel
theorem xd_173_9 : decode method_5_code 9 = .ok (.goto 6, 3) := by decide +kernel
theorem xd_173_12 : decode method_5_code 12 = .ok (.astore_n 3, 1) := by decide +kernel
theorem xd_173_13 : decode method_5_code 13 = .ok (.iconst 1, 1) := by decide +kernel
theorem xd_173_14 : decode method_5_code 14 = .ok (.ireturn, 1) := by decide +kernel
theorem xd_173_15 : decode method_5_code 15 = .ok (.iconst 0, 1) := by decide +kernel
theorem xd_173_16 : decode method_5_code 16 = .ok (.ireturn, 1) := by decide +kernel
theorem xd_174_0 : decode method_6_code 0 = .ok (.aload_n 2, 1) := by decide +kernel
theorem xd_174_1 : decode method_6_code 1 = .ok (.iconst 0, 1) := by decide +kernel
theorem xd_174_2 : decode method_6_code 2 = .ok (.aload_n 0, 1) := by decide +kernel
theorem xd_174_3 : decode method_6_code 3 = .ok (.iload_n 1, 1) := by decide +kernel
theorem xd_174_4 : decode method_6_code 4 = .ok (.invokevirtual 24, 3) := by decide +kernel
theorem xd_174_7 : decode method_6_code 7 = .ok (.i2l, 1) := by decide +kernel
theorem xd_174_8 : decode method_6_code 8 = .ok (.lastore, 1) := by decide +kernel
theorem xd_174_9 : decode method_6_code 9 = .ok (.goto 6, 3) := by decide +kernel
theorem xd_174_12 : decode method_6_code 12 = .ok (.astore_n 3, 1) := by decide +kernel
theorem xd_174_13 : decode method_6_code 13 = .ok (.iconst 1, 1) := by decide +kernel
theorem xd_174_14 : decode method_6_code 14 = .ok (.ireturn, 1) := by decide +kernel
theorem xd_174_15 : decode method_6_code 15 = .ok (.iconst 0, 1) := by decide +kernel
theorem xd_174_16 : decode method_6_code 16 = .ok (.ireturn, 1) := by decide +kernel
theorem xd_175_0 : decode method_7_code 0 = .ok (.aload_n 3, 1) := by decide +kernel
theorem xd_175_1 : decode method_7_code 1 = .ok (.iconst 0, 1) := by decide +kernel
theorem xd_175_2 : decode method_7_code 2 = .ok (.aload_n 0, 1) := by decide +kernel
theorem xd_175_3 : decode method_7_code 3 = .ok (.iload_n 1, 1) := by decide +kernel
theorem xd_175_4 : decode method_7_code 4 = .ok (.iload_n 2, 1) := by decide +kernel
theorem xd_175_5 : decode method_7_code 5 = .ok (.invokevirtual 27, 3) := by decide +kernel
theorem xd_175_8 : decode method_7_code 8 = .ok (.i2l, 1) := by decide +kernel
theorem xd_175_9 : decode method_7_code 9 = .ok (.lastore, 1) := by decide +kernel
theorem xd_175_10 : decode method_7_code 10 = .ok (.goto 7, 3) := by decide +kernel
theorem xd_175_13 : decode method_7_code 13 = .ok (.astore 4, 2) := by decide +kernel
theorem xd_175_15 : decode method_7_code 15 = .ok (.iconst 1, 1) := by decide +kernel
theorem xd_175_16 : decode method_7_code 16 = .ok (.ireturn, 1) := by decide +kernel
theorem xd_175_17 : decode method_7_code 17 = .ok (.iconst 0, 1) := by decide +kernel
theorem xd_175_18 : decode method_7_code 18 = .ok (.ireturn, 1) := by decide +kernel
theorem xd_176_0 : decode method_8_code 0 = .ok (.aload 4, 2) := by decide +kernel
theorem xd_176_2 : decode method_8_code 2 = .ok (.iconst 0, 1) := by decide +kernel
theorem xd_176_3 : decode method_8_code 3 = .ok (.aload_n 0, 1) := by decide +kernel
theorem xd_176_4 : decode method_8_code 4 = .ok (.iload_n 1, 1) := by decide +kernel
theorem xd_176_5 : decode method_8_code 5 = .ok (.iload_n 2, 1) := by decide +kernel
theorem xd_176_6 : decode method_8_code 6 = .ok (.iload_n 3, 1) := by decide +kernel
theorem xd_176_7 : decode method_8_code 7 = .ok (.invokevirtual 31, 3) := by decide +kernel
theorem xd_176_10 : decode method_8_code 10 = .ok (.i2l, 1) := by decide +kernel
theorem xd_176_11 : decode method_8_code 11 = .ok (.lastore, 1) := by decide +kernel
theorem xd_176_12 : decode method_8_code 12 = .ok (.goto 7, 3) := by decide +kernel
theorem xd_176_15 : decode method_8_code 15 = .ok (.astore 5, 2) := by decide +kernel
theorem xd_176_17 : decode method_8_code 17 = .ok (.iconst 1, 1) := by decide +kernel
theorem xd_176_18 : decode method_8_code 18 = .ok (.ireturn, 1) := by decide +kernel
theorem xd_176_19 : decode method_8_code 19 = .ok (.iconst 0, 1) := by decide +kernel
theorem xd_176_20 : decode method_8_code 20 = .ok (.ireturn, 1) := by decide +kernel
theorem xd_177_0 : decode method_9_code 0 = .ok (.aload 4, 2) := by decide +kernel
theorem xd_177_2 : decode method_9_code 2 = .ok (.iconst 0, 1) := by decide +kernel
theorem xd_177_3 : decode method_9_code 3 = .ok (.aload_n 0, 1) := by decide +kernel
theorem xd_177_4 : decode method_9_code 4 = .ok (.iload_n 1, 1) := by decide +kernel
theorem xd_177_5 : decode method_9_code 5 = .ok (.iload_n 2, 1) := by decide +kernel
theorem xd_177_6 : decode method_9_code 6 = .ok (.iload_n 3, 1) := by decide +kernel
theorem xd_177_7 : decode method_9_code 7 = .ok (.invokevirtual 35, 3) := by decide +kernel
theorem xd_177_10 : decode method_9_code 10 = .ok (.i2l, 1) := by decide +kernel
theorem xd_177_11 : decode method_9_code 11 = .ok (.lastore, 1) := by decide +kernel
theorem xd_177_12 : decode method_9_code 12 = .ok (.goto 7, 3) := by decide +kernel
theorem xd_177_15 : decode method_9_code 15 = .ok (.astore 5, 2) := by decide +kernel
theorem xd_177_17 : decode method_9_code 17 = .ok (.iconst 1, 1) := by decide +kernel
theorem xd_177_18 : decode method_9_code 18 = .ok (.ireturn, 1) := by decide +kernel
theorem xd_177_19 : decode method_9_code 19 = .ok (.iconst 0, 1) := by decide +kernel
theorem xd_177_20 : decode method_9_code 20 = .ok (.ireturn, 1) := by decide +kernel
theorem xd_178_0 : decode method_10_code 0 = .ok (.aload 4, 2) := by decide +kernel
theorem xd_178_2 : decode method_10_code 2 = .ok (.iconst 0, 1) := by decide +kernel
theorem xd_178_3 : decode method_10_code 3 = .ok (.aload_n 0, 1) := by decide +kernel
theorem xd_178_4 : decode method_10_code 4 = .ok (.iload_n 1, 1) := by decide +kernel
theorem xd_178_5 : decode method_10_code 5 = .ok (.iload_n 2, 1) := by decide +kernel
theorem xd_178_6 : decode method_10_code 6 = .ok (.iload_n 3, 1) := by decide +kernel
theorem xd_178_7 : decode method_10_code 7 = .ok (.invokevirtual 38, 3) := by decide +kernel
theorem xd_178_10 : decode method_10_code 10 = .ok (.i2l, 1) := by decide +kernel
theorem xd_178_11 : decode method_10_code 11 = .ok (.lastore, 1) := by decide +kernel
theorem xd_178_12 : decode method_10_code 12 = .ok (.goto 7, 3) := by decide +kernel
theorem xd_178_15 : decode method_10_code 15 = .ok (.astore 5, 2) := by decide +kernel
theorem xd_178_17 : decode method_10_code 17 = .ok (.iconst 1, 1) := by decide +kernel
theorem xd_178_18 : decode method_10_code 18 = .ok (.ireturn, 1) := by decide +kernel
theorem xd_178_19 : decode method_10_code 19 = .ok (.iconst 0, 1) := by decide +kernel
theorem xd_178_20 : decode method_10_code 20 = .ok (.ireturn, 1) := by decide +kernel
theorem xd_179_0 : decode method_11_code 0 = .ok (.aload_n 3, 1) := by decide +kernel
theorem xd_179_1 : decode method_11_code 1 = .ok (.iconst 0, 1) := by decide +kernel
theorem xd_179_2 : decode method_11_code 2 = .ok (.aload_n 0, 1) := by decide +kernel
theorem xd_179_3 : decode method_11_code 3 = .ok (.iload_n 1, 1) := by decide +kernel
theorem xd_179_4 : decode method_11_code 4 = .ok (.iload_n 2, 1) := by decide +kernel
theorem xd_179_5 : decode method_11_code 5 = .ok (.invokevirtual 41, 3) := by decide +kernel
theorem xd_179_8 : decode method_11_code 8 = .ok (.i2l, 1) := by decide +kernel
theorem xd_179_9 : decode method_11_code 9 = .ok (.lastore, 1) := by decide +kernel
theorem xd_179_10 : decode method_11_code 10 = .ok (.goto 7, 3) := by decide +kernel
theorem xd_179_13 : decode method_11_code 13 = .ok (.astore 4, 2) := by decide +kernel
theorem xd_179_15 : decode method_11_code 15 = .ok (.iconst 1, 1) := by decide +kernel
theorem xd_179_16 : decode method_11_code 16 = .ok (.ireturn, 1) := by decide +kernel
theorem xd_179_17 : decode method_11_code 17 = .ok (.iconst 0, 1) := by decide +kernel
theorem xd_179_18 : decode method_11_code 18 = .ok (.ireturn, 1) := by decide +kernel
theorem xd_180_0 : decode method_12_code 0 = .ok (.aload_n 3, 1) := by decide +kernel
theorem xd_180_1 : decode method_12_code 1 = .ok (.iconst 0, 1) := by decide +kernel
theorem xd_180_2 : decode method_12_code 2 = .ok (.aload_n 0, 1) := by decide +kernel
theorem xd_180_3 : decode method_12_code 3 = .ok (.iload_n 1, 1) := by decide +kernel
theorem xd_180_4 : decode method_12_code 4 = .ok (.iload_n 2, 1) := by decide +kernel
theorem xd_180_5 : decode method_12_code 5 = .ok (.invokevirtual 44, 3) := by decide +kernel
theorem xd_180_8 : decode method_12_code 8 = .ok (.i2l, 1) := by decide +kernel
theorem xd_180_9 : decode method_12_code 9 = .ok (.lastore, 1) := by decide +kernel
theorem xd_180_10 : decode method_12_code 10 = .ok (.goto 7, 3) := by decide +kernel
theorem xd_180_13 : decode method_12_code 13 = .ok (.astore 4, 2) := by decide +kernel
theorem xd_180_15 : decode method_12_code 15 = .ok (.iconst 1, 1) := by decide +kernel
theorem xd_180_16 : decode method_12_code 16 = .ok (.ireturn, 1) := by decide +kernel
theorem xd_180_17 : decode method_12_code 17 = .ok (.iconst 0, 1) := by decide +kernel
theorem xd_180_18 : decode method_12_code 18 = .ok (.ireturn, 1) := by decide +kernel
theorem xd_181_0 : decode method_13_code 0 = .ok (.aload_n 2, 1) := by decide +kernel
theorem xd_181_1 : decode method_13_code 1 = .ok (.iconst 0, 1) := by decide +kernel
theorem xd_181_2 : decode method_13_code 2 = .ok (.aload_n 0, 1) := by decide +kernel
theorem xd_181_3 : decode method_13_code 3 = .ok (.iload_n 1, 1) := by decide +kernel
theorem xd_181_4 : decode method_13_code 4 = .ok (.invokevirtual 47, 3) := by decide +kernel
theorem xd_181_7 : decode method_13_code 7 = .ok (.i2l, 1) := by decide +kernel
theorem xd_181_8 : decode method_13_code 8 = .ok (.lastore, 1) := by decide +kernel
theorem xd_181_9 : decode method_13_code 9 = .ok (.goto 6, 3) := by decide +kernel
theorem xd_181_12 : decode method_13_code 12 = .ok (.astore_n 3, 1) := by decide +kernel
theorem xd_181_13 : decode method_13_code 13 = .ok (.iconst 1, 1) := by decide +kernel
theorem xd_181_14 : decode method_13_code 14 = .ok (.ireturn, 1) := by decide +kernel
theorem xd_181_15 : decode method_13_code 15 = .ok (.iconst 0, 1) := by decide +kernel
theorem xd_181_16 : decode method_13_code 16 = .ok (.ireturn, 1) := by decide +kernel
theorem xd_182_0 : decode method_14_code 0 = .ok (.aload_n 3, 1) := by decide +kernel
theorem xd_182_1 : decode method_14_code 1 = .ok (.iconst 0, 1) := by decide +kernel
theorem xd_182_2 : decode method_14_code 2 = .ok (.aload_n 0, 1) := by decide +kernel
theorem xd_182_3 : decode method_14_code 3 = .ok (.iload_n 1, 1) := by decide +kernel
theorem xd_182_4 : decode method_14_code 4 = .ok (.iload_n 2, 1) := by decide +kernel
theorem xd_182_5 : decode method_14_code 5 = .ok (.invokevirtual 50, 3) := by decide +kernel
theorem xd_182_8 : decode method_14_code 8 = .ok (.lastore, 1) := by decide +kernel
theorem xd_182_9 : decode method_14_code 9 = .ok (.goto 7, 3) := by decide +kernel
theorem xd_182_12 : decode method_14_code 12 = .ok (.astore 4, 2) := by decide +kernel
theorem xd_182_14 : decode method_14_code 14 = .ok (.iconst 1, 1) := by decide +kernel
theorem xd_182_15 : decode method_14_code 15 = .ok (.ireturn, 1) := by decide +kernel
theorem xd_182_16 : decode method_14_code 16 = .ok (.iconst 0, 1) := by decide +kernel
theorem xd_182_17 : decode method_14_code 17 = .ok (.ireturn, 1) := by decide +kernel
theorem xd_183_0 : decode method_15_code 0 = .ok (.aload_n 3, 1) := by decide +kernel
theorem xd_183_1 : decode method_15_code 1 = .ok (.iconst 0, 1) := by decide +kernel
theorem xd_183_2 : decode method_15_code 2 = .ok (.aload_n 0, 1) := by decide +kernel
theorem xd_183_3 : decode method_15_code 3 = .ok (.iload_n 1, 1) := by decide +kernel
theorem xd_183_4 : decode method_15_code 4 = .ok (.iload_n 2, 1) := by decide +kernel
theorem xd_183_5 : decode method_15_code 5 = .ok (.invokevirtual 54, 3) := by decide +kernel
theorem xd_183_8 : decode method_15_code 8 = .ok (.ifCond .eq 7, 3) := by decide +kernel
theorem xd_183_11 : decode method_15_code 11 = .ok (.lconst 1, 1) := by decide +kernel
theorem xd_183_12 : decode method_15_code 12 = .ok (.goto 4, 3) := by decide +kernel
theorem xd_183_15 : decode method_15_code 15 = .ok (.lconst 0, 1) := by decide +kernel
theorem xd_183_16 : decode method_15_code 16 = .ok (.lastore, 1) := by decide +kernel
theorem xd_183_17 : decode method_15_code 17 = .ok (.goto 7, 3) := by decide +kernel
theorem xd_183_20 : decode method_15_code 20 = .ok (.astore 4, 2) := by decide +kernel
theorem xd_183_22 : decode method_15_code 22 = .ok (.iconst 1, 1) := by decide +kernel
theorem xd_183_23 : decode method_15_code 23 = .ok (.ireturn, 1) := by decide +kernel
theorem xd_183_24 : decode method_15_code 24 = .ok (.iconst 0, 1) := by decide +kernel
theorem xd_183_25 : decode method_15_code 25 = .ok (.ireturn, 1) := by decide +kernel
theorem xd_184_0 : decode method_16_code 0 = .ok (.aload_n 3, 1) := by decide +kernel
theorem xd_184_1 : decode method_16_code 1 = .ok (.iconst 0, 1) := by decide +kernel
theorem xd_184_2 : decode method_16_code 2 = .ok (.aload_n 0, 1) := by decide +kernel
theorem xd_184_3 : decode method_16_code 3 = .ok (.iload_n 1, 1) := by decide +kernel
theorem xd_184_4 : decode method_16_code 4 = .ok (.iload_n 2, 1) := by decide +kernel
theorem xd_184_5 : decode method_16_code 5 = .ok (.invokevirtual 58, 3) := by decide +kernel
theorem xd_184_8 : decode method_16_code 8 = .ok (.i2l, 1) := by decide +kernel
theorem xd_184_9 : decode method_16_code 9 = .ok (.lastore, 1) := by decide +kernel
theorem xd_184_10 : decode method_16_code 10 = .ok (.goto 7, 3) := by decide +kernel
theorem xd_184_13 : decode method_16_code 13 = .ok (.astore 4, 2) := by decide +kernel
theorem xd_184_15 : decode method_16_code 15 = .ok (.iconst 1, 1) := by decide +kernel
theorem xd_184_16 : decode method_16_code 16 = .ok (.ireturn, 1) := by decide +kernel
theorem xd_184_17 : decode method_16_code 17 = .ok (.iconst 0, 1) := by decide +kernel
theorem xd_184_18 : decode method_16_code 18 = .ok (.ireturn, 1) := by decide +kernel
theorem xd_185_0 : decode method_17_code 0 = .ok (.aload_n 2, 1) := by decide +kernel
theorem xd_185_1 : decode method_17_code 1 = .ok (.iconst 0, 1) := by decide +kernel
theorem xd_185_2 : decode method_17_code 2 = .ok (.aload_n 0, 1) := by decide +kernel
theorem xd_185_3 : decode method_17_code 3 = .ok (.iload_n 1, 1) := by decide +kernel
theorem xd_185_4 : decode method_17_code 4 = .ok (.invokevirtual 61, 3) := by decide +kernel
theorem xd_185_7 : decode method_17_code 7 = .ok (.i2l, 1) := by decide +kernel
theorem xd_185_8 : decode method_17_code 8 = .ok (.lastore, 1) := by decide +kernel
theorem xd_185_9 : decode method_17_code 9 = .ok (.goto 6, 3) := by decide +kernel
theorem xd_185_12 : decode method_17_code 12 = .ok (.astore_n 3, 1) := by decide +kernel
theorem xd_185_13 : decode method_17_code 13 = .ok (.iconst 1, 1) := by decide +kernel
theorem xd_185_14 : decode method_17_code 14 = .ok (.ireturn, 1) := by decide +kernel
theorem xd_185_15 : decode method_17_code 15 = .ok (.iconst 0, 1) := by decide +kernel
theorem xd_185_16 : decode method_17_code 16 = .ok (.ireturn, 1) := by decide +kernel
theorem xd_186_0 : decode code 0 = .ok (.new 8, 3) := by decide +kernel
theorem xd_186_3 : decode code 3 = .ok (.dup, 1) := by decide +kernel
theorem xd_186_4 : decode code 4 = .ok (.invokespecial 64, 3) := by decide +kernel
theorem xd_186_7 : decode code 7 = .ok (.astore_n 1, 1) := by decide +kernel
theorem xd_186_8 : decode code 8 = .ok (.new 65, 3) := by decide +kernel
theorem xd_186_11 : decode code 11 = .ok (.dup, 1) := by decide +kernel
theorem xd_186_12 : decode code 12 = .ok (.invokespecial 67, 3) := by decide +kernel
theorem xd_186_15 : decode code 15 = .ok (.astore_n 2, 1) := by decide +kernel
theorem xd_186_16 : decode code 16 = .ok (.iconst 1, 1) := by decide +kernel
theorem xd_186_17 : decode code 17 = .ok (.newarray .long, 2) := by decide +kernel
theorem xd_186_19 : decode code 19 = .ok (.astore_n 3, 1) := by decide +kernel
theorem xd_186_20 : decode code 20 = .ok (.iconst 0, 1) := by decide +kernel
theorem xd_186_21 : decode code 21 = .ok (.istore 4, 2) := by decide +kernel
theorem xd_186_23 : decode code 23 = .ok (.iload 4, 2) := by decide +kernel
theorem xd_186_25 : decode code 25 = .ok (.aload_n 0, 1) := by decide +kernel
theorem xd_186_26 : decode code 26 = .ok (.arraylength, 1) := by decide +kernel
theorem xd_186_27 : decode code 27 = .ok (.iconst 4, 1) := by decide +kernel
theorem xd_186_28 : decode code 28 = .ok (.isub, 1) := by decide +kernel
theorem xd_186_29 : decode code 29 = .ok (.if_icmp .gt 1196, 3) := by decide +kernel
theorem xd_186_32 : decode code 32 = .ok (.aload_n 0, 1) := by decide +kernel
theorem xd_186_33 : decode code 33 = .ok (.iload 4, 2) := by decide +kernel
theorem xd_186_35 : decode code 35 = .ok (.iaload, 1) := by decide +kernel
theorem xd_186_36 : decode code 36 = .ok (.bipush 31, 2) := by decide +kernel
theorem xd_186_38 : decode code 38 = .ok (.iand, 1) := by decide +kernel
theorem xd_186_39 : decode code 39 = .ok (.tableswitch 1180 0 19 #[93, 181, 237, 293, 306, 319, 332, 345, 401, 469, 549, 629, 709, 777, 845, 901, 968, 1043, 1056, 1124], 93) := by decide +kernel
theorem xd_186_132 : decode code 132 = .ok (.aload_n 1, 1) := by decide +kernel
theorem xd_186_133 : decode code 133 = .ok (.aload_n 0, 1) := by decide +kernel
theorem xd_186_134 : decode code 134 = .ok (.iload 4, 2) := by decide +kernel
theorem xd_186_136 : decode code 136 = .ok (.iconst 1, 1) := by decide +kernel
theorem xd_186_137 : decode code 137 = .ok (.iadd, 1) := by decide +kernel
theorem xd_186_138 : decode code 138 = .ok (.iaload, 1) := by decide +kernel
theorem xd_186_139 : decode code 139 = .ok (.i2l, 1) := by decide +kernel
theorem xd_186_140 : decode code 140 = .ok (.bipush 32, 2) := by decide +kernel
theorem xd_186_142 : decode code 142 = .ok (.lshl, 1) := by decide +kernel
theorem xd_186_143 : decode code 143 = .ok (.aload_n 0, 1) := by decide +kernel
theorem xd_186_144 : decode code 144 = .ok (.iload 4, 2) := by decide +kernel
theorem xd_186_146 : decode code 146 = .ok (.iconst 2, 1) := by decide +kernel
theorem xd_186_147 : decode code 147 = .ok (.iadd, 1) := by decide +kernel
theorem xd_186_148 : decode code 148 = .ok (.iaload, 1) := by decide +kernel
theorem xd_186_149 : decode code 149 = .ok (.i2l, 1) := by decide +kernel
theorem xd_186_150 : decode code 150 = .ok (.ldc2_w 68, 3) := by decide +kernel
theorem xd_186_153 : decode code 153 = .ok (.land, 1) := by decide +kernel
theorem xd_186_154 : decode code 154 = .ok (.lor, 1) := by decide +kernel
theorem xd_186_155 : decode code 155 = .ok (.aload_n 3, 1) := by decide +kernel
theorem xd_186_156 : decode code 156 = .ok (.invokestatic 70, 3) := by decide +kernel
theorem xd_186_159 : decode code 159 = .ok (.istore 5, 2) := by decide +kernel
theorem xd_186_161 : decode code 161 = .ok (.aload_n 2, 1) := by decide +kernel
theorem xd_186_162 : decode code 162 = .ok (.aload_n 0, 1) := by decide +kernel
theorem xd_186_163 : decode code 163 = .ok (.iload 4, 2) := by decide +kernel
theorem xd_186_165 : decode code 165 = .ok (.iconst 1, 1) := by decide +kernel
theorem xd_186_166 : decode code 166 = .ok (.iadd, 1) := by decide +kernel
theorem xd_186_167 : decode code 167 = .ok (.iaload, 1) := by decide +kernel
theorem xd_186_168 : decode code 168 = .ok (.i2l, 1) := by decide +kernel
theorem xd_186_169 : decode code 169 = .ok (.bipush 32, 2) := by decide +kernel
theorem xd_186_171 : decode code 171 = .ok (.lshl, 1) := by decide +kernel
theorem xd_186_172 : decode code 172 = .ok (.aload_n 0, 1) := by decide +kernel
theorem xd_186_173 : decode code 173 = .ok (.iload 4, 2) := by decide +kernel
theorem xd_186_175 : decode code 175 = .ok (.iconst 2, 1) := by decide +kernel
theorem xd_186_176 : decode code 176 = .ok (.iadd, 1) := by decide +kernel
theorem xd_186_177 : decode code 177 = .ok (.iaload, 1) := by decide +kernel
theorem xd_186_178 : decode code 178 = .ok (.i2l, 1) := by decide +kernel
theorem xd_186_179 : decode code 179 = .ok (.ldc2_w 68, 3) := by decide +kernel
theorem xd_186_182 : decode code 182 = .ok (.land, 1) := by decide +kernel
theorem xd_186_183 : decode code 183 = .ok (.lor, 1) := by decide +kernel
theorem xd_186_184 : decode code 184 = .ok (.invokevirtual 75, 3) := by decide +kernel
theorem xd_186_187 : decode code 187 = .ok (.istore 6, 2) := by decide +kernel
theorem xd_186_189 : decode code 189 = .ok (.aload_n 2, 1) := by decide +kernel
theorem xd_186_190 : decode code 190 = .ok (.invokevirtual 76, 3) := by decide +kernel
theorem xd_186_193 : decode code 193 = .ok (.iload 5, 2) := by decide +kernel
theorem xd_186_195 : decode code 195 = .ok (.if_icmp .eq 5, 3) := by decide +kernel
theorem xd_186_198 : decode code 198 = .ok (.iconst 0, 1) := by decide +kernel
theorem xd_186_199 : decode code 199 = .ok (.ireturn, 1) := by decide +kernel
theorem xd_186_200 : decode code 200 = .ok (.iload 5, 2) := by decide +kernel
theorem xd_186_202 : decode code 202 = .ok (.ifCond .ne 15, 3) := by decide +kernel
theorem xd_186_205 : decode code 205 = .ok (.aload_n 3, 1) := by decide +kernel
theorem xd_186_206 : decode code 206 = .ok (.iconst 0, 1) := by decide +kernel
theorem xd_186_207 : decode code 207 = .ok (.laload, 1) := by decide +kernel
theorem xd_186_208 : decode code 208 = .ok (.iload 6, 2) := by decide +kernel
theorem xd_186_210 : decode code 210 = .ok (.i2l, 1) := by decide +kernel
theorem xd_186_211 : decode code 211 = .ok (.lcmp, 1) := by decide +kernel
theorem xd_186_212 : decode code 212 = .ok (.ifCond .eq 5, 3) := by decide +kernel
theorem xd_186_215 : decode code 215 = .ok (.iconst 0, 1) := by decide +kernel
theorem xd_186_216 : decode code 216 = .ok (.ireturn, 1) := by decide +kernel
theorem xd_186_217 : decode code 217 = .ok (.goto 1002, 3) := by decide +kernel
theorem xd_186_220 : decode code 220 = .ok (.aload_n 1, 1) := by decide +kernel
theorem xd_186_221 : decode code 221 = .ok (.aload_n 0, 1) := by decide +kernel
theorem xd_186_222 : decode code 222 = .ok (.iload 4, 2) := by decide +kernel
theorem xd_186_224 : decode code 224 = .ok (.iconst 1, 1) := by decide +kernel
theorem xd_186_225 : decode code 225 = .ok (.iadd, 1) := by decide +kernel
theorem xd_186_226 : decode code 226 = .ok (.iaload, 1) := by decide +kernel
theorem xd_186_227 : decode code 227 = .ok (.aload_n 3, 1) := by decide +kernel
theorem xd_186_228 : decode code 228 = .ok (.invokestatic 80, 3) := by decide +kernel
theorem xd_186_231 : decode code 231 = .ok (.istore 5, 2) := by decide +kernel
theorem xd_186_233 : decode code 233 = .ok (.aload_n 2, 1) := by decide +kernel
theorem xd_186_234 : decode code 234 = .ok (.aload_n 0, 1) := by decide +kernel
theorem xd_186_235 : decode code 235 = .ok (.iload 4, 2) := by decide +kernel
theorem xd_186_237 : decode code 237 = .ok (.iconst 1, 1) := by decide +kernel
theorem xd_186_238 : decode code 238 = .ok (.iadd, 1) := by decide +kernel
theorem xd_186_239 : decode code 239 = .ok (.iaload, 1) := by decide +kernel
theorem xd_186_240 : decode code 240 = .ok (.invokevirtual 83, 3) := by decide +kernel
theorem xd_186_243 : decode code 243 = .ok (.istore 6, 2) := by decide +kernel
theorem xd_186_245 : decode code 245 = .ok (.aload_n 2, 1) := by decide +kernel
theorem xd_186_246 : decode code 246 = .ok (.invokevirtual 76, 3) := by decide +kernel
theorem xd_186_249 : decode code 249 = .ok (.iload 5, 2) := by decide +kernel
theorem xd_186_251 : decode code 251 = .ok (.if_icmp .eq 5, 3) := by decide +kernel
theorem xd_186_254 : decode code 254 = .ok (.iconst 0, 1) := by decide +kernel
theorem xd_186_255 : decode code 255 = .ok (.ireturn, 1) := by decide +kernel
theorem xd_186_256 : decode code 256 = .ok (.iload 5, 2) := by decide +kernel
theorem xd_186_258 : decode code 258 = .ok (.ifCond .ne 15, 3) := by decide +kernel
theorem xd_186_261 : decode code 261 = .ok (.aload_n 3, 1) := by decide +kernel
theorem xd_186_262 : decode code 262 = .ok (.iconst 0, 1) := by decide +kernel
theorem xd_186_263 : decode code 263 = .ok (.laload, 1) := by decide +kernel
theorem xd_186_264 : decode code 264 = .ok (.iload 6, 2) := by decide +kernel
theorem xd_186_266 : decode code 266 = .ok (.i2l, 1) := by decide +kernel
theorem xd_186_267 : decode code 267 = .ok (.lcmp, 1) := by decide +kernel
theorem xd_186_268 : decode code 268 = .ok (.ifCond .eq 5, 3) := by decide +kernel
theorem xd_186_271 : decode code 271 = .ok (.iconst 0, 1) := by decide +kernel
theorem xd_186_272 : decode code 272 = .ok (.ireturn, 1) := by decide +kernel
theorem xd_186_273 : decode code 273 = .ok (.goto 946, 3) := by decide +kernel
theorem xd_186_276 : decode code 276 = .ok (.aload_n 1, 1) := by decide +kernel
theorem xd_186_277 : decode code 277 = .ok (.aload_n 0, 1) := by decide +kernel
theorem xd_186_278 : decode code 278 = .ok (.iload 4, 2) := by decide +kernel
theorem xd_186_280 : decode code 280 = .ok (.iconst 1, 1) := by decide +kernel
theorem xd_186_281 : decode code 281 = .ok (.iadd, 1) := by decide +kernel
theorem xd_186_282 : decode code 282 = .ok (.iaload, 1) := by decide +kernel
theorem xd_186_283 : decode code 283 = .ok (.aload_n 3, 1) := by decide +kernel
theorem xd_186_284 : decode code 284 = .ok (.invokestatic 84, 3) := by decide +kernel
theorem xd_186_287 : decode code 287 = .ok (.istore 5, 2) := by decide +kernel
theorem xd_186_289 : decode code 289 = .ok (.aload_n 2, 1) := by decide +kernel
theorem xd_186_290 : decode code 290 = .ok (.aload_n 0, 1) := by decide +kernel
theorem xd_186_291 : decode code 291 = .ok (.iload 4, 2) := by decide +kernel
theorem xd_186_293 : decode code 293 = .ok (.iconst 1, 1) := by decide +kernel
theorem xd_186_294 : decode code 294 = .ok (.iadd, 1) := by decide +kernel
theorem xd_186_295 : decode code 295 = .ok (.iaload, 1) := by decide +kernel
theorem xd_186_296 : decode code 296 = .ok (.invokevirtual 86, 3) := by decide +kernel
theorem xd_186_299 : decode code 299 = .ok (.istore 6, 2) := by decide +kernel
theorem xd_186_301 : decode code 301 = .ok (.aload_n 2, 1) := by decide +kernel
theorem xd_186_302 : decode code 302 = .ok (.invokevirtual 76, 3) := by decide +kernel
theorem xd_186_305 : decode code 305 = .ok (.iload 5, 2) := by decide +kernel
theorem xd_186_307 : decode code 307 = .ok (.if_icmp .eq 5, 3) := by decide +kernel
theorem xd_186_310 : decode code 310 = .ok (.iconst 0, 1) := by decide +kernel
theorem xd_186_311 : decode code 311 = .ok (.ireturn, 1) := by decide +kernel
theorem xd_186_312 : decode code 312 = .ok (.iload 5, 2) := by decide +kernel
theorem xd_186_314 : decode code 314 = .ok (.ifCond .ne 15, 3) := by decide +kernel
theorem xd_186_317 : decode code 317 = .ok (.aload_n 3, 1) := by decide +kernel
theorem xd_186_318 : decode code 318 = .ok (.iconst 0, 1) := by decide +kernel
theorem xd_186_319 : decode code 319 = .ok (.laload, 1) := by decide +kernel
theorem xd_186_320 : decode code 320 = .ok (.iload 6, 2) := by decide +kernel
theorem xd_186_322 : decode code 322 = .ok (.i2l, 1) := by decide +kernel
theorem xd_186_323 : decode code 323 = .ok (.lcmp, 1) := by decide +kernel
theorem xd_186_324 : decode code 324 = .ok (.ifCond .eq 5, 3) := by decide +kernel
theorem xd_186_327 : decode code 327 = .ok (.iconst 0, 1) := by decide +kernel
theorem xd_186_328 : decode code 328 = .ok (.ireturn, 1) := by decide +kernel
theorem xd_186_329 : decode code 329 = .ok (.goto 890, 3) := by decide +kernel
theorem xd_186_332 : decode code 332 = .ok (.aload_n 1, 1) := by decide +kernel
theorem xd_186_333 : decode code 333 = .ok (.invokevirtual 87, 3) := by decide +kernel
theorem xd_186_336 : decode code 336 = .ok (.aload_n 2, 1) := by decide +kernel
theorem xd_186_337 : decode code 337 = .ok (.invokevirtual 90, 3) := by decide +kernel
theorem xd_186_340 : decode code 340 = .ok (.if_icmp .eq 879, 3) := by decide +kernel
theorem xd_186_343 : decode code 343 = .ok (.iconst 0, 1) := by decide +kernel
theorem xd_186_344 : decode code 344 = .ok (.ireturn, 1) := by decide +kernel
theorem xd_186_345 : decode code 345 = .ok (.aload_n 1, 1) := by decide +kernel
theorem xd_186_346 : decode code 346 = .ok (.invokevirtual 91, 3) := by decide +kernel
theorem xd_186_349 : decode code 349 = .ok (.aload_n 2, 1) := by decide +kernel
theorem xd_186_350 : decode code 350 = .ok (.invokevirtual 94, 3) := by decide +kernel
theorem xd_186_353 : decode code 353 = .ok (.if_icmp .eq 866, 3) := by decide +kernel
theorem xd_186_356 : decode code 356 = .ok (.iconst 0, 1) := by decide +kernel
theorem xd_186_357 : decode code 357 = .ok (.ireturn, 1) := by decide +kernel
theorem xd_186_358 : decode code 358 = .ok (.aload_n 1, 1) := by decide +kernel
theorem xd_186_359 : decode code 359 = .ok (.invokevirtual 95, 3) := by decide +kernel
theorem xd_186_362 : decode code 362 = .ok (.aload_n 2, 1) := by decide +kernel
theorem xd_186_363 : decode code 363 = .ok (.invokevirtual 98, 3) := by decide +kernel
theorem xd_186_366 : decode code 366 = .ok (.if_icmp .eq 853, 3) := by decide +kernel
theorem xd_186_369 : decode code 369 = .ok (.iconst 0, 1) := by decide +kernel
theorem xd_186_370 : decode code 370 = .ok (.ireturn, 1) := by decide +kernel
theorem xd_186_371 : decode code 371 = .ok (.aload_n 1, 1) := by decide +kernel
theorem xd_186_372 : decode code 372 = .ok (.invokevirtual 99, 3) := by decide +kernel
theorem xd_186_375 : decode code 375 = .ok (.aload_n 2, 1) := by decide +kernel
theorem xd_186_376 : decode code 376 = .ok (.invokevirtual 102, 3) := by decide +kernel
theorem xd_186_379 : decode code 379 = .ok (.if_icmp .eq 840, 3) := by decide +kernel
theorem xd_186_382 : decode code 382 = .ok (.iconst 0, 1) := by decide +kernel
theorem xd_186_383 : decode code 383 = .ok (.ireturn, 1) := by decide +kernel
theorem xd_186_384 : decode code 384 = .ok (.aload_n 1, 1) := by decide +kernel
theorem xd_186_385 : decode code 385 = .ok (.aload_n 0, 1) := by decide +kernel
theorem xd_186_386 : decode code 386 = .ok (.iload 4, 2) := by decide +kernel
theorem xd_186_388 : decode code 388 = .ok (.iconst 1, 1) := by decide +kernel
theorem xd_186_389 : decode code 389 = .ok (.iadd, 1) := by decide +kernel
theorem xd_186_390 : decode code 390 = .ok (.iaload, 1) := by decide +kernel
theorem xd_186_391 : decode code 391 = .ok (.aload_n 3, 1) := by decide +kernel
theorem xd_186_392 : decode code 392 = .ok (.invokestatic 103, 3) := by decide +kernel
theorem xd_186_395 : decode code 395 = .ok (.istore 5, 2) := by decide +kernel
theorem xd_186_397 : decode code 397 = .ok (.aload_n 2, 1) := by decide +kernel
theorem xd_186_398 : decode code 398 = .ok (.aload_n 0, 1) := by decide +kernel
theorem xd_186_399 : decode code 399 = .ok (.iload 4, 2) := by decide +kernel
theorem xd_186_401 : decode code 401 = .ok (.iconst 1, 1) := by decide +kernel
theorem xd_186_402 : decode code 402 = .ok (.iadd, 1) := by decide +kernel
theorem xd_186_403 : decode code 403 = .ok (.iaload, 1) := by decide +kernel
theorem xd_186_404 : decode code 404 = .ok (.invokevirtual 105, 3) := by decide +kernel
theorem xd_186_407 : decode code 407 = .ok (.istore 6, 2) := by decide +kernel
theorem xd_186_409 : decode code 409 = .ok (.aload_n 2, 1) := by decide +kernel
theorem xd_186_410 : decode code 410 = .ok (.invokevirtual 76, 3) := by decide +kernel
theorem xd_186_413 : decode code 413 = .ok (.iload 5, 2) := by decide +kernel
theorem xd_186_415 : decode code 415 = .ok (.if_icmp .eq 5, 3) := by decide +kernel
theorem xd_186_418 : decode code 418 = .ok (.iconst 0, 1) := by decide +kernel
theorem xd_186_419 : decode code 419 = .ok (.ireturn, 1) := by decide +kernel
theorem xd_186_420 : decode code 420 = .ok (.iload 5, 2) := by decide +kernel
theorem xd_186_422 : decode code 422 = .ok (.ifCond .ne 15, 3) := by decide +kernel
theorem xd_186_425 : decode code 425 = .ok (.aload_n 3, 1) := by decide +kernel
theorem xd_186_426 : decode code 426 = .ok (.iconst 0, 1) := by decide +kernel
theorem xd_186_427 : decode code 427 = .ok (.laload, 1) := by decide +kernel
theorem xd_186_428 : decode code 428 = .ok (.iload 6, 2) := by decide +kernel
theorem xd_186_430 : decode code 430 = .ok (.i2l, 1) := by decide +kernel
theorem xd_186_431 : decode code 431 = .ok (.lcmp, 1) := by decide +kernel
theorem xd_186_432 : decode code 432 = .ok (.ifCond .eq 5, 3) := by decide +kernel
theorem xd_186_435 : decode code 435 = .ok (.iconst 0, 1) := by decide +kernel
theorem xd_186_436 : decode code 436 = .ok (.ireturn, 1) := by decide +kernel
theorem xd_186_437 : decode code 437 = .ok (.goto 782, 3) := by decide +kernel
theorem xd_186_440 : decode code 440 = .ok (.aload_n 1, 1) := by decide +kernel
theorem xd_186_441 : decode code 441 = .ok (.aload_n 0, 1) := by decide +kernel
theorem xd_186_442 : decode code 442 = .ok (.iload 4, 2) := by decide +kernel
theorem xd_186_444 : decode code 444 = .ok (.iconst 1, 1) := by decide +kernel
theorem xd_186_445 : decode code 445 = .ok (.iadd, 1) := by decide +kernel
theorem xd_186_446 : decode code 446 = .ok (.iaload, 1) := by decide +kernel
theorem xd_186_447 : decode code 447 = .ok (.aload_n 0, 1) := by decide +kernel
theorem xd_186_448 : decode code 448 = .ok (.iload 4, 2) := by decide +kernel
theorem xd_186_450 : decode code 450 = .ok (.iconst 2, 1) := by decide +kernel
theorem xd_186_451 : decode code 451 = .ok (.iadd, 1) := by decide +kernel
theorem xd_186_452 : decode code 452 = .ok (.iaload, 1) := by decide +kernel
theorem xd_186_453 : decode code 453 = .ok (.aload_n 3, 1) := by decide +kernel
theorem xd_186_454 : decode code 454 = .ok (.invokestatic 106, 3) := by decide +kernel
theorem xd_186_457 : decode code 457 = .ok (.istore 5, 2) := by decide +kernel
theorem xd_186_459 : decode code 459 = .ok (.aload_n 2, 1) := by decide +kernel
theorem xd_186_460 : decode code 460 = .ok (.aload_n 0, 1) := by decide +kernel
theorem xd_186_461 : decode code 461 = .ok (.iload 4, 2) := by decide +kernel
theorem xd_186_463 : decode code 463 = .ok (.iconst 1, 1) := by decide +kernel
theorem xd_186_464 : decode code 464 = .ok (.iadd, 1) := by decide +kernel
theorem xd_186_465 : decode code 465 = .ok (.iaload, 1) := by decide +kernel
theorem xd_186_466 : decode code 466 = .ok (.aload_n 0, 1) := by decide +kernel
theorem xd_186_467 : decode code 467 = .ok (.iload 4, 2) := by decide +kernel
theorem xd_186_469 : decode code 469 = .ok (.iconst 2, 1) := by decide +kernel
theorem xd_186_470 : decode code 470 = .ok (.iadd, 1) := by decide +kernel
theorem xd_186_471 : decode code 471 = .ok (.iaload, 1) := by decide +kernel
theorem xd_186_472 : decode code 472 = .ok (.invokevirtual 109, 3) := by decide +kernel
theorem xd_186_475 : decode code 475 = .ok (.istore 6, 2) := by decide +kernel
theorem xd_186_477 : decode code 477 = .ok (.aload_n 2, 1) := by decide +kernel
theorem xd_186_478 : decode code 478 = .ok (.invokevirtual 76, 3) := by decide +kernel
theorem xd_186_481 : decode code 481 = .ok (.iload 5, 2) := by decide +kernel
theorem xd_186_483 : decode code 483 = .ok (.if_icmp .eq 5, 3) := by decide +kernel
theorem xd_186_486 : decode code 486 = .ok (.iconst 0, 1) := by decide +kernel
theorem xd_186_487 : decode code 487 = .ok (.ireturn, 1) := by decide +kernel
theorem xd_186_488 : decode code 488 = .ok (.iload 5, 2) := by decide +kernel
theorem xd_186_490 : decode code 490 = .ok (.ifCond .ne 15, 3) := by decide +kernel
theorem xd_186_493 : decode code 493 = .ok (.aload_n 3, 1) := by decide +kernel
theorem xd_186_494 : decode code 494 = .ok (.iconst 0, 1) := by decide +kernel
theorem xd_186_495 : decode code 495 = .ok (.laload, 1) := by decide +kernel
theorem xd_186_496 : decode code 496 = .ok (.iload 6, 2) := by decide +kernel
theorem xd_186_498 : decode code 498 = .ok (.i2l, 1) := by decide +kernel
theorem xd_186_499 : decode code 499 = .ok (.lcmp, 1) := by decide +kernel
theorem xd_186_500 : decode code 500 = .ok (.ifCond .eq 5, 3) := by decide +kernel
theorem xd_186_503 : decode code 503 = .ok (.iconst 0, 1) := by decide +kernel
theorem xd_186_504 : decode code 504 = .ok (.ireturn, 1) := by decide +kernel
theorem xd_186_505 : decode code 505 = .ok (.goto 714, 3) := by decide +kernel
theorem xd_186_508 : decode code 508 = .ok (.aload_n 1, 1) := by decide +kernel
theorem xd_186_509 : decode code 509 = .ok (.aload_n 0, 1) := by decide +kernel
theorem xd_186_510 : decode code 510 = .ok (.iload 4, 2) := by decide +kernel
theorem xd_186_512 : decode code 512 = .ok (.iconst 1, 1) := by decide +kernel
theorem xd_186_513 : decode code 513 = .ok (.iadd, 1) := by decide +kernel
theorem xd_186_514 : decode code 514 = .ok (.iaload, 1) := by decide +kernel
theorem xd_186_515 : decode code 515 = .ok (.aload_n 0, 1) := by decide +kernel
theorem xd_186_516 : decode code 516 = .ok (.iload 4, 2) := by decide +kernel
theorem xd_186_518 : decode code 518 = .ok (.iconst 2, 1) := by decide +kernel
theorem xd_186_519 : decode code 519 = .ok (.iadd, 1) := by decide +kernel
theorem xd_186_520 : decode code 520 = .ok (.iaload, 1) := by decide +kernel
theorem xd_186_521 : decode code 521 = .ok (.aload_n 0, 1) := by decide +kernel
theorem xd_186_522 : decode code 522 = .ok (.iload 4, 2) := by decide +kernel
theorem xd_186_524 : decode code 524 = .ok (.iconst 3, 1) := by decide +kernel
theorem xd_186_525 : decode code 525 = .ok (.iadd, 1) := by decide +kernel
theorem xd_186_526 : decode code 526 = .ok (.iaload, 1) := by decide +kernel
theorem xd_186_527 : decode code 527 = .ok (.aload_n 3, 1) := by decide +kernel
theorem xd_186_528 : decode code 528 = .ok (.invokestatic 110, 3) := by decide +kernel
theorem xd_186_531 : decode code 531 = .ok (.istore 5, 2) := by decide +kernel
theorem xd_186_533 : decode code 533 = .ok (.aload_n 2, 1) := by decide +kernel
theorem xd_186_534 : decode code 534 = .ok (.aload_n 0, 1) := by decide +kernel
theorem xd_186_535 : decode code 535 = .ok (.iload 4, 2) := by decide +kernel
theorem xd_186_537 : decode code 537 = .ok (.iconst 1, 1) := by decide +kernel
theorem xd_186_538 : decode code 538 = .ok (.iadd, 1) := by decide +kernel
theorem xd_186_539 : decode code 539 = .ok (.iaload, 1) := by decide +kernel
theorem xd_186_540 : decode code 540 = .ok (.aload_n 0, 1) := by decide +kernel
theorem xd_186_541 : decode code 541 = .ok (.iload 4, 2) := by decide +kernel
theorem xd_186_543 : decode code 543 = .ok (.iconst 2, 1) := by decide +kernel
theorem xd_186_544 : decode code 544 = .ok (.iadd, 1) := by decide +kernel
theorem xd_186_545 : decode code 545 = .ok (.iaload, 1) := by decide +kernel
theorem xd_186_546 : decode code 546 = .ok (.aload_n 0, 1) := by decide +kernel
theorem xd_186_547 : decode code 547 = .ok (.iload 4, 2) := by decide +kernel
theorem xd_186_549 : decode code 549 = .ok (.iconst 3, 1) := by decide +kernel
theorem xd_186_550 : decode code 550 = .ok (.iadd, 1) := by decide +kernel
theorem xd_186_551 : decode code 551 = .ok (.iaload, 1) := by decide +kernel
theorem xd_186_552 : decode code 552 = .ok (.invokevirtual 113, 3) := by decide +kernel
theorem xd_186_555 : decode code 555 = .ok (.istore 6, 2) := by decide +kernel
theorem xd_186_557 : decode code 557 = .ok (.aload_n 2, 1) := by decide +kernel
theorem xd_186_558 : decode code 558 = .ok (.invokevirtual 76, 3) := by decide +kernel
theorem xd_186_561 : decode code 561 = .ok (.iload 5, 2) := by decide +kernel
theorem xd_186_563 : decode code 563 = .ok (.if_icmp .eq 5, 3) := by decide +kernel
theorem xd_186_566 : decode code 566 = .ok (.iconst 0, 1) := by decide +kernel
theorem xd_186_567 : decode code 567 = .ok (.ireturn, 1) := by decide +kernel
theorem xd_186_568 : decode code 568 = .ok (.iload 5, 2) := by decide +kernel
theorem xd_186_570 : decode code 570 = .ok (.ifCond .ne 15, 3) := by decide +kernel
theorem xd_186_573 : decode code 573 = .ok (.aload_n 3, 1) := by decide +kernel
theorem xd_186_574 : decode code 574 = .ok (.iconst 0, 1) := by decide +kernel
theorem xd_186_575 : decode code 575 = .ok (.laload, 1) := by decide +kernel
theorem xd_186_576 : decode code 576 = .ok (.iload 6, 2) := by decide +kernel
theorem xd_186_578 : decode code 578 = .ok (.i2l, 1) := by decide +kernel
theorem xd_186_579 : decode code 579 = .ok (.lcmp, 1) := by decide +kernel
theorem xd_186_580 : decode code 580 = .ok (.ifCond .eq 5, 3) := by decide +kernel
theorem xd_186_583 : decode code 583 = .ok (.iconst 0, 1) := by decide +kernel
theorem xd_186_584 : decode code 584 = .ok (.ireturn, 1) := by decide +kernel
theorem xd_186_585 : decode code 585 = .ok (.goto 634, 3) := by decide +kernel
theorem xd_186_588 : decode code 588 = .ok (.aload_n 1, 1) := by decide +kernel
theorem xd_186_589 : decode code 589 = .ok (.aload_n 0, 1) := by decide +kernel
theorem xd_186_590 : decode code 590 = .ok (.iload 4, 2) := by decide +kernel
theorem xd_186_592 : decode code 592 = .ok (.iconst 1, 1) := by decide +kernel
theorem xd_186_593 : decode code 593 = .ok (.iadd, 1) := by decide +kernel
theorem xd_186_594 : decode code 594 = .ok (.iaload, 1) := by decide +kernel
theorem xd_186_595 : decode code 595 = .ok (.aload_n 0, 1) := by decide +kernel
theorem xd_186_596 : decode code 596 = .ok (.iload 4, 2) := by decide +kernel
theorem xd_186_598 : decode code 598 = .ok (.iconst 2, 1) := by decide +kernel
theorem xd_186_599 : decode code 599 = .ok (.iadd, 1) := by decide +kernel
theorem xd_186_600 : decode code 600 = .ok (.iaload, 1) := by decide +kernel
theorem xd_186_601 : decode code 601 = .ok (.aload_n 0, 1) := by decide +kernel
theorem xd_186_602 : decode code 602 = .ok (.iload 4, 2) := by decide +kernel
theorem xd_186_604 : decode code 604 = .ok (.iconst 3, 1) := by decide +kernel
theorem xd_186_605 : decode code 605 = .ok (.iadd, 1) := by decide +kernel
theorem xd_186_606 : decode code 606 = .ok (.iaload, 1) := by decide +kernel
theorem xd_186_607 : decode code 607 = .ok (.aload_n 3, 1) := by decide +kernel
theorem xd_186_608 : decode code 608 = .ok (.invokestatic 114, 3) := by decide +kernel
theorem xd_186_611 : decode code 611 = .ok (.istore 5, 2) := by decide +kernel
theorem xd_186_613 : decode code 613 = .ok (.aload_n 2, 1) := by decide +kernel
theorem xd_186_614 : decode code 614 = .ok (.aload_n 0, 1) := by decide +kernel
theorem xd_186_615 : decode code 615 = .ok (.iload 4, 2) := by decide +kernel
theorem xd_186_617 : decode code 617 = .ok (.iconst 1, 1) := by decide +kernel
theorem xd_186_618 : decode code 618 = .ok (.iadd, 1) := by decide +kernel
theorem xd_186_619 : decode code 619 = .ok (.iaload, 1) := by decide +kernel
theorem xd_186_620 : decode code 620 = .ok (.aload_n 0, 1) := by decide +kernel
theorem xd_186_621 : decode code 621 = .ok (.iload 4, 2) := by decide +kernel
theorem xd_186_623 : decode code 623 = .ok (.iconst 2, 1) := by decide +kernel
theorem xd_186_624 : decode code 624 = .ok (.iadd, 1) := by decide +kernel
theorem xd_186_625 : decode code 625 = .ok (.iaload, 1) := by decide +kernel
theorem xd_186_626 : decode code 626 = .ok (.aload_n 0, 1) := by decide +kernel
theorem xd_186_627 : decode code 627 = .ok (.iload 4, 2) := by decide +kernel
theorem xd_186_629 : decode code 629 = .ok (.iconst 3, 1) := by decide +kernel
theorem xd_186_630 : decode code 630 = .ok (.iadd, 1) := by decide +kernel
theorem xd_186_631 : decode code 631 = .ok (.iaload, 1) := by decide +kernel
theorem xd_186_632 : decode code 632 = .ok (.invokevirtual 116, 3) := by decide +kernel
theorem xd_186_635 : decode code 635 = .ok (.istore 6, 2) := by decide +kernel
theorem xd_186_637 : decode code 637 = .ok (.aload_n 2, 1) := by decide +kernel
theorem xd_186_638 : decode code 638 = .ok (.invokevirtual 76, 3) := by decide +kernel
theorem xd_186_641 : decode code 641 = .ok (.iload 5, 2) := by decide +kernel
theorem xd_186_643 : decode code 643 = .ok (.if_icmp .eq 5, 3) := by decide +kernel
theorem xd_186_646 : decode code 646 = .ok (.iconst 0, 1) := by decide +kernel
theorem xd_186_647 : decode code 647 = .ok (.ireturn, 1) := by decide +kernel
theorem xd_186_648 : decode code 648 = .ok (.iload 5, 2) := by decide +kernel
theorem xd_186_650 : decode code 650 = .ok (.ifCond .ne 15, 3) := by decide +kernel
theorem xd_186_653 : decode code 653 = .ok (.aload_n 3, 1) := by decide +kernel
theorem xd_186_654 : decode code 654 = .ok (.iconst 0, 1) := by decide +kernel
theorem xd_186_655 : decode code 655 = .ok (.laload, 1) := by decide +kernel
theorem xd_186_656 : decode code 656 = .ok (.iload 6, 2) := by decide +kernel
theorem xd_186_658 : decode code 658 = .ok (.i2l, 1) := by decide +kernel
theorem xd_186_659 : decode code 659 = .ok (.lcmp, 1) := by decide +kernel
theorem xd_186_660 : decode code 660 = .ok (.ifCond .eq 5, 3) := by decide +kernel
theorem xd_186_663 : decode code 663 = .ok (.iconst 0, 1) := by decide +kernel
theorem xd_186_664 : decode code 664 = .ok (.ireturn, 1) := by decide +kernel
theorem xd_186_665 : decode code 665 = .ok (.goto 554, 3) := by decide +kernel
theorem xd_186_668 : decode code 668 = .ok (.aload_n 1, 1) := by decide +kernel
theorem xd_186_669 : decode code 669 = .ok (.aload_n 0, 1) := by decide +kernel
theorem xd_186_670 : decode code 670 = .ok (.iload 4, 2) := by decide +kernel
theorem xd_186_672 : decode code 672 = .ok (.iconst 1, 1) := by decide +kernel
theorem xd_186_673 : decode code 673 = .ok (.iadd, 1) := by decide +kernel
theorem xd_186_674 : decode code 674 = .ok (.iaload, 1) := by decide +kernel
theorem xd_186_675 : decode code 675 = .ok (.aload_n 0, 1) := by decide +kernel
theorem xd_186_676 : decode code 676 = .ok (.iload 4, 2) := by decide +kernel
theorem xd_186_678 : decode code 678 = .ok (.iconst 2, 1) := by decide +kernel
theorem xd_186_679 : decode code 679 = .ok (.iadd, 1) := by decide +kernel
theorem xd_186_680 : decode code 680 = .ok (.iaload, 1) := by decide +kernel
theorem xd_186_681 : decode code 681 = .ok (.aload_n 0, 1) := by decide +kernel
theorem xd_186_682 : decode code 682 = .ok (.iload 4, 2) := by decide +kernel
theorem xd_186_684 : decode code 684 = .ok (.iconst 3, 1) := by decide +kernel
theorem xd_186_685 : decode code 685 = .ok (.iadd, 1) := by decide +kernel
theorem xd_186_686 : decode code 686 = .ok (.iaload, 1) := by decide +kernel
theorem xd_186_687 : decode code 687 = .ok (.aload_n 3, 1) := by decide +kernel
theorem xd_186_688 : decode code 688 = .ok (.invokestatic 117, 3) := by decide +kernel
theorem xd_186_691 : decode code 691 = .ok (.istore 5, 2) := by decide +kernel
theorem xd_186_693 : decode code 693 = .ok (.aload_n 2, 1) := by decide +kernel
theorem xd_186_694 : decode code 694 = .ok (.aload_n 0, 1) := by decide +kernel
theorem xd_186_695 : decode code 695 = .ok (.iload 4, 2) := by decide +kernel
theorem xd_186_697 : decode code 697 = .ok (.iconst 1, 1) := by decide +kernel
theorem xd_186_698 : decode code 698 = .ok (.iadd, 1) := by decide +kernel
theorem xd_186_699 : decode code 699 = .ok (.iaload, 1) := by decide +kernel
theorem xd_186_700 : decode code 700 = .ok (.aload_n 0, 1) := by decide +kernel
theorem xd_186_701 : decode code 701 = .ok (.iload 4, 2) := by decide +kernel
theorem xd_186_703 : decode code 703 = .ok (.iconst 2, 1) := by decide +kernel
theorem xd_186_704 : decode code 704 = .ok (.iadd, 1) := by decide +kernel
theorem xd_186_705 : decode code 705 = .ok (.iaload, 1) := by decide +kernel
theorem xd_186_706 : decode code 706 = .ok (.aload_n 0, 1) := by decide +kernel
theorem xd_186_707 : decode code 707 = .ok (.iload 4, 2) := by decide +kernel
theorem xd_186_709 : decode code 709 = .ok (.iconst 3, 1) := by decide +kernel
theorem xd_186_710 : decode code 710 = .ok (.iadd, 1) := by decide +kernel
theorem xd_186_711 : decode code 711 = .ok (.iaload, 1) := by decide +kernel
theorem xd_186_712 : decode code 712 = .ok (.invokevirtual 119, 3) := by decide +kernel
theorem xd_186_715 : decode code 715 = .ok (.istore 6, 2) := by decide +kernel
theorem xd_186_717 : decode code 717 = .ok (.aload_n 2, 1) := by decide +kernel
theorem xd_186_718 : decode code 718 = .ok (.invokevirtual 76, 3) := by decide +kernel
theorem xd_186_721 : decode code 721 = .ok (.iload 5, 2) := by decide +kernel
theorem xd_186_723 : decode code 723 = .ok (.if_icmp .eq 5, 3) := by decide +kernel
theorem xd_186_726 : decode code 726 = .ok (.iconst 0, 1) := by decide +kernel
theorem xd_186_727 : decode code 727 = .ok (.ireturn, 1) := by decide +kernel
theorem xd_186_728 : decode code 728 = .ok (.iload 5, 2) := by decide +kernel
theorem xd_186_730 : decode code 730 = .ok (.ifCond .ne 15, 3) := by decide +kernel
theorem xd_186_733 : decode code 733 = .ok (.aload_n 3, 1) := by decide +kernel
theorem xd_186_734 : decode code 734 = .ok (.iconst 0, 1) := by decide +kernel
theorem xd_186_735 : decode code 735 = .ok (.laload, 1) := by decide +kernel
theorem xd_186_736 : decode code 736 = .ok (.iload 6, 2) := by decide +kernel
theorem xd_186_738 : decode code 738 = .ok (.i2l, 1) := by decide +kernel
theorem xd_186_739 : decode code 739 = .ok (.lcmp, 1) := by decide +kernel
theorem xd_186_740 : decode code 740 = .ok (.ifCond .eq 5, 3) := by decide +kernel
theorem xd_186_743 : decode code 743 = .ok (.iconst 0, 1) := by decide +kernel
theorem xd_186_744 : decode code 744 = .ok (.ireturn, 1) := by decide +kernel
theorem xd_186_745 : decode code 745 = .ok (.goto 474, 3) := by decide +kernel
theorem xd_186_748 : decode code 748 = .ok (.aload_n 1, 1) := by decide +kernel
theorem xd_186_749 : decode code 749 = .ok (.aload_n 0, 1) := by decide +kernel
theorem xd_186_750 : decode code 750 = .ok (.iload 4, 2) := by decide +kernel
theorem xd_186_752 : decode code 752 = .ok (.iconst 1, 1) := by decide +kernel
theorem xd_186_753 : decode code 753 = .ok (.iadd, 1) := by decide +kernel
theorem xd_186_754 : decode code 754 = .ok (.iaload, 1) := by decide +kernel
theorem xd_186_755 : decode code 755 = .ok (.aload_n 0, 1) := by decide +kernel
theorem xd_186_756 : decode code 756 = .ok (.iload 4, 2) := by decide +kernel
theorem xd_186_758 : decode code 758 = .ok (.iconst 2, 1) := by decide +kernel
theorem xd_186_759 : decode code 759 = .ok (.iadd, 1) := by decide +kernel
theorem xd_186_760 : decode code 760 = .ok (.iaload, 1) := by decide +kernel
theorem xd_186_761 : decode code 761 = .ok (.aload_n 3, 1) := by decide +kernel
theorem xd_186_762 : decode code 762 = .ok (.invokestatic 120, 3) := by decide +kernel
theorem xd_186_765 : decode code 765 = .ok (.istore 5, 2) := by decide +kernel
theorem xd_186_767 : decode code 767 = .ok (.aload_n 2, 1) := by decide +kernel
theorem xd_186_768 : decode code 768 = .ok (.aload_n 0, 1) := by decide +kernel
theorem xd_186_769 : decode code 769 = .ok (.iload 4, 2) := by decide +kernel
theorem xd_186_771 : decode code 771 = .ok (.iconst 1, 1) := by decide +kernel
theorem xd_186_772 : decode code 772 = .ok (.iadd, 1) := by decide +kernel
theorem xd_186_773 : decode code 773 = .ok (.iaload, 1) := by decide +kernel
theorem xd_186_774 : decode code 774 = .ok (.aload_n 0, 1) := by decide +kernel
theorem xd_186_775 : decode code 775 = .ok (.iload 4, 2) := by decide +kernel
theorem xd_186_777 : decode code 777 = .ok (.iconst 2, 1) := by decide +kernel
theorem xd_186_778 : decode code 778 = .ok (.iadd, 1) := by decide +kernel
theorem xd_186_779 : decode code 779 = .ok (.iaload, 1) := by decide +kernel
theorem xd_186_780 : decode code 780 = .ok (.invokevirtual 122, 3) := by decide +kernel
theorem xd_186_783 : decode code 783 = .ok (.istore 6, 2) := by decide +kernel
theorem xd_186_785 : decode code 785 = .ok (.aload_n 2, 1) := by decide +kernel
theorem xd_186_786 : decode code 786 = .ok (.invokevirtual 76, 3) := by decide +kernel
theorem xd_186_789 : decode code 789 = .ok (.iload 5, 2) := by decide +kernel
theorem xd_186_791 : decode code 791 = .ok (.if_icmp .eq 5, 3) := by decide +kernel
theorem xd_186_794 : decode code 794 = .ok (.iconst 0, 1) := by decide +kernel
theorem xd_186_795 : decode code 795 = .ok (.ireturn, 1) := by decide +kernel
theorem xd_186_796 : decode code 796 = .ok (.iload 5, 2) := by decide +kernel
theorem xd_186_798 : decode code 798 = .ok (.ifCond .ne 15, 3) := by decide +kernel
theorem xd_186_801 : decode code 801 = .ok (.aload_n 3, 1) := by decide +kernel
theorem xd_186_802 : decode code 802 = .ok (.iconst 0, 1) := by decide +kernel
theorem xd_186_803 : decode code 803 = .ok (.laload, 1) := by decide +kernel
theorem xd_186_804 : decode code 804 = .ok (.iload 6, 2) := by decide +kernel
theorem xd_186_806 : decode code 806 = .ok (.i2l, 1) := by decide +kernel
theorem xd_186_807 : decode code 807 = .ok (.lcmp, 1) := by decide +kernel
theorem xd_186_808 : decode code 808 = .ok (.ifCond .eq 5, 3) := by decide +kernel
theorem xd_186_811 : decode code 811 = .ok (.iconst 0, 1) := by decide +kernel
theorem xd_186_812 : decode code 812 = .ok (.ireturn, 1) := by decide +kernel
theorem xd_186_813 : decode code 813 = .ok (.goto 406, 3) := by decide +kernel
theorem xd_186_816 : decode code 816 = .ok (.aload_n 1, 1) := by decide +kernel
theorem xd_186_817 : decode code 817 = .ok (.aload_n 0, 1) := by decide +kernel
theorem xd_186_818 : decode code 818 = .ok (.iload 4, 2) := by decide +kernel
theorem xd_186_820 : decode code 820 = .ok (.iconst 1, 1) := by decide +kernel
theorem xd_186_821 : decode code 821 = .ok (.iadd, 1) := by decide +kernel
theorem xd_186_822 : decode code 822 = .ok (.iaload, 1) := by decide +kernel
theorem xd_186_823 : decode code 823 = .ok (.aload_n 0, 1) := by decide +kernel
theorem xd_186_824 : decode code 824 = .ok (.iload 4, 2) := by decide +kernel
theorem xd_186_826 : decode code 826 = .ok (.iconst 2, 1) := by decide +kernel
theorem xd_186_827 : decode code 827 = .ok (.iadd, 1) := by decide +kernel
theorem xd_186_828 : decode code 828 = .ok (.iaload, 1) := by decide +kernel
theorem xd_186_829 : decode code 829 = .ok (.aload_n 3, 1) := by decide +kernel
theorem xd_186_830 : decode code 830 = .ok (.invokestatic 123, 3) := by decide +kernel
theorem xd_186_833 : decode code 833 = .ok (.istore 5, 2) := by decide +kernel
theorem xd_186_835 : decode code 835 = .ok (.aload_n 2, 1) := by decide +kernel
theorem xd_186_836 : decode code 836 = .ok (.aload_n 0, 1) := by decide +kernel
theorem xd_186_837 : decode code 837 = .ok (.iload 4, 2) := by decide +kernel
theorem xd_186_839 : decode code 839 = .ok (.iconst 1, 1) := by decide +kernel
theorem xd_186_840 : decode code 840 = .ok (.iadd, 1) := by decide +kernel
theorem xd_186_841 : decode code 841 = .ok (.iaload, 1) := by decide +kernel
theorem xd_186_842 : decode code 842 = .ok (.aload_n 0, 1) := by decide +kernel
theorem xd_186_843 : decode code 843 = .ok (.iload 4, 2) := by decide +kernel
theorem xd_186_845 : decode code 845 = .ok (.iconst 2, 1) := by decide +kernel
theorem xd_186_846 : decode code 846 = .ok (.iadd, 1) := by decide +kernel
theorem xd_186_847 : decode code 847 = .ok (.iaload, 1) := by decide +kernel
theorem xd_186_848 : decode code 848 = .ok (.invokevirtual 125, 3) := by decide +kernel
theorem xd_186_851 : decode code 851 = .ok (.istore 6, 2) := by decide +kernel
theorem xd_186_853 : decode code 853 = .ok (.aload_n 2, 1) := by decide +kernel
theorem xd_186_854 : decode code 854 = .ok (.invokevirtual 76, 3) := by decide +kernel
theorem xd_186_857 : decode code 857 = .ok (.iload 5, 2) := by decide +kernel
theorem xd_186_859 : decode code 859 = .ok (.if_icmp .eq 5, 3) := by decide +kernel
theorem xd_186_862 : decode code 862 = .ok (.iconst 0, 1) := by decide +kernel
theorem xd_186_863 : decode code 863 = .ok (.ireturn, 1) := by decide +kernel
theorem xd_186_864 : decode code 864 = .ok (.iload 5, 2) := by decide +kernel
theorem xd_186_866 : decode code 866 = .ok (.ifCond .ne 15, 3) := by decide +kernel
theorem xd_186_869 : decode code 869 = .ok (.aload_n 3, 1) := by decide +kernel
theorem xd_186_870 : decode code 870 = .ok (.iconst 0, 1) := by decide +kernel
theorem xd_186_871 : decode code 871 = .ok (.laload, 1) := by decide +kernel
theorem xd_186_872 : decode code 872 = .ok (.iload 6, 2) := by decide +kernel
theorem xd_186_874 : decode code 874 = .ok (.i2l, 1) := by decide +kernel
theorem xd_186_875 : decode code 875 = .ok (.lcmp, 1) := by decide +kernel
theorem xd_186_876 : decode code 876 = .ok (.ifCond .eq 5, 3) := by decide +kernel
theorem xd_186_879 : decode code 879 = .ok (.iconst 0, 1) := by decide +kernel
theorem xd_186_880 : decode code 880 = .ok (.ireturn, 1) := by decide +kernel
theorem xd_186_881 : decode code 881 = .ok (.goto 338, 3) := by decide +kernel
theorem xd_186_884 : decode code 884 = .ok (.aload_n 1, 1) := by decide +kernel
theorem xd_186_885 : decode code 885 = .ok (.aload_n 0, 1) := by decide +kernel
theorem xd_186_886 : decode code 886 = .ok (.iload 4, 2) := by decide +kernel
theorem xd_186_888 : decode code 888 = .ok (.iconst 1, 1) := by decide +kernel
theorem xd_186_889 : decode code 889 = .ok (.iadd, 1) := by decide +kernel
theorem xd_186_890 : decode code 890 = .ok (.iaload, 1) := by decide +kernel
theorem xd_186_891 : decode code 891 = .ok (.aload_n 3, 1) := by decide +kernel
theorem xd_186_892 : decode code 892 = .ok (.invokestatic 126, 3) := by decide +kernel
theorem xd_186_895 : decode code 895 = .ok (.istore 5, 2) := by decide +kernel
theorem xd_186_897 : decode code 897 = .ok (.aload_n 2, 1) := by decide +kernel
theorem xd_186_898 : decode code 898 = .ok (.aload_n 0, 1) := by decide +kernel
theorem xd_186_899 : decode code 899 = .ok (.iload 4, 2) := by decide +kernel
theorem xd_186_901 : decode code 901 = .ok (.iconst 1, 1) := by decide +kernel
theorem xd_186_902 : decode code 902 = .ok (.iadd, 1) := by decide +kernel
theorem xd_186_903 : decode code 903 = .ok (.iaload, 1) := by decide +kernel
theorem xd_186_904 : decode code 904 = .ok (.invokevirtual 128, 3) := by decide +kernel
theorem xd_186_907 : decode code 907 = .ok (.istore 6, 2) := by decide +kernel
theorem xd_186_909 : decode code 909 = .ok (.aload_n 2, 1) := by decide +kernel
theorem xd_186_910 : decode code 910 = .ok (.invokevirtual 76, 3) := by decide +kernel
theorem xd_186_913 : decode code 913 = .ok (.iload 5, 2) := by decide +kernel
theorem xd_186_915 : decode code 915 = .ok (.if_icmp .eq 5, 3) := by decide +kernel
theorem xd_186_918 : decode code 918 = .ok (.iconst 0, 1) := by decide +kernel
theorem xd_186_919 : decode code 919 = .ok (.ireturn, 1) := by decide +kernel
theorem xd_186_920 : decode code 920 = .ok (.iload 5, 2) := by decide +kernel
theorem xd_186_922 : decode code 922 = .ok (.ifCond .ne 15, 3) := by decide +kernel
theorem xd_186_925 : decode code 925 = .ok (.aload_n 3, 1) := by decide +kernel
theorem xd_186_926 : decode code 926 = .ok (.iconst 0, 1) := by decide +kernel
theorem xd_186_927 : decode code 927 = .ok (.laload, 1) := by decide +kernel
theorem xd_186_928 : decode code 928 = .ok (.iload 6, 2) := by decide +kernel
theorem xd_186_930 : decode code 930 = .ok (.i2l, 1) := by decide +kernel
theorem xd_186_931 : decode code 931 = .ok (.lcmp, 1) := by decide +kernel
theorem xd_186_932 : decode code 932 = .ok (.ifCond .eq 5, 3) := by decide +kernel
theorem xd_186_935 : decode code 935 = .ok (.iconst 0, 1) := by decide +kernel
theorem xd_186_936 : decode code 936 = .ok (.ireturn, 1) := by decide +kernel
theorem xd_186_937 : decode code 937 = .ok (.goto 282, 3) := by decide +kernel
theorem xd_186_940 : decode code 940 = .ok (.aload_n 1, 1) := by decide +kernel
theorem xd_186_941 : decode code 941 = .ok (.aload_n 0, 1) := by decide +kernel
theorem xd_186_942 : decode code 942 = .ok (.iload 4, 2) := by decide +kernel
theorem xd_186_944 : decode code 944 = .ok (.iconst 1, 1) := by decide +kernel
theorem xd_186_945 : decode code 945 = .ok (.iadd, 1) := by decide +kernel
theorem xd_186_946 : decode code 946 = .ok (.iaload, 1) := by decide +kernel
theorem xd_186_947 : decode code 947 = .ok (.aload_n 0, 1) := by decide +kernel
theorem xd_186_948 : decode code 948 = .ok (.iload 4, 2) := by decide +kernel
theorem xd_186_950 : decode code 950 = .ok (.iconst 2, 1) := by decide +kernel
theorem xd_186_951 : decode code 951 = .ok (.iadd, 1) := by decide +kernel
theorem xd_186_952 : decode code 952 = .ok (.iaload, 1) := by decide +kernel
theorem xd_186_953 : decode code 953 = .ok (.aload_n 3, 1) := by decide +kernel
theorem xd_186_954 : decode code 954 = .ok (.invokestatic 129, 3) := by decide +kernel
theorem xd_186_957 : decode code 957 = .ok (.istore 5, 2) := by decide +kernel
theorem xd_186_959 : decode code 959 = .ok (.aload_n 2, 1) := by decide +kernel
theorem xd_186_960 : decode code 960 = .ok (.aload_n 0, 1) := by decide +kernel
theorem xd_186_961 : decode code 961 = .ok (.iload 4, 2) := by decide +kernel
theorem xd_186_963 : decode code 963 = .ok (.iconst 1, 1) := by decide +kernel
theorem xd_186_964 : decode code 964 = .ok (.iadd, 1) := by decide +kernel
theorem xd_186_965 : decode code 965 = .ok (.iaload, 1) := by decide +kernel
theorem xd_186_966 : decode code 966 = .ok (.aload_n 0, 1) := by decide +kernel
theorem xd_186_967 : decode code 967 = .ok (.iload 4, 2) := by decide +kernel
theorem xd_186_969 : decode code 969 = .ok (.iconst 2, 1) := by decide +kernel
theorem xd_186_970 : decode code 970 = .ok (.iadd, 1) := by decide +kernel
theorem xd_186_971 : decode code 971 = .ok (.iaload, 1) := by decide +kernel
theorem xd_186_972 : decode code 972 = .ok (.invokevirtual 131, 3) := by decide +kernel
theorem xd_186_975 : decode code 975 = .ok (.lstore 6, 2) := by decide +kernel
theorem xd_186_977 : decode code 977 = .ok (.aload_n 2, 1) := by decide +kernel
theorem xd_186_978 : decode code 978 = .ok (.invokevirtual 76, 3) := by decide +kernel
theorem xd_186_981 : decode code 981 = .ok (.iload 5, 2) := by decide +kernel
theorem xd_186_983 : decode code 983 = .ok (.if_icmp .eq 5, 3) := by decide +kernel
theorem xd_186_986 : decode code 986 = .ok (.iconst 0, 1) := by decide +kernel
theorem xd_186_987 : decode code 987 = .ok (.ireturn, 1) := by decide +kernel
theorem xd_186_988 : decode code 988 = .ok (.iload 5, 2) := by decide +kernel
theorem xd_186_990 : decode code 990 = .ok (.ifCond .ne 14, 3) := by decide +kernel
theorem xd_186_993 : decode code 993 = .ok (.aload_n 3, 1) := by decide +kernel
theorem xd_186_994 : decode code 994 = .ok (.iconst 0, 1) := by decide +kernel
theorem xd_186_995 : decode code 995 = .ok (.laload, 1) := by decide +kernel
theorem xd_186_996 : decode code 996 = .ok (.lload 6, 2) := by decide +kernel
theorem xd_186_998 : decode code 998 = .ok (.lcmp, 1) := by decide +kernel
theorem xd_186_999 : decode code 999 = .ok (.ifCond .eq 5, 3) := by decide +kernel
theorem xd_186_1002 : decode code 1002 = .ok (.iconst 0, 1) := by decide +kernel
theorem xd_186_1003 : decode code 1003 = .ok (.ireturn, 1) := by decide +kernel
theorem xd_186_1004 : decode code 1004 = .ok (.goto 215, 3) := by decide +kernel
theorem xd_186_1007 : decode code 1007 = .ok (.aload_n 1, 1) := by decide +kernel
theorem xd_186_1008 : decode code 1008 = .ok (.aload_n 0, 1) := by decide +kernel
theorem xd_186_1009 : decode code 1009 = .ok (.iload 4, 2) := by decide +kernel
theorem xd_186_1011 : decode code 1011 = .ok (.iconst 1, 1) := by decide +kernel
theorem xd_186_1012 : decode code 1012 = .ok (.iadd, 1) := by decide +kernel
theorem xd_186_1013 : decode code 1013 = .ok (.iaload, 1) := by decide +kernel
theorem xd_186_1014 : decode code 1014 = .ok (.aload_n 0, 1) := by decide +kernel
theorem xd_186_1015 : decode code 1015 = .ok (.iload 4, 2) := by decide +kernel
theorem xd_186_1017 : decode code 1017 = .ok (.iconst 2, 1) := by decide +kernel
theorem xd_186_1018 : decode code 1018 = .ok (.iadd, 1) := by decide +kernel
theorem xd_186_1019 : decode code 1019 = .ok (.iaload, 1) := by decide +kernel
theorem xd_186_1020 : decode code 1020 = .ok (.aload_n 3, 1) := by decide +kernel
theorem xd_186_1021 : decode code 1021 = .ok (.invokestatic 132, 3) := by decide +kernel
theorem xd_186_1024 : decode code 1024 = .ok (.istore 5, 2) := by decide +kernel
theorem xd_186_1026 : decode code 1026 = .ok (.aload_n 2, 1) := by decide +kernel
theorem xd_186_1027 : decode code 1027 = .ok (.aload_n 0, 1) := by decide +kernel
theorem xd_186_1028 : decode code 1028 = .ok (.iload 4, 2) := by decide +kernel
theorem xd_186_1030 : decode code 1030 = .ok (.iconst 1, 1) := by decide +kernel
theorem xd_186_1031 : decode code 1031 = .ok (.iadd, 1) := by decide +kernel
theorem xd_186_1032 : decode code 1032 = .ok (.iaload, 1) := by decide +kernel
theorem xd_186_1033 : decode code 1033 = .ok (.aload_n 0, 1) := by decide +kernel
theorem xd_186_1034 : decode code 1034 = .ok (.iload 4, 2) := by decide +kernel
theorem xd_186_1036 : decode code 1036 = .ok (.iconst 2, 1) := by decide +kernel
theorem xd_186_1037 : decode code 1037 = .ok (.iadd, 1) := by decide +kernel
theorem xd_186_1038 : decode code 1038 = .ok (.iaload, 1) := by decide +kernel
theorem xd_186_1039 : decode code 1039 = .ok (.invokevirtual 134, 3) := by decide +kernel
theorem xd_186_1042 : decode code 1042 = .ok (.istore 6, 2) := by decide +kernel
theorem xd_186_1044 : decode code 1044 = .ok (.aload_n 2, 1) := by decide +kernel
theorem xd_186_1045 : decode code 1045 = .ok (.invokevirtual 76, 3) := by decide +kernel
theorem xd_186_1048 : decode code 1048 = .ok (.iload 5, 2) := by decide +kernel
theorem xd_186_1050 : decode code 1050 = .ok (.if_icmp .eq 5, 3) := by decide +kernel
theorem xd_186_1053 : decode code 1053 = .ok (.iconst 0, 1) := by decide +kernel
theorem xd_186_1054 : decode code 1054 = .ok (.ireturn, 1) := by decide +kernel
theorem xd_186_1055 : decode code 1055 = .ok (.iload 5, 2) := by decide +kernel
theorem xd_186_1057 : decode code 1057 = .ok (.ifCond .ne 22, 3) := by decide +kernel
theorem xd_186_1060 : decode code 1060 = .ok (.aload_n 3, 1) := by decide +kernel
theorem xd_186_1061 : decode code 1061 = .ok (.iconst 0, 1) := by decide +kernel
theorem xd_186_1062 : decode code 1062 = .ok (.laload, 1) := by decide +kernel
theorem xd_186_1063 : decode code 1063 = .ok (.iload 6, 2) := by decide +kernel
theorem xd_186_1065 : decode code 1065 = .ok (.ifCond .eq 7, 3) := by decide +kernel
theorem xd_186_1068 : decode code 1068 = .ok (.lconst 1, 1) := by decide +kernel
theorem xd_186_1069 : decode code 1069 = .ok (.goto 4, 3) := by decide +kernel
theorem xd_186_1072 : decode code 1072 = .ok (.lconst 0, 1) := by decide +kernel
theorem xd_186_1073 : decode code 1073 = .ok (.lcmp, 1) := by decide +kernel
theorem xd_186_1074 : decode code 1074 = .ok (.ifCond .eq 5, 3) := by decide +kernel
theorem xd_186_1077 : decode code 1077 = .ok (.iconst 0, 1) := by decide +kernel
theorem xd_186_1078 : decode code 1078 = .ok (.ireturn, 1) := by decide +kernel
theorem xd_186_1079 : decode code 1079 = .ok (.goto 140, 3) := by decide +kernel
theorem xd_186_1082 : decode code 1082 = .ok (.aload_n 1, 1) := by decide +kernel
theorem xd_186_1083 : decode code 1083 = .ok (.invokevirtual 135, 3) := by decide +kernel
theorem xd_186_1086 : decode code 1086 = .ok (.aload_n 2, 1) := by decide +kernel
theorem xd_186_1087 : decode code 1087 = .ok (.invokevirtual 138, 3) := by decide +kernel
theorem xd_186_1090 : decode code 1090 = .ok (.if_icmp .eq 129, 3) := by decide +kernel
theorem xd_186_1093 : decode code 1093 = .ok (.iconst 0, 1) := by decide +kernel
theorem xd_186_1094 : decode code 1094 = .ok (.ireturn, 1) := by decide +kernel
theorem xd_186_1095 : decode code 1095 = .ok (.aload_n 1, 1) := by decide +kernel
theorem xd_186_1096 : decode code 1096 = .ok (.aload_n 0, 1) := by decide +kernel
theorem xd_186_1097 : decode code 1097 = .ok (.iload 4, 2) := by decide +kernel
theorem xd_186_1099 : decode code 1099 = .ok (.iconst 1, 1) := by decide +kernel
theorem xd_186_1100 : decode code 1100 = .ok (.iadd, 1) := by decide +kernel
theorem xd_186_1101 : decode code 1101 = .ok (.iaload, 1) := by decide +kernel
theorem xd_186_1102 : decode code 1102 = .ok (.aload_n 0, 1) := by decide +kernel
theorem xd_186_1103 : decode code 1103 = .ok (.iload 4, 2) := by decide +kernel
theorem xd_186_1105 : decode code 1105 = .ok (.iconst 2, 1) := by decide +kernel
theorem xd_186_1106 : decode code 1106 = .ok (.iadd, 1) := by decide +kernel
theorem xd_186_1107 : decode code 1107 = .ok (.iaload, 1) := by decide +kernel
theorem xd_186_1108 : decode code 1108 = .ok (.aload_n 3, 1) := by decide +kernel
theorem xd_186_1109 : decode code 1109 = .ok (.invokestatic 139, 3) := by decide +kernel
theorem xd_186_1112 : decode code 1112 = .ok (.istore 5, 2) := by decide +kernel
theorem xd_186_1114 : decode code 1114 = .ok (.aload_n 2, 1) := by decide +kernel
theorem xd_186_1115 : decode code 1115 = .ok (.aload_n 0, 1) := by decide +kernel
theorem xd_186_1116 : decode code 1116 = .ok (.iload 4, 2) := by decide +kernel
theorem xd_186_1118 : decode code 1118 = .ok (.iconst 1, 1) := by decide +kernel
theorem xd_186_1119 : decode code 1119 = .ok (.iadd, 1) := by decide +kernel
theorem xd_186_1120 : decode code 1120 = .ok (.iaload, 1) := by decide +kernel
theorem xd_186_1121 : decode code 1121 = .ok (.aload_n 0, 1) := by decide +kernel
theorem xd_186_1122 : decode code 1122 = .ok (.iload 4, 2) := by decide +kernel
theorem xd_186_1124 : decode code 1124 = .ok (.iconst 2, 1) := by decide +kernel
theorem xd_186_1125 : decode code 1125 = .ok (.iadd, 1) := by decide +kernel
theorem xd_186_1126 : decode code 1126 = .ok (.iaload, 1) := by decide +kernel
theorem xd_186_1127 : decode code 1127 = .ok (.invokevirtual 141, 3) := by decide +kernel
theorem xd_186_1130 : decode code 1130 = .ok (.istore 6, 2) := by decide +kernel
theorem xd_186_1132 : decode code 1132 = .ok (.aload_n 2, 1) := by decide +kernel
theorem xd_186_1133 : decode code 1133 = .ok (.invokevirtual 76, 3) := by decide +kernel
theorem xd_186_1136 : decode code 1136 = .ok (.iload 5, 2) := by decide +kernel
theorem xd_186_1138 : decode code 1138 = .ok (.if_icmp .eq 5, 3) := by decide +kernel
theorem xd_186_1141 : decode code 1141 = .ok (.iconst 0, 1) := by decide +kernel
theorem xd_186_1142 : decode code 1142 = .ok (.ireturn, 1) := by decide +kernel
theorem xd_186_1143 : decode code 1143 = .ok (.iload 5, 2) := by decide +kernel
theorem xd_186_1145 : decode code 1145 = .ok (.ifCond .ne 15, 3) := by decide +kernel
theorem xd_186_1148 : decode code 1148 = .ok (.aload_n 3, 1) := by decide +kernel
theorem xd_186_1149 : decode code 1149 = .ok (.iconst 0, 1) := by decide +kernel
theorem xd_186_1150 : decode code 1150 = .ok (.laload, 1) := by decide +kernel
theorem xd_186_1151 : decode code 1151 = .ok (.iload 6, 2) := by decide +kernel
theorem xd_186_1153 : decode code 1153 = .ok (.i2l, 1) := by decide +kernel
theorem xd_186_1154 : decode code 1154 = .ok (.lcmp, 1) := by decide +kernel
theorem xd_186_1155 : decode code 1155 = .ok (.ifCond .eq 5, 3) := by decide +kernel
theorem xd_186_1158 : decode code 1158 = .ok (.iconst 0, 1) := by decide +kernel
theorem xd_186_1159 : decode code 1159 = .ok (.ireturn, 1) := by decide +kernel
theorem xd_186_1160 : decode code 1160 = .ok (.goto 59, 3) := by decide +kernel
theorem xd_186_1163 : decode code 1163 = .ok (.aload_n 1, 1) := by decide +kernel
theorem xd_186_1164 : decode code 1164 = .ok (.aload_n 0, 1) := by decide +kernel
theorem xd_186_1165 : decode code 1165 = .ok (.iload 4, 2) := by decide +kernel
theorem xd_186_1167 : decode code 1167 = .ok (.iconst 1, 1) := by decide +kernel
theorem xd_186_1168 : decode code 1168 = .ok (.iadd, 1) := by decide +kernel
theorem xd_186_1169 : decode code 1169 = .ok (.iaload, 1) := by decide +kernel
theorem xd_186_1170 : decode code 1170 = .ok (.aload_n 3, 1) := by decide +kernel
theorem xd_186_1171 : decode code 1171 = .ok (.invokestatic 142, 3) := by decide +kernel
theorem xd_186_1174 : decode code 1174 = .ok (.istore 5, 2) := by decide +kernel
theorem xd_186_1176 : decode code 1176 = .ok (.aload_n 2, 1) := by decide +kernel
theorem xd_186_1177 : decode code 1177 = .ok (.aload_n 0, 1) := by decide +kernel
theorem xd_186_1178 : decode code 1178 = .ok (.iload 4, 2) := by decide +kernel
theorem xd_186_1180 : decode code 1180 = .ok (.iconst 1, 1) := by decide +kernel
theorem xd_186_1181 : decode code 1181 = .ok (.iadd, 1) := by decide +kernel
theorem xd_186_1182 : decode code 1182 = .ok (.iaload, 1) := by decide +kernel
theorem xd_186_1183 : decode code 1183 = .ok (.invokevirtual 144, 3) := by decide +kernel
theorem xd_186_1186 : decode code 1186 = .ok (.istore 6, 2) := by decide +kernel
theorem xd_186_1188 : decode code 1188 = .ok (.aload_n 2, 1) := by decide +kernel
theorem xd_186_1189 : decode code 1189 = .ok (.invokevirtual 76, 3) := by decide +kernel
theorem xd_186_1192 : decode code 1192 = .ok (.iload 5, 2) := by decide +kernel
theorem xd_186_1194 : decode code 1194 = .ok (.if_icmp .eq 5, 3) := by decide +kernel
theorem xd_186_1197 : decode code 1197 = .ok (.iconst 0, 1) := by decide +kernel
theorem xd_186_1198 : decode code 1198 = .ok (.ireturn, 1) := by decide +kernel
theorem xd_186_1199 : decode code 1199 = .ok (.iload 5, 2) := by decide +kernel
theorem xd_186_1201 : decode code 1201 = .ok (.ifCond .ne 15, 3) := by decide +kernel
theorem xd_186_1204 : decode code 1204 = .ok (.aload_n 3, 1) := by decide +kernel
theorem xd_186_1205 : decode code 1205 = .ok (.iconst 0, 1) := by decide +kernel
theorem xd_186_1206 : decode code 1206 = .ok (.laload, 1) := by decide +kernel
theorem xd_186_1207 : decode code 1207 = .ok (.iload 6, 2) := by decide +kernel
theorem xd_186_1209 : decode code 1209 = .ok (.i2l, 1) := by decide +kernel
theorem xd_186_1210 : decode code 1210 = .ok (.lcmp, 1) := by decide +kernel
theorem xd_186_1211 : decode code 1211 = .ok (.ifCond .eq 5, 3) := by decide +kernel
theorem xd_186_1214 : decode code 1214 = .ok (.iconst 0, 1) := by decide +kernel
theorem xd_186_1215 : decode code 1215 = .ok (.ireturn, 1) := by decide +kernel
theorem xd_186_1216 : decode code 1216 = .ok (.goto 3, 3) := by decide +kernel
theorem xd_186_1219 : decode code 1219 = .ok (.iinc 4 4, 3) := by decide +kernel
theorem xd_186_1222 : decode code 1222 = .ok (.goto (-1199), 3) := by decide +kernel
theorem xd_186_1225 : decode code 1225 = .ok (.iconst 1, 1) := by decide +kernel
theorem xd_186_1226 : decode code 1226 = .ok (.ireturn, 1) := by decide +kernel
