theorem xd_53_79 : decode prog_12_method_24_code 79 = .ok (.iload_n 2, 1) := by decide +kernel
theorem xd_53_80 : decode prog_12_method_24_code 80 = .ok (.bipush 36, 2) := by decide +kernel
theorem xd_53_82 : decode prog_12_method_24_code 82 = .ok (.if_icmp .ne 24, 3) := by decide +kernel
theorem xd_53_85 : decode prog_12_method_24_code 85 = .ok (.aload_n 0, 1) := by decide +kernel
theorem xd_53_86 : decode prog_12_method_24_code 86 = .ok (.getfield 50, 3) := by decide +kernel
theorem xd_53_89 : decode prog_12_method_24_code 89 = .ok (.iload_n 1, 1) := by decide +kernel
theorem xd_53_90 : decode prog_12_method_24_code 90 = .ok (.bipush 6, 2) := by decide +kernel
theorem xd_53_92 : decode prog_12_method_24_code 92 = .ok (.iastore, 1) := by decide +kernel
theorem xd_53_93 : decode prog_12_method_24_code 93 = .ok (.aload_n 0, 1) := by decide +kernel
theorem xd_53_94 : decode prog_12_method_24_code 94 = .ok (.dup, 1) := by decide +kernel
theorem xd_53_95 : decode prog_12_method_24_code 95 = .ok (.getfield 82, 3) := by decide +kernel
theorem xd_53_98 : decode prog_12_method_24_code 98 = .ok (.iconst 1, 1) := by decide +kernel
theorem xd_53_99 : decode prog_12_method_24_code 99 = .ok (.iadd, 1) := by decide +kernel
theorem xd_53_100 : decode prog_12_method_24_code 100 = .ok (.putfield 82, 3) := by decide +kernel
theorem xd_53_103 : decode prog_12_method_24_code 103 = .ok (.goto 75, 3) := by decide +kernel
theorem xd_53_106 : decode prog_12_method_24_code 106 = .ok (.iload_n 2, 1) := by decide +kernel
theorem xd_53_107 : decode prog_12_method_24_code 107 = .ok (.bipush 46, 2) := by decide +kernel
theorem xd_53_109 : decode prog_12_method_24_code 109 = .ok (.if_icmp .ne 47, 3) := by decide +kernel
theorem xd_53_112 : decode prog_12_method_24_code 112 = .ok (.aload_n 0, 1) := by decide +kernel
theorem xd_53_113 : decode prog_12_method_24_code 113 = .ok (.dup, 1) := by decide +kernel
theorem xd_53_114 : decode prog_12_method_24_code 114 = .ok (.getfield 82, 3) := by decide +kernel
theorem xd_53_117 : decode prog_12_method_24_code 117 = .ok (.iconst 1, 1) := by decide +kernel
theorem xd_53_118 : decode prog_12_method_24_code 118 = .ok (.iadd, 1) := by decide +kernel
theorem xd_53_119 : decode prog_12_method_24_code 119 = .ok (.putfield 82, 3) := by decide +kernel
theorem xd_53_122 : decode prog_12_method_24_code 122 = .ok (.aload_n 0, 1) := by decide +kernel
theorem xd_53_123 : decode prog_12_method_24_code 123 = .ok (.getfield 50, 3) := by decide +kernel
theorem xd_53_126 : decode prog_12_method_24_code 126 = .ok (.iload_n 1, 1) := by decide +kernel
theorem xd_53_127 : decode prog_12_method_24_code 127 = .ok (.iconst 5, 1) := by decide +kernel
theorem xd_53_128 : decode prog_12_method_24_code 128 = .ok (.iastore, 1) := by decide +kernel
theorem xd_53_129 : decode prog_12_method_24_code 129 = .ok (.aload_n 0, 1) := by decide +kernel
theorem xd_53_130 : decode prog_12_method_24_code 130 = .ok (.getfield 53, 3) := by decide +kernel
theorem xd_53_133 : decode prog_12_method_24_code 133 = .ok (.iload_n 1, 1) := by decide +kernel
theorem xd_53_134 : decode prog_12_method_24_code 134 = .ok (.aload_n 0, 1) := by decide +kernel
theorem xd_53_135 : decode prog_12_method_24_code 135 = .ok (.aload_n 0, 1) := by decide +kernel
theorem xd_53_136 : decode prog_12_method_24_code 136 = .ok (.getfield 56, 3) := by decide +kernel
theorem xd_53_139 : decode prog_12_method_24_code 139 = .ok (.bipush 20, 2) := by decide +kernel
theorem xd_53_141 : decode prog_12_method_24_code 141 = .ok (.iload_n 1, 1) := by decide +kernel
theorem xd_53_142 : decode prog_12_method_24_code 142 = .ok (.imul, 1) := by decide +kernel
theorem xd_53_143 : decode prog_12_method_24_code 143 = .ok (.invokevirtual 113, 3) := by decide +kernel
theorem xd_53_146 : decode prog_12_method_24_code 146 = .ok (.iastore, 1) := by decide +kernel
theorem xd_53_147 : decode prog_12_method_24_code 147 = .ok (.aload_n 0, 1) := by decide +kernel
theorem xd_53_148 : decode prog_12_method_24_code 148 = .ok (.bipush 46, 2) := by decide +kernel
theorem xd_53_150 : decode prog_12_method_24_code 150 = .ok (.invokevirtual 110, 3) := by decide +kernel
theorem xd_53_153 : decode prog_12_method_24_code 153 = .ok (.goto 25, 3) := by decide +kernel
theorem xd_53_156 : decode prog_12_method_24_code 156 = .ok (.iload_n 2, 1) := by decide +kernel
theorem xd_53_157 : decode prog_12_method_24_code 157 = .ok (.bipush 40, 2) := by decide +kernel
theorem xd_53_159 : decode prog_12_method_24_code 159 = .ok (.if_icmp .ne 11, 3) := by decide +kernel
theorem xd_53_162 : decode prog_12_method_24_code 162 = .ok (.aload_n 0, 1) := by decide +kernel
theorem xd_53_163 : decode prog_12_method_24_code 163 = .ok (.iload_n 1, 1) := by decide +kernel
theorem xd_53_164 : decode prog_12_method_24_code 164 = .ok (.invokevirtual 140, 3) := by decide +kernel
theorem xd_53_167 : decode prog_12_method_24_code 167 = .ok (.goto 11, 3) := by decide +kernel
theorem xd_53_170 : decode prog_12_method_24_code 170 = .ok (.aload_n 0, 1) := by decide +kernel
theorem xd_53_171 : decode prog_12_method_24_code 171 = .ok (.aload_n 0, 1) := by decide +kernel
theorem xd_53_172 : decode prog_12_method_24_code 172 = .ok (.getfield 82, 3) := by decide +kernel
theorem xd_53_175 : decode prog_12_method_24_code 175 = .ok (.invokevirtual 92, 3) := by decide +kernel
theorem xd_53_178 : decode prog_12_method_24_code 178 = .ok (.return_, 1) := by decide +kernel
theorem xd_54_0 : decode prog_12_method_25_code 0 = .ok (.aload_n 0, 1) := by decide +kernel
theorem xd_54_1 : decode prog_12_method_25_code 1 = .ok (.invokevirtual 88, 3) := by decide +kernel
theorem xd_54_4 : decode prog_12_method_25_code 4 = .ok (.bipush 35, 2) := by decide +kernel
theorem xd_54_6 : decode prog_12_method_25_code 6 = .ok (.if_icmp .ne 14, 3) := by decide +kernel
theorem xd_54_9 : decode prog_12_method_25_code 9 = .ok (.aload_n 0, 1) := by decide +kernel
theorem xd_54_10 : decode prog_12_method_25_code 10 = .ok (.getfield 35, 3) := by decide +kernel
theorem xd_54_13 : decode prog_12_method_25_code 13 = .ok (.iconst 1, 1) := by decide +kernel
theorem xd_54_14 : decode prog_12_method_25_code 14 = .ok (.iaload, 1) := by decide +kernel
theorem xd_54_15 : decode prog_12_method_25_code 15 = .ok (.bipush 40, 2) := by decide +kernel
theorem xd_54_17 : decode prog_12_method_25_code 17 = .ok (.if_icmp .ne 12, 3) := by decide +kernel
theorem xd_54_20 : decode prog_12_method_25_code 20 = .ok (.aload_n 0, 1) := by decide +kernel
theorem xd_54_21 : decode prog_12_method_25_code 21 = .ok (.aload_n 0, 1) := by decide +kernel
theorem xd_54_22 : decode prog_12_method_25_code 22 = .ok (.getfield 82, 3) := by decide +kernel
theorem xd_54_25 : decode prog_12_method_25_code 25 = .ok (.invokevirtual 92, 3) := by decide +kernel
theorem xd_54_28 : decode prog_12_method_25_code 28 = .ok (.return_, 1) := by decide +kernel
theorem xd_54_29 : decode prog_12_method_25_code 29 = .ok (.aload_n 0, 1) := by decide +kernel
theorem xd_54_30 : decode prog_12_method_25_code 30 = .ok (.dup, 1) := by decide +kernel
theorem xd_54_31 : decode prog_12_method_25_code 31 = .ok (.getfield 82, 3) := by decide +kernel
theorem xd_54_34 : decode prog_12_method_25_code 34 = .ok (.iconst 1, 1) := by decide +kernel
theorem xd_54_35 : decode prog_12_method_25_code 35 = .ok (.iadd, 1) := by decide +kernel
theorem xd_54_36 : decode prog_12_method_25_code 36 = .ok (.putfield 82, 3) := by decide +kernel
theorem xd_54_39 : decode prog_12_method_25_code 39 = .ok (.bipush 40, 2) := by decide +kernel
theorem xd_54_41 : decode prog_12_method_25_code 41 = .ok (.aload_n 0, 1) := by decide +kernel
theorem xd_54_42 : decode prog_12_method_25_code 42 = .ok (.getfield 35, 3) := by decide +kernel
theorem xd_54_45 : decode prog_12_method_25_code 45 = .ok (.iconst 1, 1) := by decide +kernel
theorem xd_54_46 : decode prog_12_method_25_code 46 = .ok (.iaload, 1) := by decide +kernel
theorem xd_54_47 : decode prog_12_method_25_code 47 = .ok (.iadd, 1) := by decide +kernel
theorem xd_54_48 : decode prog_12_method_25_code 48 = .ok (.istore_n 1, 1) := by decide +kernel
theorem xd_54_49 : decode prog_12_method_25_code 49 = .ok (.aload_n 0, 1) := by decide +kernel
theorem xd_54_50 : decode prog_12_method_25_code 50 = .ok (.iconst 3, 1) := by decide +kernel
theorem xd_54_51 : decode prog_12_method_25_code 51 = .ok (.iconst (-1), 1) := by decide +kernel
theorem xd_54_52 : decode prog_12_method_25_code 52 = .ok (.invokevirtual 106, 3) := by decide +kernel
theorem xd_54_55 : decode prog_12_method_25_code 55 = .ok (.istore_n 2, 1) := by decide +kernel
theorem xd_54_56 : decode prog_12_method_25_code 56 = .ok (.iload_n 2, 1) := by decide +kernel
theorem xd_54_57 : decode prog_12_method_25_code 57 = .ok (.ifCond .eq 13, 3) := by decide +kernel
theorem xd_54_60 : decode prog_12_method_25_code 60 = .ok (.aload_n 0, 1) := by decide +kernel
theorem xd_54_61 : decode prog_12_method_25_code 61 = .ok (.iconst 1, 1) := by decide +kernel
theorem xd_54_62 : decode prog_12_method_25_code 62 = .ok (.iload_n 2, 1) := by decide +kernel
theorem xd_54_63 : decode prog_12_method_25_code 63 = .ok (.invokevirtual 143, 3) := by decide +kernel
theorem xd_54_66 : decode prog_12_method_25_code 66 = .ok (.iconst (-1), 1) := by decide +kernel
theorem xd_54_67 : decode prog_12_method_25_code 67 = .ok (.if_icmp .eq 11, 3) := by decide +kernel
theorem xd_54_70 : decode prog_12_method_25_code 70 = .ok (.aload_n 0, 1) := by decide +kernel
theorem xd_54_71 : decode prog_12_method_25_code 71 = .ok (.aload_n 0, 1) := by decide +kernel
theorem xd_54_72 : decode prog_12_method_25_code 72 = .ok (.getfield 96, 3) := by decide +kernel
theorem xd_54_75 : decode prog_12_method_25_code 75 = .ok (.invokevirtual 92, 3) := by decide +kernel
theorem xd_54_78 : decode prog_12_method_25_code 78 = .ok (.aload_n 0, 1) := by decide +kernel
theorem xd_54_79 : decode prog_12_method_25_code 79 = .ok (.getfield 38, 3) := by decide +kernel
theorem xd_54_82 : decode prog_12_method_25_code 82 = .ok (.iload_n 1, 1) := by decide +kernel
theorem xd_54_83 : decode prog_12_method_25_code 83 = .ok (.iload_n 2, 1) := by decide +kernel
theorem xd_54_84 : decode prog_12_method_25_code 84 = .ok (.iastore, 1) := by decide +kernel
theorem xd_54_85 : decode prog_12_method_25_code 85 = .ok (.aload_n 0, 1) := by decide +kernel
theorem xd_54_86 : decode prog_12_method_25_code 86 = .ok (.bipush 61, 2) := by decide +kernel
theorem xd_54_88 : decode prog_12_method_25_code 88 = .ok (.invokevirtual 110, 3) := by decide +kernel
theorem xd_54_91 : decode prog_12_method_25_code 91 = .ok (.aload_n 0, 1) := by decide +kernel
theorem xd_54_92 : decode prog_12_method_25_code 92 = .ok (.getfield 41, 3) := by decide +kernel
theorem xd_54_95 : decode prog_12_method_25_code 95 = .ok (.iload_n 1, 1) := by decide +kernel
theorem xd_54_96 : decode prog_12_method_25_code 96 = .ok (.aload_n 0, 1) := by decide +kernel
theorem xd_54_97 : decode prog_12_method_25_code 97 = .ok (.aload_n 0, 1) := by decide +kernel
theorem xd_54_98 : decode prog_12_method_25_code 98 = .ok (.getfield 44, 3) := by decide +kernel
theorem xd_54_101 : decode prog_12_method_25_code 101 = .ok (.bipush 8, 2) := by decide +kernel
theorem xd_54_103 : decode prog_12_method_25_code 103 = .ok (.iload_n 1, 1) := by decide +kernel
theorem xd_54_104 : decode prog_12_method_25_code 104 = .ok (.imul, 1) := by decide +kernel
theorem xd_54_105 : decode prog_12_method_25_code 105 = .ok (.invokevirtual 113, 3) := by decide +kernel
theorem xd_54_108 : decode prog_12_method_25_code 108 = .ok (.iastore, 1) := by decide +kernel
theorem xd_54_109 : decode prog_12_method_25_code 109 = .ok (.aload_n 0, 1) := by decide +kernel
theorem xd_54_110 : decode prog_12_method_25_code 110 = .ok (.bipush 40, 2) := by decide +kernel
theorem xd_54_112 : decode prog_12_method_25_code 112 = .ok (.invokevirtual 110, 3) := by decide +kernel
theorem xd_54_115 : decode prog_12_method_25_code 115 = .ok (.iconst 0, 1) := by decide +kernel
theorem xd_54_116 : decode prog_12_method_25_code 116 = .ok (.istore_n 3, 1) := by decide +kernel
theorem xd_54_117 : decode prog_12_method_25_code 117 = .ok (.iconst 1, 1) := by decide +kernel
theorem xd_54_118 : decode prog_12_method_25_code 118 = .ok (.istore 4, 2) := by decide +kernel
theorem xd_54_120 : decode prog_12_method_25_code 120 = .ok (.iload 4, 2) := by decide +kernel
theorem xd_54_122 : decode prog_12_method_25_code 122 = .ok (.ifCond .eq 88, 3) := by decide +kernel
theorem xd_54_125 : decode prog_12_method_25_code 125 = .ok (.aload_n 0, 1) := by decide +kernel
theorem xd_54_126 : decode prog_12_method_25_code 126 = .ok (.getfield 85, 3) := by decide +kernel
theorem xd_54_129 : decode prog_12_method_25_code 129 = .ok (.iconst (-1), 1) := by decide +kernel
theorem xd_54_130 : decode prog_12_method_25_code 130 = .ok (.if_icmp .ne 80, 3) := by decide +kernel
theorem xd_54_133 : decode prog_12_method_25_code 133 = .ok (.aload_n 0, 1) := by decide +kernel
theorem xd_54_134 : decode prog_12_method_25_code 134 = .ok (.invokevirtual 88, 3) := by decide +kernel
theorem xd_54_137 : decode prog_12_method_25_code 137 = .ok (.pop, 1) := by decide +kernel
theorem xd_54_138 : decode prog_12_method_25_code 138 = .ok (.iload_n 3, 1) := by decide +kernel
theorem xd_54_139 : decode prog_12_method_25_code 139 = .ok (.bipush 8, 2) := by decide +kernel
theorem xd_54_141 : decode prog_12_method_25_code 141 = .ok (.if_icmp .ne 14, 3) := by decide +kernel
theorem xd_54_144 : decode prog_12_method_25_code 144 = .ok (.aload_n 0, 1) := by decide +kernel
theorem xd_54_145 : decode prog_12_method_25_code 145 = .ok (.aload_n 0, 1) := by decide +kernel
theorem xd_54_146 : decode prog_12_method_25_code 146 = .ok (.getfield 82, 3) := by decide +kernel
theorem xd_54_149 : decode prog_12_method_25_code 149 = .ok (.invokevirtual 92, 3) := by decide +kernel
theorem xd_54_152 : decode prog_12_method_25_code 152 = .ok (.goto (-32), 3) := by decide +kernel
theorem xd_54_155 : decode prog_12_method_25_code 155 = .ok (.aload_n 0, 1) := by decide +kernel
theorem xd_54_156 : decode prog_12_method_25_code 156 = .ok (.bipush 8, 2) := by decide +kernel
theorem xd_54_158 : decode prog_12_method_25_code 158 = .ok (.iload_n 1, 1) := by decide +kernel
theorem xd_54_159 : decode prog_12_method_25_code 159 = .ok (.imul, 1) := by decide +kernel
theorem xd_54_160 : decode prog_12_method_25_code 160 = .ok (.iload_n 3, 1) := by decide +kernel
theorem xd_54_161 : decode prog_12_method_25_code 161 = .ok (.iadd, 1) := by decide +kernel
theorem xd_54_162 : decode prog_12_method_25_code 162 = .ok (.invokevirtual 146, 3) := by decide +kernel
theorem xd_54_165 : decode prog_12_method_25_code 165 = .ok (.iinc 3 1, 3) := by decide +kernel
theorem xd_54_168 : decode prog_12_method_25_code 168 = .ok (.aload_n 0, 1) := by decide +kernel
theorem xd_54_169 : decode prog_12_method_25_code 169 = .ok (.getfield 85, 3) := by decide +kernel
theorem xd_54_172 : decode prog_12_method_25_code 172 = .ok (.iconst (-1), 1) := by decide +kernel
theorem xd_54_173 : decode prog_12_method_25_code 173 = .ok (.if_icmp .ne 16, 3) := by decide +kernel
theorem xd_54_176 : decode prog_12_method_25_code 176 = .ok (.aload_n 0, 1) := by decide +kernel
theorem xd_54_177 : decode prog_12_method_25_code 177 = .ok (.invokevirtual 88, 3) := by decide +kernel
theorem xd_54_180 : decode prog_12_method_25_code 180 = .ok (.bipush 44, 2) := by decide +kernel
theorem xd_54_182 : decode prog_12_method_25_code 182 = .ok (.if_icmp .ne 7, 3) := by decide +kernel
theorem xd_54_185 : decode prog_12_method_25_code 185 = .ok (.iconst 1, 1) := by decide +kernel
theorem xd_54_186 : decode prog_12_method_25_code 186 = .ok (.goto 4, 3) := by decide +kernel
theorem xd_54_189 : decode prog_12_method_25_code 189 = .ok (.iconst 0, 1) := by decide +kernel
theorem xd_54_190 : decode prog_12_method_25_code 190 = .ok (.istore 4, 2) := by decide +kernel
theorem xd_54_192 : decode prog_12_method_25_code 192 = .ok (.iload 4, 2) := by decide +kernel
theorem xd_54_194 : decode prog_12_method_25_code 194 = .ok (.ifCond .eq (-74), 3) := by decide +kernel
theorem xd_54_197 : decode prog_12_method_25_code 197 = .ok (.aload_n 0, 1) := by decide +kernel
theorem xd_54_198 : decode prog_12_method_25_code 198 = .ok (.dup, 1) := by decide +kernel
theorem xd_54_199 : decode prog_12_method_25_code 199 = .ok (.getfield 82, 3) := by decide +kernel
theorem xd_54_202 : decode prog_12_method_25_code 202 = .ok (.iconst 1, 1) := by decide +kernel
theorem xd_54_203 : decode prog_12_method_25_code 203 = .ok (.iadd, 1) := by decide +kernel
theorem xd_54_204 : decode prog_12_method_25_code 204 = .ok (.putfield 82, 3) := by decide +kernel
theorem xd_54_207 : decode prog_12_method_25_code 207 = .ok (.goto (-87), 3) := by decide +kernel
theorem xd_54_210 : decode prog_12_method_25_code 210 = .ok (.aload_n 0, 1) := by decide +kernel
theorem xd_54_211 : decode prog_12_method_25_code 211 = .ok (.bipush 41, 2) := by decide +kernel
theorem xd_54_213 : decode prog_12_method_25_code 213 = .ok (.invokevirtual 110, 3) := by decide +kernel
theorem xd_54_216 : decode prog_12_method_25_code 216 = .ok (.aload_n 0, 1) := by decide +kernel
theorem xd_54_217 : decode prog_12_method_25_code 217 = .ok (.bipush 59, 2) := by decide +kernel
theorem xd_54_219 : decode prog_12_method_25_code 219 = .ok (.invokevirtual 110, 3) := by decide +kernel
theorem xd_54_222 : decode prog_12_method_25_code 222 = .ok (.aload_n 0, 1) := by decide +kernel
theorem xd_54_223 : decode prog_12_method_25_code 223 = .ok (.getfield 47, 3) := by decide +kernel
theorem xd_54_226 : decode prog_12_method_25_code 226 = .ok (.iload_n 1, 1) := by decide +kernel
theorem xd_54_227 : decode prog_12_method_25_code 227 = .ok (.iload_n 3, 1) := by decide +kernel
theorem xd_54_228 : decode prog_12_method_25_code 228 = .ok (.iastore, 1) := by decide +kernel
theorem xd_54_229 : decode prog_12_method_25_code 229 = .ok (.aload_n 0, 1) := by decide +kernel
theorem xd_54_230 : decode prog_12_method_25_code 230 = .ok (.getfield 35, 3) := by decide +kernel
theorem xd_54_233 : decode prog_12_method_25_code 233 = .ok (.iconst 1, 1) := by decide +kernel
theorem xd_54_234 : decode prog_12_method_25_code 234 = .ok (.dup2, 1) := by decide +kernel
theorem xd_54_235 : decode prog_12_method_25_code 235 = .ok (.iaload, 1) := by decide +kernel
theorem xd_54_236 : decode prog_12_method_25_code 236 = .ok (.iconst 1, 1) := by decide +kernel
theorem xd_54_237 : decode prog_12_method_25_code 237 = .ok (.iadd, 1) := by decide +kernel
theorem xd_54_238 : decode prog_12_method_25_code 238 = .ok (.iastore, 1) := by decide +kernel
theorem xd_54_239 : decode prog_12_method_25_code 239 = .ok (.return_, 1) := by decide +kernel
theorem xd_55_0 : decode prog_12_method_26_code 0 = .ok (.iconst 0, 1) := by decide +kernel
theorem xd_55_1 : decode prog_12_method_26_code 1 = .ok (.istore_n 2, 1) := by decide +kernel
theorem xd_55_2 : decode prog_12_method_26_code 2 = .ok (.bipush 8, 2) := by decide +kernel
theorem xd_55_4 : decode prog_12_method_26_code 4 = .ok (.iload_n 1, 1) := by decide +kernel
theorem xd_55_5 : decode prog_12_method_26_code 5 = .ok (.imul, 1) := by decide +kernel
theorem xd_55_6 : decode prog_12_method_26_code 6 = .ok (.istore_n 3, 1) := by decide +kernel
theorem xd_55_7 : decode prog_12_method_26_code 7 = .ok (.iload_n 3, 1) := by decide +kernel
theorem xd_55_8 : decode prog_12_method_26_code 8 = .ok (.bipush 8, 2) := by decide +kernel
theorem xd_55_10 : decode prog_12_method_26_code 10 = .ok (.iload_n 1, 1) := by decide +kernel
theorem xd_55_11 : decode prog_12_method_26_code 11 = .ok (.imul, 1) := by decide +kernel
theorem xd_55_12 : decode prog_12_method_26_code 12 = .ok (.aload_n 0, 1) := by decide +kernel
theorem xd_55_13 : decode prog_12_method_26_code 13 = .ok (.getfield 47, 3) := by decide +kernel
theorem xd_55_16 : decode prog_12_method_26_code 16 = .ok (.iload_n 1, 1) := by decide +kernel
theorem xd_55_17 : decode prog_12_method_26_code 17 = .ok (.iaload, 1) := by decide +kernel
theorem xd_55_18 : decode prog_12_method_26_code 18 = .ok (.iadd, 1) := by decide +kernel
theorem xd_55_19 : decode prog_12_method_26_code 19 = .ok (.if_icmp .ge 105, 3) := by decide +kernel
theorem xd_55_22 : decode prog_12_method_26_code 22 = .ok (.aload_n 0, 1) := by decide +kernel
theorem xd_55_23 : decode prog_12_method_26_code 23 = .ok (.getfield 50, 3) := by decide +kernel
theorem xd_55_26 : decode prog_12_method_26_code 26 = .ok (.iload_n 3, 1) := by decide +kernel
theorem xd_55_27 : decode prog_12_method_26_code 27 = .ok (.iaload, 1) := by decide +kernel
theorem xd_55_28 : decode prog_12_method_26_code 28 = .ok (.iconst 2, 1) := by decide +kernel
theorem xd_55_29 : decode prog_12_method_26_code 29 = .ok (.if_icmp .ne 28, 3) := by decide +kernel
theorem xd_55_32 : decode prog_12_method_26_code 32 = .ok (.iload_n 2, 1) := by decide +kernel
theorem xd_55_33 : decode prog_12_method_26_code 33 = .ok (.ifCond .ne 18, 3) := by decide +kernel
theorem xd_55_36 : decode prog_12_method_26_code 36 = .ok (.aload_n 0, 1) := by decide +kernel
theorem xd_55_37 : decode prog_12_method_26_code 37 = .ok (.iconst 1, 1) := by decide +kernel
theorem xd_55_38 : decode prog_12_method_26_code 38 = .ok (.aload_n 0, 1) := by decide +kernel
theorem xd_55_39 : decode prog_12_method_26_code 39 = .ok (.getfield 53, 3) := by decide +kernel
theorem xd_55_42 : decode prog_12_method_26_code 42 = .ok (.iload_n 3, 1) := by decide +kernel
theorem xd_55_43 : decode prog_12_method_26_code 43 = .ok (.iaload, 1) := by decide +kernel
theorem xd_55_44 : decode prog_12_method_26_code 44 = .ok (.invokevirtual 143, 3) := by decide +kernel
theorem xd_55_47 : decode prog_12_method_26_code 47 = .ok (.iconst (-1), 1) := by decide +kernel
theorem xd_55_48 : decode prog_12_method_26_code 48 = .ok (.if_icmp .ne 7, 3) := by decide +kernel
theorem xd_55_51 : decode prog_12_method_26_code 51 = .ok (.iconst 1, 1) := by decide +kernel
theorem xd_55_52 : decode prog_12_method_26_code 52 = .ok (.goto 4, 3) := by decide +kernel
theorem xd_55_55 : decode prog_12_method_26_code 55 = .ok (.iconst 0, 1) := by decide +kernel
theorem xd_55_56 : decode prog_12_method_26_code 56 = .ok (.istore_n 2, 1) := by decide +kernel
theorem xd_55_57 : decode prog_12_method_26_code 57 = .ok (.iconst 0, 1) := by decide +kernel
theorem xd_55_58 : decode prog_12_method_26_code 58 = .ok (.istore 4, 2) := by decide +kernel
theorem xd_55_60 : decode prog_12_method_26_code 60 = .ok (.iload 4, 2) := by decide +kernel
theorem xd_55_62 : decode prog_12_method_26_code 62 = .ok (.aload_n 0, 1) := by decide +kernel
theorem xd_55_63 : decode prog_12_method_26_code 63 = .ok (.getfield 53, 3) := by decide +kernel
theorem xd_55_66 : decode prog_12_method_26_code 66 = .ok (.iload_n 3, 1) := by decide +kernel
theorem xd_55_67 : decode prog_12_method_26_code 67 = .ok (.iaload, 1) := by decide +kernel
theorem xd_55_68 : decode prog_12_method_26_code 68 = .ok (.if_icmp .ge 50, 3) := by decide +kernel
theorem xd_55_71 : decode prog_12_method_26_code 71 = .ok (.aload_n 0, 1) := by decide +kernel
theorem xd_55_72 : decode prog_12_method_26_code 72 = .ok (.getfield 50, 3) := by decide +kernel
theorem xd_55_75 : decode prog_12_method_26_code 75 = .ok (.iload_n 3, 1) := by decide +kernel
theorem xd_55_76 : decode prog_12_method_26_code 76 = .ok (.iaload, 1) := by decide +kernel
theorem xd_55_77 : decode prog_12_method_26_code 77 = .ok (.iconst 4, 1) := by decide +kernel
theorem xd_55_78 : decode prog_12_method_26_code 78 = .ok (.if_icmp .ne 40, 3) := by decide +kernel
theorem xd_55_81 : decode prog_12_method_26_code 81 = .ok (.iload_n 2, 1) := by decide +kernel
theorem xd_55_82 : decode prog_12_method_26_code 82 = .ok (.ifCond .ne 24, 3) := by decide +kernel
theorem xd_55_85 : decode prog_12_method_26_code 85 = .ok (.aload_n 0, 1) := by decide +kernel
theorem xd_55_86 : decode prog_12_method_26_code 86 = .ok (.iconst 1, 1) := by decide +kernel
theorem xd_55_87 : decode prog_12_method_26_code 87 = .ok (.aload_n 0, 1) := by decide +kernel
theorem xd_55_88 : decode prog_12_method_26_code 88 = .ok (.getfield 56, 3) := by decide +kernel
theorem xd_55_91 : decode prog_12_method_26_code 91 = .ok (.bipush 20, 2) := by decide +kernel
theorem xd_55_93 : decode prog_12_method_26_code 93 = .ok (.iload_n 3, 1) := by decide +kernel
theorem xd_55_94 : decode prog_12_method_26_code 94 = .ok (.imul, 1) := by decide +kernel
theorem xd_55_95 : decode prog_12_method_26_code 95 = .ok (.iload 4, 2) := by decide +kernel
theorem xd_55_97 : decode prog_12_method_26_code 97 = .ok (.iadd, 1) := by decide +kernel
theorem xd_55_98 : decode prog_12_method_26_code 98 = .ok (.iaload, 1) := by decide +kernel
theorem xd_55_99 : decode prog_12_method_26_code 99 = .ok (.invokevirtual 143, 3) := by decide +kernel
theorem xd_55_102 : decode prog_12_method_26_code 102 = .ok (.iconst (-1), 1) := by decide +kernel
theorem xd_55_103 : decode prog_12_method_26_code 103 = .ok (.if_icmp .ne 7, 3) := by decide +kernel
theorem xd_55_106 : decode prog_12_method_26_code 106 = .ok (.iconst 1, 1) := by decide +kernel
theorem xd_55_107 : decode prog_12_method_26_code 107 = .ok (.goto 4, 3) := by decide +kernel
theorem xd_55_110 : decode prog_12_method_26_code 110 = .ok (.iconst 0, 1) := by decide +kernel
theorem xd_55_111 : decode prog_12_method_26_code 111 = .ok (.istore_n 2, 1) := by decide +kernel
theorem xd_55_112 : decode prog_12_method_26_code 112 = .ok (.iinc 4 1, 3) := by decide +kernel
theorem xd_55_115 : decode prog_12_method_26_code 115 = .ok (.goto (-55), 3) := by decide +kernel
theorem xd_55_118 : decode prog_12_method_26_code 118 = .ok (.iinc 3 1, 3) := by decide +kernel
theorem xd_55_121 : decode prog_12_method_26_code 121 = .ok (.goto (-114), 3) := by decide +kernel
theorem xd_55_124 : decode prog_12_method_26_code 124 = .ok (.iload_n 2, 1) := by decide +kernel
theorem xd_55_125 : decode prog_12_method_26_code 125 = .ok (.ireturn, 1) := by decide +kernel
theorem xd_56_0 : decode prog_12_method_27_code 0 = .ok (.aload_n 0, 1) := by decide +kernel
theorem xd_56_1 : decode prog_12_method_27_code 1 = .ok (.getfield 38, 3) := by decide +kernel
theorem xd_56_4 : decode prog_12_method_27_code 4 = .ok (.iload_n 1, 1) := by decide +kernel
theorem xd_56_5 : decode prog_12_method_27_code 5 = .ok (.aload_n 0, 1) := by decide +kernel
theorem xd_56_6 : decode prog_12_method_27_code 6 = .ok (.getfield 38, 3) := by decide +kernel
theorem xd_56_9 : decode prog_12_method_27_code 9 = .ok (.iload_n 2, 1) := by decide +kernel
theorem xd_56_10 : decode prog_12_method_27_code 10 = .ok (.iaload, 1) := by decide +kernel
theorem xd_56_11 : decode prog_12_method_27_code 11 = .ok (.iastore, 1) := by decide +kernel
theorem xd_56_12 : decode prog_12_method_27_code 12 = .ok (.aload_n 0, 1) := by decide +kernel
theorem xd_56_13 : decode prog_12_method_27_code 13 = .ok (.getfield 41, 3) := by decide +kernel
theorem xd_56_16 : decode prog_12_method_27_code 16 = .ok (.iload_n 1, 1) := by decide +kernel
theorem xd_56_17 : decode prog_12_method_27_code 17 = .ok (.aload_n 0, 1) := by decide +kernel
theorem xd_56_18 : decode prog_12_method_27_code 18 = .ok (.getfield 41, 3) := by decide +kernel
theorem xd_56_21 : decode prog_12_method_27_code 21 = .ok (.iload_n 2, 1) := by decide +kernel
theorem xd_56_22 : decode prog_12_method_27_code 22 = .ok (.iaload, 1) := by decide +kernel
theorem xd_56_23 : decode prog_12_method_27_code 23 = .ok (.iastore, 1) := by decide +kernel
theorem xd_56_24 : decode prog_12_method_27_code 24 = .ok (.aload_n 0, 1) := by decide +kernel
theorem xd_56_25 : decode prog_12_method_27_code 25 = .ok (.getfield 47, 3) := by decide +kernel
theorem xd_56_28 : decode prog_12_method_27_code 28 = .ok (.iload_n 1, 1) := by decide +kernel
theorem xd_56_29 : decode prog_12_method_27_code 29 = .ok (.aload_n 0, 1) := by decide +kernel
theorem xd_56_30 : decode prog_12_method_27_code 30 = .ok (.getfield 47, 3) := by decide +kernel
theorem xd_56_33 : decode prog_12_method_27_code 33 = .ok (.iload_n 2, 1) := by decide +kernel
theorem xd_56_34 : decode prog_12_method_27_code 34 = .ok (.iaload, 1) := by decide +kernel
theorem xd_56_35 : decode prog_12_method_27_code 35 = .ok (.iastore, 1) := by decide +kernel
theorem xd_56_36 : decode prog_12_method_27_code 36 = .ok (.iconst 0, 1) := by decide +kernel
theorem xd_56_37 : decode prog_12_method_27_code 37 = .ok (.istore_n 3, 1) := by decide +kernel
theorem xd_56_38 : decode prog_12_method_27_code 38 = .ok (.iload_n 3, 1) := by decide +kernel
theorem xd_56_39 : decode prog_12_method_27_code 39 = .ok (.bipush 8, 2) := by decide +kernel
theorem xd_56_41 : decode prog_12_method_27_code 41 = .ok (.if_icmp .ge 75, 3) := by decide +kernel
theorem xd_56_44 : decode prog_12_method_27_code 44 = .ok (.aload_n 0, 1) := by decide +kernel
theorem xd_56_45 : decode prog_12_method_27_code 45 = .ok (.getfield 44, 3) := by decide +kernel
theorem xd_56_48 : decode prog_12_method_27_code 48 = .ok (.bipush 8, 2) := by decide +kernel
theorem xd_56_50 : decode prog_12_method_27_code 50 = .ok (.iload_n 1, 1) := by decide +kernel
theorem xd_56_51 : decode prog_12_method_27_code 51 = .ok (.imul, 1) := by decide +kernel
theorem xd_56_52 : decode prog_12_method_27_code 52 = .ok (.iload_n 3, 1) := by decide +kernel
theorem xd_56_53 : decode prog_12_method_27_code 53 = .ok (.iadd, 1) := by decide +kernel
theorem xd_56_54 : decode prog_12_method_27_code 54 = .ok (.aload_n 0, 1) := by decide +kernel
theorem xd_56_55 : decode prog_12_method_27_code 55 = .ok (.getfield 44, 3) := by decide +kernel
theorem xd_56_58 : decode prog_12_method_27_code 58 = .ok (.bipush 8, 2) := by decide +kernel
theorem xd_56_60 : decode prog_12_method_27_code 60 = .ok (.iload_n 2, 1) := by decide +kernel
theorem xd_56_61 : decode prog_12_method_27_code 61 = .ok (.imul, 1) := by decide +kernel
theorem xd_56_62 : decode prog_12_method_27_code 62 = .ok (.iload_n 3, 1) := by decide +kernel
theorem xd_56_63 : decode prog_12_method_27_code 63 = .ok (.iadd, 1) := by decide +kernel
theorem xd_56_64 : decode prog_12_method_27_code 64 = .ok (.iaload, 1) := by decide +kernel
theorem xd_56_65 : decode prog_12_method_27_code 65 = .ok (.iastore, 1) := by decide +kernel
theorem xd_56_66 : decode prog_12_method_27_code 66 = .ok (.aload_n 0, 1) := by decide +kernel
theorem xd_56_67 : decode prog_12_method_27_code 67 = .ok (.getfield 50, 3) := by decide +kernel
theorem xd_56_70 : decode prog_12_method_27_code 70 = .ok (.bipush 8, 2) := by decide +kernel
theorem xd_56_72 : decode prog_12_method_27_code 72 = .ok (.iload_n 1, 1) := by decide +kernel
theorem xd_56_73 : decode prog_12_method_27_code 73 = .ok (.imul, 1) := by decide +kernel
theorem xd_56_74 : decode prog_12_method_27_code 74 = .ok (.iload_n 3, 1) := by decide +kernel
theorem xd_56_75 : decode prog_12_method_27_code 75 = .ok (.iadd, 1) := by decide +kernel
theorem xd_56_76 : decode prog_12_method_27_code 76 = .ok (.aload_n 0, 1) := by decide +kernel
theorem xd_56_77 : decode prog_12_method_27_code 77 = .ok (.getfield 50, 3) := by decide +kernel
theorem xd_56_80 : decode prog_12_method_27_code 80 = .ok (.bipush 8, 2) := by decide +kernel
theorem xd_56_82 : decode prog_12_method_27_code 82 = .ok (.iload_n 2, 1) := by decide +kernel
theorem xd_56_83 : decode prog_12_method_27_code 83 = .ok (.imul, 1) := by decide +kernel
theorem xd_56_84 : decode prog_12_method_27_code 84 = .ok (.iload_n 3, 1) := by decide +kernel
theorem xd_56_85 : decode prog_12_method_27_code 85 = .ok (.iadd, 1) := by decide +kernel
theorem xd_56_86 : decode prog_12_method_27_code 86 = .ok (.iaload, 1) := by decide +kernel
theorem xd_56_87 : decode prog_12_method_27_code 87 = .ok (.iastore, 1) := by decide +kernel
theorem xd_56_88 : decode prog_12_method_27_code 88 = .ok (.aload_n 0, 1) := by decide +kernel
theorem xd_56_89 : decode prog_12_method_27_code 89 = .ok (.getfield 53, 3) := by decide +kernel
theorem xd_56_92 : decode prog_12_method_27_code 92 = .ok (.bipush 8, 2) := by decide +kernel
theorem xd_56_94 : decode prog_12_method_27_code 94 = .ok (.iload_n 1, 1) := by decide +kernel
theorem xd_56_95 : decode prog_12_method_27_code 95 = .ok (.imul, 1) := by decide +kernel
theorem xd_56_96 : decode prog_12_method_27_code 96 = .ok (.iload_n 3, 1) := by decide +kernel
theorem xd_56_97 : decode prog_12_method_27_code 97 = .ok (.iadd, 1) := by decide +kernel
theorem xd_56_98 : decode prog_12_method_27_code 98 = .ok (.aload_n 0, 1) := by decide +kernel
theorem xd_56_99 : decode prog_12_method_27_code 99 = .ok (.getfield 53, 3) := by decide +kernel
theorem xd_56_102 : decode prog_12_method_27_code 102 = .ok (.bipush 8, 2) := by decide +kernel
theorem xd_56_104 : decode prog_12_method_27_code 104 = .ok (.iload_n 2, 1) := by decide +kernel
theorem xd_56_105 : decode prog_12_method_27_code 105 = .ok (.imul, 1) := by decide +kernel
theorem xd_56_106 : decode prog_12_method_27_code 106 = .ok (.iload_n 3, 1) := by decide +kernel
theorem xd_56_107 : decode prog_12_method_27_code 107 = .ok (.iadd, 1) := by decide +kernel
theorem xd_56_108 : decode prog_12_method_27_code 108 = .ok (.iaload, 1) := by decide +kernel
theorem xd_56_109 : decode prog_12_method_27_code 109 = .ok (.iastore, 1) := by decide +kernel
theorem xd_56_110 : decode prog_12_method_27_code 110 = .ok (.iinc 3 1, 3) := by decide +kernel
theorem xd_56_113 : decode prog_12_method_27_code 113 = .ok (.goto (-75), 3) := by decide +kernel
theorem xd_56_116 : decode prog_12_method_27_code 116 = .ok (.iconst 0, 1) := by decide +kernel
theorem xd_56_117 : decode prog_12_method_27_code 117 = .ok (.istore_n 3, 1) := by decide +kernel
theorem xd_56_118 : decode prog_12_method_27_code 118 = .ok (.iload_n 3, 1) := by decide +kernel
theorem xd_56_119 : decode prog_12_method_27_code 119 = .ok (.sipush 160, 3) := by decide +kernel
theorem xd_56_122 : decode prog_12_method_27_code 122 = .ok (.if_icmp .ge 33, 3) := by decide +kernel
theorem xd_56_125 : decode prog_12_method_27_code 125 = .ok (.aload_n 0, 1) := by decide +kernel
theorem xd_56_126 : decode prog_12_method_27_code 126 = .ok (.getfield 56, 3) := by decide +kernel
theorem xd_56_129 : decode prog_12_method_27_code 129 = .ok (.sipush 160, 3) := by decide +kernel
theorem xd_56_132 : decode prog_12_method_27_code 132 = .ok (.iload_n 1, 1) := by decide +kernel
theorem xd_56_133 : decode prog_12_method_27_code 133 = .ok (.imul, 1) := by decide +kernel
theorem xd_56_134 : decode prog_12_method_27_code 134 = .ok (.iload_n 3, 1) := by decide +kernel
theorem xd_56_135 : decode prog_12_method_27_code 135 = .ok (.iadd, 1) := by decide +kernel
theorem xd_56_136 : decode prog_12_method_27_code 136 = .ok (.aload_n 0, 1) := by decide +kernel
theorem xd_56_137 : decode prog_12_method_27_code 137 = .ok (.getfield 56, 3) := by decide +kernel
theorem xd_56_140 : decode prog_12_method_27_code 140 = .ok (.sipush 160, 3) := by decide +kernel
theorem xd_56_143 : decode prog_12_method_27_code 143 = .ok (.iload_n 2, 1) := by decide +kernel
theorem xd_56_144 : decode prog_12_method_27_code 144 = .ok (.imul, 1) := by decide +kernel
theorem xd_56_145 : decode prog_12_method_27_code 145 = .ok (.iload_n 3, 1) := by decide +kernel
theorem xd_56_146 : decode prog_12_method_27_code 146 = .ok (.iadd, 1) := by decide +kernel
theorem xd_56_147 : decode prog_12_method_27_code 147 = .ok (.iaload, 1) := by decide +kernel
theorem xd_56_148 : decode prog_12_method_27_code 148 = .ok (.iastore, 1) := by decide +kernel
theorem xd_56_149 : decode prog_12_method_27_code 149 = .ok (.iinc 3 1, 3) := by decide +kernel
theorem xd_56_152 : decode prog_12_method_27_code 152 = .ok (.goto (-34), 3) := by decide +kernel
theorem xd_56_155 : decode prog_12_method_27_code 155 = .ok (.return_, 1) := by decide +kernel
theorem xd_57_0 : decode prog_12_method_28_code 0 = .ok (.aload_n 0, 1) := by decide +kernel
theorem xd_57_1 : decode prog_12_method_28_code 1 = .ok (.iconst 0, 1) := by decide +kernel
theorem xd_57_2 : decode prog_12_method_28_code 2 = .ok (.putfield 69, 3) := by decide +kernel
theorem xd_57_5 : decode prog_12_method_28_code 5 = .ok (.aload_n 0, 1) := by decide +kernel
theorem xd_57_6 : decode prog_12_method_28_code 6 = .ok (.iconst 0, 1) := by decide +kernel
theorem xd_57_7 : decode prog_12_method_28_code 7 = .ok (.putfield 82, 3) := by decide +kernel
theorem xd_57_10 : decode prog_12_method_28_code 10 = .ok (.aload_n 0, 1) := by decide +kernel
theorem xd_57_11 : decode prog_12_method_28_code 11 = .ok (.iconst (-1), 1) := by decide +kernel
theorem xd_57_12 : decode prog_12_method_28_code 12 = .ok (.putfield 85, 3) := by decide +kernel
theorem xd_57_15 : decode prog_12_method_28_code 15 = .ok (.aload_n 0, 1) := by decide +kernel
theorem xd_57_16 : decode prog_12_method_28_code 16 = .ok (.getfield 35, 3) := by decide +kernel
theorem xd_57_19 : decode prog_12_method_28_code 19 = .ok (.iconst 1, 1) := by decide +kernel
theorem xd_57_20 : decode prog_12_method_28_code 20 = .ok (.iconst 0, 1) := by decide +kernel
theorem xd_57_21 : decode prog_12_method_28_code 21 = .ok (.iastore, 1) := by decide +kernel
theorem xd_57_22 : decode prog_12_method_28_code 22 = .ok (.aload_n 0, 1) := by decide +kernel
theorem xd_57_23 : decode prog_12_method_28_code 23 = .ok (.getfield 85, 3) := by decide +kernel
theorem xd_57_26 : decode prog_12_method_28_code 26 = .ok (.iconst (-1), 1) := by decide +kernel
theorem xd_57_27 : decode prog_12_method_28_code 27 = .ok (.if_icmp .ne 17, 3) := by decide +kernel
theorem xd_57_30 : decode prog_12_method_28_code 30 = .ok (.aload_n 0, 1) := by decide +kernel
theorem xd_57_31 : decode prog_12_method_28_code 31 = .ok (.invokevirtual 88, 3) := by decide +kernel
theorem xd_57_34 : decode prog_12_method_28_code 34 = .ok (.ifCond .eq 10, 3) := by decide +kernel
theorem xd_57_37 : decode prog_12_method_28_code 37 = .ok (.aload_n 0, 1) := by decide +kernel
theorem xd_57_38 : decode prog_12_method_28_code 38 = .ok (.invokevirtual 149, 3) := by decide +kernel
theorem xd_57_41 : decode prog_12_method_28_code 41 = .ok (.goto (-19), 3) := by decide +kernel
theorem xd_57_44 : decode prog_12_method_28_code 44 = .ok (.aload_n 0, 1) := by decide +kernel
theorem xd_57_45 : decode prog_12_method_28_code 45 = .ok (.getfield 85, 3) := by decide +kernel
theorem xd_57_48 : decode prog_12_method_28_code 48 = .ok (.iconst (-1), 1) := by decide +kernel
theorem xd_57_49 : decode prog_12_method_28_code 49 = .ok (.if_icmp .eq 10, 3) := by decide +kernel
theorem xd_57_52 : decode prog_12_method_28_code 52 = .ok (.iconst (-1), 1) := by decide +kernel
theorem xd_57_53 : decode prog_12_method_28_code 53 = .ok (.aload_n 0, 1) := by decide +kernel
theorem xd_57_54 : decode prog_12_method_28_code 54 = .ok (.getfield 85, 3) := by decide +kernel
theorem xd_57_57 : decode prog_12_method_28_code 57 = .ok (.isub, 1) := by decide +kernel
theorem xd_57_58 : decode prog_12_method_28_code 58 = .ok (.ireturn, 1) := by decide +kernel
theorem xd_57_59 : decode prog_12_method_28_code 59 = .ok (.bipush 40, 2) := by decide +kernel
theorem xd_57_61 : decode prog_12_method_28_code 61 = .ok (.istore_n 1, 1) := by decide +kernel
theorem xd_57_62 : decode prog_12_method_28_code 62 = .ok (.iload_n 1, 1) := by decide +kernel
theorem xd_57_63 : decode prog_12_method_28_code 63 = .ok (.bipush 40, 2) := by decide +kernel
theorem xd_57_65 : decode prog_12_method_28_code 65 = .ok (.aload_n 0, 1) := by decide +kernel
theorem xd_57_66 : decode prog_12_method_28_code 66 = .ok (.getfield 35, 3) := by decide +kernel
theorem xd_57_69 : decode prog_12_method_28_code 69 = .ok (.iconst 1, 1) := by decide +kernel
theorem xd_57_70 : decode prog_12_method_28_code 70 = .ok (.iaload, 1) := by decide +kernel
theorem xd_57_71 : decode prog_12_method_28_code 71 = .ok (.iadd, 1) := by decide +kernel
theorem xd_57_72 : decode prog_12_method_28_code 72 = .ok (.if_icmp .ge 28, 3) := by decide +kernel
theorem xd_57_75 : decode prog_12_method_28_code 75 = .ok (.aload_n 0, 1) := by decide +kernel
theorem xd_57_76 : decode prog_12_method_28_code 76 = .ok (.iload_n 1, 1) := by decide +kernel
theorem xd_57_77 : decode prog_12_method_28_code 77 = .ok (.invokevirtual 152, 3) := by decide +kernel
theorem xd_57_80 : decode prog_12_method_28_code 80 = .ok (.ifCond .eq 14, 3) := by decide +kernel
theorem xd_57_83 : decode prog_12_method_28_code 83 = .ok (.sipush (-10000), 3) := by decide +kernel
theorem xd_57_86 : decode prog_12_method_28_code 86 = .ok (.aload_n 0, 1) := by decide +kernel
theorem xd_57_87 : decode prog_12_method_28_code 87 = .ok (.getfield 38, 3) := by decide +kernel
theorem xd_57_90 : decode prog_12_method_28_code 90 = .ok (.iload_n 1, 1) := by decide +kernel
theorem xd_57_91 : decode prog_12_method_28_code 91 = .ok (.iaload, 1) := by decide +kernel
theorem xd_57_92 : decode prog_12_method_28_code 92 = .ok (.isub, 1) := by decide +kernel
theorem xd_57_93 : decode prog_12_method_28_code 93 = .ok (.ireturn, 1) := by decide +kernel
theorem xd_57_94 : decode prog_12_method_28_code 94 = .ok (.iinc 1 1, 3) := by decide +kernel
theorem xd_57_97 : decode prog_12_method_28_code 97 = .ok (.goto (-35), 3) := by decide +kernel
theorem xd_57_100 : decode prog_12_method_28_code 100 = .ok (.aload_n 0, 1) := by decide +kernel
theorem xd_57_101 : decode prog_12_method_28_code 101 = .ok (.getfield 35, 3) := by decide +kernel
theorem xd_57_104 : decode prog_12_method_28_code 104 = .ok (.iconst 0, 1) := by decide +kernel
theorem xd_57_105 : decode prog_12_method_28_code 105 = .ok (.aload_n 0, 1) := by decide +kernel
theorem xd_57_106 : decode prog_12_method_28_code 106 = .ok (.getfield 35, 3) := by decide +kernel
theorem xd_57_109 : decode prog_12_method_28_code 109 = .ok (.iconst 1, 1) := by decide +kernel
theorem xd_57_110 : decode prog_12_method_28_code 110 = .ok (.iaload, 1) := by decide +kernel
theorem xd_57_111 : decode prog_12_method_28_code 111 = .ok (.iastore, 1) := by decide +kernel
theorem xd_57_112 : decode prog_12_method_28_code 112 = .ok (.bipush 40, 2) := by decide +kernel
theorem xd_57_114 : decode prog_12_method_28_code 114 = .ok (.istore_n 1, 1) := by decide +kernel
theorem xd_57_115 : decode prog_12_method_28_code 115 = .ok (.iload_n 1, 1) := by decide +kernel
theorem xd_57_116 : decode prog_12_method_28_code 116 = .ok (.bipush 40, 2) := by decide +kernel
theorem xd_57_118 : decode prog_12_method_28_code 118 = .ok (.aload_n 0, 1) := by decide +kernel
theorem xd_57_119 : decode prog_12_method_28_code 119 = .ok (.getfield 35, 3) := by decide +kernel
theorem xd_57_122 : decode prog_12_method_28_code 122 = .ok (.iconst 1, 1) := by decide +kernel
theorem xd_57_123 : decode prog_12_method_28_code 123 = .ok (.iaload, 1) := by decide +kernel
theorem xd_57_124 : decode prog_12_method_28_code 124 = .ok (.iadd, 1) := by decide +kernel
theorem xd_57_125 : decode prog_12_method_28_code 125 = .ok (.if_icmp .ge 62, 3) := by decide +kernel
theorem xd_57_128 : decode prog_12_method_28_code 128 = .ok (.iconst 0, 1) := by decide +kernel
theorem xd_57_129 : decode prog_12_method_28_code 129 = .ok (.istore_n 2, 1) := by decide +kernel
theorem xd_57_130 : decode prog_12_method_28_code 130 = .ok (.bipush 40, 2) := by decide +kernel
theorem xd_57_132 : decode prog_12_method_28_code 132 = .ok (.istore_n 3, 1) := by decide +kernel
theorem xd_57_133 : decode prog_12_method_28_code 133 = .ok (.iload_n 3, 1) := by decide +kernel
theorem xd_57_134 : decode prog_12_method_28_code 134 = .ok (.bipush 40, 2) := by decide +kernel
theorem xd_57_136 : decode prog_12_method_28_code 136 = .ok (.aload_n 0, 1) := by decide +kernel
theorem xd_57_137 : decode prog_12_method_28_code 137 = .ok (.getfield 35, 3) := by decide +kernel
theorem xd_57_140 : decode prog_12_method_28_code 140 = .ok (.iconst 1, 1) := by decide +kernel
theorem xd_57_141 : decode prog_12_method_28_code 141 = .ok (.iaload, 1) := by decide +kernel
theorem xd_57_142 : decode prog_12_method_28_code 142 = .ok (.iadd, 1) := by decide +kernel
theorem xd_57_143 : decode prog_12_method_28_code 143 = .ok (.if_icmp .ge 32, 3) := by decide +kernel
theorem xd_57_146 : decode prog_12_method_28_code 146 = .ok (.iload_n 2, 1) := by decide +kernel
theorem xd_57_147 : decode prog_12_method_28_code 147 = .ok (.aload_n 0, 1) := by decide +kernel
theorem xd_57_148 : decode prog_12_method_28_code 148 = .ok (.getfield 38, 3) := by decide +kernel
theorem xd_57_151 : decode prog_12_method_28_code 151 = .ok (.iload_n 3, 1) := by decide +kernel
theorem xd_57_152 : decode prog_12_method_28_code 152 = .ok (.iaload, 1) := by decide +kernel
theorem xd_57_153 : decode prog_12_method_28_code 153 = .ok (.aload_n 0, 1) := by decide +kernel
theorem xd_57_154 : decode prog_12_method_28_code 154 = .ok (.getfield 38, 3) := by decide +kernel
theorem xd_57_157 : decode prog_12_method_28_code 157 = .ok (.iload_n 1, 1) := by decide +kernel
theorem xd_57_158 : decode prog_12_method_28_code 158 = .ok (.iaload, 1) := by decide +kernel
theorem xd_57_159 : decode prog_12_method_28_code 159 = .ok (.if_icmp .ge 7, 3) := by decide +kernel
theorem xd_57_162 : decode prog_12_method_28_code 162 = .ok (.iconst 1, 1) := by decide +kernel
theorem xd_57_163 : decode prog_12_method_28_code 163 = .ok (.goto 4, 3) := by decide +kernel
theorem xd_57_166 : decode prog_12_method_28_code 166 = .ok (.iconst 0, 1) := by decide +kernel
theorem xd_57_167 : decode prog_12_method_28_code 167 = .ok (.iadd, 1) := by decide +kernel
theorem xd_57_168 : decode prog_12_method_28_code 168 = .ok (.istore_n 2, 1) := by decide +kernel
theorem xd_57_169 : decode prog_12_method_28_code 169 = .ok (.iinc 3 1, 3) := by decide +kernel
theorem xd_57_172 : decode prog_12_method_28_code 172 = .ok (.goto (-39), 3) := by decide +kernel
theorem xd_57_175 : decode prog_12_method_28_code 175 = .ok (.aload_n 0, 1) := by decide +kernel
theorem xd_57_176 : decode prog_12_method_28_code 176 = .ok (.iload_n 2, 1) := by decide +kernel
theorem xd_57_177 : decode prog_12_method_28_code 177 = .ok (.iload_n 1, 1) := by decide +kernel
theorem xd_57_178 : decode prog_12_method_28_code 178 = .ok (.invokevirtual 155, 3) := by decide +kernel
theorem xd_57_181 : decode prog_12_method_28_code 181 = .ok (.iinc 1 1, 3) := by decide +kernel
theorem xd_57_184 : decode prog_12_method_28_code 184 = .ok (.goto (-69), 3) := by decide +kernel
theorem xd_57_187 : decode prog_12_method_28_code 187 = .ok (.aload_n 0, 1) := by decide +kernel
theorem xd_57_188 : decode prog_12_method_28_code 188 = .ok (.iconst 0, 1) := by decide +kernel
theorem xd_57_189 : decode prog_12_method_28_code 189 = .ok (.putfield 79, 3) := by decide +kernel
theorem xd_57_192 : decode prog_12_method_28_code 192 = .ok (.aload_n 0, 1) := by decide +kernel
theorem xd_57_193 : decode prog_12_method_28_code 193 = .ok (.getfield 35, 3) := by decide +kernel
theorem xd_57_196 : decode prog_12_method_28_code 196 = .ok (.iconst 0, 1) := by decide +kernel
theorem xd_57_197 : decode prog_12_method_28_code 197 = .ok (.iaload, 1) := by decide +kernel
theorem xd_57_198 : decode prog_12_method_28_code 198 = .ok (.ireturn, 1) := by decide +kernel
theorem xd_58_0 : decode prog_12_method_29_code 0 = .ok (.aload_n 0, 1) := by decide +kernel
theorem xd_58_1 : decode prog_12_method_29_code 1 = .ok (.getfield 159, 3) := by decide +kernel
theorem xd_58_4 : decode prog_12_method_29_code 4 = .ok (.sipush 1200, 3) := by decide +kernel
theorem xd_58_7 : decode prog_12_method_29_code 7 = .ok (.if_icmp .ge 13, 3) := by decide +kernel
theorem xd_58_10 : decode prog_12_method_29_code 10 = .ok (.aload_n 0, 1) := by decide +kernel
theorem xd_58_11 : decode prog_12_method_29_code 11 = .ok (.getfield 13, 3) := by decide +kernel
theorem xd_58_14 : decode prog_12_method_29_code 14 = .ok (.aload_n 0, 1) := by decide +kernel
theorem xd_58_15 : decode prog_12_method_29_code 15 = .ok (.getfield 159, 3) := by decide +kernel
theorem xd_58_18 : decode prog_12_method_29_code 18 = .ok (.iload_n 1, 1) := by decide +kernel
theorem xd_58_19 : decode prog_12_method_29_code 19 = .ok (.iastore, 1) := by decide +kernel
theorem xd_58_20 : decode prog_12_method_29_code 20 = .ok (.aload_n 0, 1) := by decide +kernel
theorem xd_58_21 : decode prog_12_method_29_code 21 = .ok (.dup, 1) := by decide +kernel
theorem xd_58_22 : decode prog_12_method_29_code 22 = .ok (.getfield 159, 3) := by decide +kernel
theorem xd_58_25 : decode prog_12_method_29_code 25 = .ok (.iconst 1, 1) := by decide +kernel
theorem xd_58_26 : decode prog_12_method_29_code 26 = .ok (.iadd, 1) := by decide +kernel
theorem xd_58_27 : decode prog_12_method_29_code 27 = .ok (.putfield 159, 3) := by decide +kernel
theorem xd_58_30 : decode prog_12_method_29_code 30 = .ok (.return_, 1) := by decide +kernel
theorem xd_59_0 : decode prog_12_method_30_code 0 = .ok (.iload_n 1, 1) := by decide +kernel
theorem xd_59_1 : decode prog_12_method_30_code 1 = .ok (.ifCond .ge 9, 3) := by decide +kernel
theorem xd_59_4 : decode prog_12_method_30_code 4 = .ok (.aload_n 0, 1) := by decide +kernel
theorem xd_59_5 : decode prog_12_method_30_code 5 = .ok (.bipush 45, 2) := by decide +kernel
theorem xd_59_7 : decode prog_12_method_30_code 7 = .ok (.invokevirtual 162, 3) := by decide +kernel
theorem xd_59_10 : decode prog_12_method_30_code 10 = .ok (.iload_n 1, 1) := by decide +kernel
theorem xd_59_11 : decode prog_12_method_30_code 11 = .ok (.ifCond .ge 8, 3) := by decide +kernel
theorem xd_59_14 : decode prog_12_method_30_code 14 = .ok (.iload_n 1, 1) := by decide +kernel
theorem xd_59_15 : decode prog_12_method_30_code 15 = .ok (.ineg, 1) := by decide +kernel
theorem xd_59_16 : decode prog_12_method_30_code 16 = .ok (.goto 4, 3) := by decide +kernel
theorem xd_59_19 : decode prog_12_method_30_code 19 = .ok (.iload_n 1, 1) := by decide +kernel
theorem xd_59_20 : decode prog_12_method_30_code 20 = .ok (.istore_n 2, 1) := by decide +kernel
theorem xd_59_21 : decode prog_12_method_30_code 21 = .ok (.iconst 1, 1) := by decide +kernel
theorem xd_59_22 : decode prog_12_method_30_code 22 = .ok (.istore_n 3, 1) := by decide +kernel
theorem xd_59_23 : decode prog_12_method_30_code 23 = .ok (.iload_n 2, 1) := by decide +kernel
theorem xd_59_24 : decode prog_12_method_30_code 24 = .ok (.iload_n 3, 1) := by decide +kernel
theorem xd_59_25 : decode prog_12_method_30_code 25 = .ok (.idiv, 1) := by decide +kernel
theorem xd_59_26 : decode prog_12_method_30_code 26 = .ok (.bipush 9, 2) := by decide +kernel
theorem xd_59_28 : decode prog_12_method_30_code 28 = .ok (.if_icmp .le 11, 3) := by decide +kernel
theorem xd_59_31 : decode prog_12_method_30_code 31 = .ok (.bipush 10, 2) := by decide +kernel
theorem xd_59_33 : decode prog_12_method_30_code 33 = .ok (.iload_n 3, 1) := by decide +kernel
theorem xd_59_34 : decode prog_12_method_30_code 34 = .ok (.imul, 1) := by decide +kernel
theorem xd_59_35 : decode prog_12_method_30_code 35 = .ok (.istore_n 3, 1) := by decide +kernel
theorem xd_59_36 : decode prog_12_method_30_code 36 = .ok (.goto (-13), 3) := by decide +kernel
theorem xd_59_39 : decode prog_12_method_30_code 39 = .ok (.iload_n 3, 1) := by decide +kernel
theorem xd_59_40 : decode prog_12_method_30_code 40 = .ok (.ifCond .le 24, 3) := by decide +kernel
theorem xd_59_43 : decode prog_12_method_30_code 43 = .ok (.aload_n 0, 1) := by decide +kernel
theorem xd_59_44 : decode prog_12_method_30_code 44 = .ok (.bipush 48, 2) := by decide +kernel
theorem xd_59_46 : decode prog_12_method_30_code 46 = .ok (.iload_n 2, 1) := by decide +kernel
theorem xd_59_47 : decode prog_12_method_30_code 47 = .ok (.iload_n 3, 1) := by decide +kernel
theorem xd_59_48 : decode prog_12_method_30_code 48 = .ok (.idiv, 1) := by decide +kernel
theorem xd_59_49 : decode prog_12_method_30_code 49 = .ok (.bipush 10, 2) := by decide +kernel
theorem xd_59_51 : decode prog_12_method_30_code 51 = .ok (.irem, 1) := by decide +kernel
theorem xd_59_52 : decode prog_12_method_30_code 52 = .ok (.iadd, 1) := by decide +kernel
theorem xd_59_53 : decode prog_12_method_30_code 53 = .ok (.invokevirtual 162, 3) := by decide +kernel
theorem xd_59_56 : decode prog_12_method_30_code 56 = .ok (.iload_n 3, 1) := by decide +kernel
theorem xd_59_57 : decode prog_12_method_30_code 57 = .ok (.bipush 10, 2) := by decide +kernel
theorem xd_59_59 : decode prog_12_method_30_code 59 = .ok (.idiv, 1) := by decide +kernel
theorem xd_59_60 : decode prog_12_method_30_code 60 = .ok (.istore_n 3, 1) := by decide +kernel
theorem xd_59_61 : decode prog_12_method_30_code 61 = .ok (.goto (-22), 3) := by decide +kernel
theorem xd_59_64 : decode prog_12_method_30_code 64 = .ok (.return_, 1) := by decide +kernel
theorem xd_60_0 : decode prog_12_method_31_code 0 = .ok (.aload_n 0, 1) := by decide +kernel
theorem xd_60_1 : decode prog_12_method_31_code 1 = .ok (.getfield 50, 3) := by decide +kernel
theorem xd_60_4 : decode prog_12_method_31_code 4 = .ok (.iload_n 1, 1) := by decide +kernel
theorem xd_60_5 : decode prog_12_method_31_code 5 = .ok (.iaload, 1) := by decide +kernel
theorem xd_60_6 : decode prog_12_method_31_code 6 = .ok (.tableswitch 192 0 6 #[42, 55, 116, 192, 192, 135, 183], 42) := by decide +kernel
theorem xd_60_48 : decode prog_12_method_31_code 48 = .ok (.aload_n 0, 1) := by decide +kernel
theorem xd_60_49 : decode prog_12_method_31_code 49 = .ok (.aload_n 0, 1) := by decide +kernel
theorem xd_60_50 : decode prog_12_method_31_code 50 = .ok (.getfield 53, 3) := by decide +kernel
theorem xd_60_53 : decode prog_12_method_31_code 53 = .ok (.iload_n 1, 1) := by decide +kernel
theorem xd_60_54 : decode prog_12_method_31_code 54 = .ok (.iaload, 1) := by decide +kernel
theorem xd_60_55 : decode prog_12_method_31_code 55 = .ok (.invokevirtual 165, 3) := by decide +kernel
theorem xd_60_58 : decode prog_12_method_31_code 58 = .ok (.goto 211, 3) := by decide +kernel
theorem xd_60_61 : decode prog_12_method_31_code 61 = .ok (.aload_n 0, 1) := by decide +kernel
theorem xd_60_62 : decode prog_12_method_31_code 62 = .ok (.bipush 39, 2) := by decide +kernel
theorem xd_60_64 : decode prog_12_method_31_code 64 = .ok (.invokevirtual 162, 3) := by decide +kernel
theorem xd_60_67 : decode prog_12_method_31_code 67 = .ok (.iconst 0, 1) := by decide +kernel
theorem xd_60_68 : decode prog_12_method_31_code 68 = .ok (.istore_n 2, 1) := by decide +kernel
theorem xd_60_69 : decode prog_12_method_31_code 69 = .ok (.iload_n 2, 1) := by decide +kernel
theorem xd_60_70 : decode prog_12_method_31_code 70 = .ok (.aload_n 0, 1) := by decide +kernel
theorem xd_60_71 : decode prog_12_method_31_code 71 = .ok (.getfield 53, 3) := by decide +kernel
theorem xd_60_74 : decode prog_12_method_31_code 74 = .ok (.iload_n 1, 1) := by decide +kernel
theorem xd_60_75 : decode prog_12_method_31_code 75 = .ok (.iaload, 1) := by decide +kernel
theorem xd_60_76 : decode prog_12_method_31_code 76 = .ok (.if_icmp .ge 37, 3) := by decide +kernel
theorem xd_60_79 : decode prog_12_method_31_code 79 = .ok (.aload_n 0, 1) := by decide +kernel
theorem xd_60_80 : decode prog_12_method_31_code 80 = .ok (.getfield 56, 3) := by decide +kernel
theorem xd_60_83 : decode prog_12_method_31_code 83 = .ok (.bipush 20, 2) := by decide +kernel
theorem xd_60_85 : decode prog_12_method_31_code 85 = .ok (.iload_n 1, 1) := by decide +kernel
theorem xd_60_86 : decode prog_12_method_31_code 86 = .ok (.imul, 1) := by decide +kernel
theorem xd_60_87 : decode prog_12_method_31_code 87 = .ok (.iload_n 2, 1) := by decide +kernel
theorem xd_60_88 : decode prog_12_method_31_code 88 = .ok (.iadd, 1) := by decide +kernel
theorem xd_60_89 : decode prog_12_method_31_code 89 = .ok (.iaload, 1) := by decide +kernel
theorem xd_60_90 : decode prog_12_method_31_code 90 = .ok (.istore_n 3, 1) := by decide +kernel
theorem xd_60_91 : decode prog_12_method_31_code 91 = .ok (.aload_n 0, 1) := by decide +kernel
theorem xd_60_92 : decode prog_12_method_31_code 92 = .ok (.iload_n 3, 1) := by decide +kernel
theorem xd_60_93 : decode prog_12_method_31_code 93 = .ok (.invokevirtual 162, 3) := by decide +kernel
theorem xd_60_96 : decode prog_12_method_31_code 96 = .ok (.iload_n 3, 1) := by decide +kernel
theorem xd_60_97 : decode prog_12_method_31_code 97 = .ok (.bipush 39, 2) := by decide +kernel
theorem xd_60_99 : decode prog_12_method_31_code 99 = .ok (.if_icmp .ne 8, 3) := by decide +kernel
theorem xd_60_102 : decode prog_12_method_31_code 102 = .ok (.aload_n 0, 1) := by decide +kernel
theorem xd_60_103 : decode prog_12_method_31_code 103 = .ok (.iload_n 3, 1) := by decide +kernel
theorem xd_60_104 : decode prog_12_method_31_code 104 = .ok (.invokevirtual 162, 3) := by decide +kernel
theorem xd_60_107 : decode prog_12_method_31_code 107 = .ok (.iinc 2 1, 3) := by decide +kernel
theorem xd_60_110 : decode prog_12_method_31_code 110 = .ok (.goto (-41), 3) := by decide +kernel
theorem xd_60_113 : decode prog_12_method_31_code 113 = .ok (.aload_n 0, 1) := by decide +kernel
theorem xd_60_114 : decode prog_12_method_31_code 114 = .ok (.bipush 39, 2) := by decide +kernel
theorem xd_60_116 : decode prog_12_method_31_code 116 = .ok (.invokevirtual 162, 3) := by decide +kernel
theorem xd_60_119 : decode prog_12_method_31_code 119 = .ok (.goto 150, 3) := by decide +kernel
theorem xd_60_122 : decode prog_12_method_31_code 122 = .ok (.aload_n 0, 1) := by decide +kernel
theorem xd_60_123 : decode prog_12_method_31_code 123 = .ok (.bipush 35, 2) := by decide +kernel
theorem xd_60_125 : decode prog_12_method_31_code 125 = .ok (.invokevirtual 162, 3) := by decide +kernel
theorem xd_60_128 : decode prog_12_method_31_code 128 = .ok (.aload_n 0, 1) := by decide +kernel
theorem xd_60_129 : decode prog_12_method_31_code 129 = .ok (.aload_n 0, 1) := by decide +kernel
theorem xd_60_130 : decode prog_12_method_31_code 130 = .ok (.getfield 53, 3) := by decide +kernel
theorem xd_60_133 : decode prog_12_method_31_code 133 = .ok (.iload_n 1, 1) := by decide +kernel
theorem xd_60_134 : decode prog_12_method_31_code 134 = .ok (.iaload, 1) := by decide +kernel
theorem xd_60_135 : decode prog_12_method_31_code 135 = .ok (.invokevirtual 165, 3) := by decide +kernel
theorem xd_60_138 : decode prog_12_method_31_code 138 = .ok (.goto 131, 3) := by decide +kernel
theorem xd_60_141 : decode prog_12_method_31_code 141 = .ok (.aload_n 0, 1) := by decide +kernel
theorem xd_60_142 : decode prog_12_method_31_code 142 = .ok (.bipush 46, 2) := by decide +kernel
theorem xd_60_144 : decode prog_12_method_31_code 144 = .ok (.invokevirtual 162, 3) := by decide +kernel
theorem xd_60_147 : decode prog_12_method_31_code 147 = .ok (.iconst 0, 1) := by decide +kernel
theorem xd_60_148 : decode prog_12_method_31_code 148 = .ok (.istore_n 2, 1) := by decide +kernel
theorem xd_60_149 : decode prog_12_method_31_code 149 = .ok (.iload_n 2, 1) := by decide +kernel
theorem xd_60_150 : decode prog_12_method_31_code 150 = .ok (.aload_n 0, 1) := by decide +kernel
theorem xd_60_151 : decode prog_12_method_31_code 151 = .ok (.getfield 53, 3) := by decide +kernel
theorem xd_60_154 : decode prog_12_method_31_code 154 = .ok (.iload_n 1, 1) := by decide +kernel
theorem xd_60_155 : decode prog_12_method_31_code 155 = .ok (.iaload, 1) := by decide +kernel
theorem xd_60_156 : decode prog_12_method_31_code 156 = .ok (.if_icmp .ge 24, 3) := by decide +kernel
theorem xd_60_159 : decode prog_12_method_31_code 159 = .ok (.aload_n 0, 1) := by decide +kernel
theorem xd_60_160 : decode prog_12_method_31_code 160 = .ok (.aload_n 0, 1) := by decide +kernel
theorem xd_60_161 : decode prog_12_method_31_code 161 = .ok (.getfield 56, 3) := by decide +kernel
theorem xd_60_164 : decode prog_12_method_31_code 164 = .ok (.bipush 20, 2) := by decide +kernel
theorem xd_60_166 : decode prog_12_method_31_code 166 = .ok (.iload_n 1, 1) := by decide +kernel
theorem xd_60_167 : decode prog_12_method_31_code 167 = .ok (.imul, 1) := by decide +kernel
theorem xd_60_168 : decode prog_12_method_31_code 168 = .ok (.iload_n 2, 1) := by decide +kernel
theorem xd_60_169 : decode prog_12_method_31_code 169 = .ok (.iadd, 1) := by decide +kernel
theorem xd_60_170 : decode prog_12_method_31_code 170 = .ok (.iaload, 1) := by decide +kernel
theorem xd_60_171 : decode prog_12_method_31_code 171 = .ok (.invokevirtual 162, 3) := by decide +kernel
theorem xd_60_174 : decode prog_12_method_31_code 174 = .ok (.iinc 2 1, 3) := by decide +kernel
theorem xd_60_177 : decode prog_12_method_31_code 177 = .ok (.goto (-28), 3) := by decide +kernel
theorem xd_60_180 : decode prog_12_method_31_code 180 = .ok (.aload_n 0, 1) := by decide +kernel
theorem xd_60_181 : decode prog_12_method_31_code 181 = .ok (.bipush 46, 2) := by decide +kernel
theorem xd_60_183 : decode prog_12_method_31_code 183 = .ok (.invokevirtual 162, 3) := by decide +kernel
theorem xd_60_186 : decode prog_12_method_31_code 186 = .ok (.goto 83, 3) := by decide +kernel
theorem xd_60_189 : decode prog_12_method_31_code 189 = .ok (.aload_n 0, 1) := by decide +kernel
theorem xd_60_190 : decode prog_12_method_31_code 190 = .ok (.bipush 36, 2) := by decide +kernel
theorem xd_60_192 : decode prog_12_method_31_code 192 = .ok (.invokevirtual 162, 3) := by decide +kernel
theorem xd_60_195 : decode prog_12_method_31_code 195 = .ok (.goto 74, 3) := by decide +kernel
theorem xd_60_198 : decode prog_12_method_31_code 198 = .ok (.aload_n 0, 1) := by decide +kernel
theorem xd_60_199 : decode prog_12_method_31_code 199 = .ok (.bipush 40, 2) := by decide +kernel
theorem xd_60_201 : decode prog_12_method_31_code 201 = .ok (.invokevirtual 162, 3) := by decide +kernel
theorem xd_60_204 : decode prog_12_method_31_code 204 = .ok (.iconst 0, 1) := by decide +kernel
theorem xd_60_205 : decode prog_12_method_31_code 205 = .ok (.istore_n 2, 1) := by decide +kernel
theorem xd_60_206 : decode prog_12_method_31_code 206 = .ok (.iload_n 2, 1) := by decide +kernel
theorem xd_60_207 : decode prog_12_method_31_code 207 = .ok (.aload_n 0, 1) := by decide +kernel
theorem xd_60_208 : decode prog_12_method_31_code 208 = .ok (.getfield 53, 3) := by decide +kernel
theorem xd_60_211 : decode prog_12_method_31_code 211 = .ok (.iload_n 1, 1) := by decide +kernel
theorem xd_60_212 : decode prog_12_method_31_code 212 = .ok (.iaload, 1) := by decide +kernel
theorem xd_60_213 : decode prog_12_method_31_code 213 = .ok (.if_icmp .ge 50, 3) := by decide +kernel
theorem xd_60_216 : decode prog_12_method_31_code 216 = .ok (.iload_n 2, 1) := by decide +kernel
theorem xd_60_217 : decode prog_12_method_31_code 217 = .ok (.ifCond .le 9, 3) := by decide +kernel
theorem xd_60_220 : decode prog_12_method_31_code 220 = .ok (.aload_n 0, 1) := by decide +kernel
theorem xd_60_221 : decode prog_12_method_31_code 221 = .ok (.bipush 44, 2) := by decide +kernel
theorem xd_60_223 : decode prog_12_method_31_code 223 = .ok (.invokevirtual 162, 3) := by decide +kernel
theorem xd_60_226 : decode prog_12_method_31_code 226 = .ok (.aload_n 0, 1) := by decide +kernel
theorem xd_60_227 : decode prog_12_method_31_code 227 = .ok (.getfield 50, 3) := by decide +kernel
theorem xd_60_230 : decode prog_12_method_31_code 230 = .ok (.iload_n 1, 1) := by decide +kernel
theorem xd_60_231 : decode prog_12_method_31_code 231 = .ok (.iaload, 1) := by decide +kernel
theorem xd_60_232 : decode prog_12_method_31_code 232 = .ok (.iconst 4, 1) := by decide +kernel
theorem xd_60_233 : decode prog_12_method_31_code 233 = .ok (.if_icmp .ne 9, 3) := by decide +kernel
theorem xd_60_236 : decode prog_12_method_31_code 236 = .ok (.aload_n 0, 1) := by decide +kernel
theorem xd_60_237 : decode prog_12_method_31_code 237 = .ok (.bipush 35, 2) := by decide +kernel
theorem xd_60_239 : decode prog_12_method_31_code 239 = .ok (.invokevirtual 162, 3) := by decide +kernel
theorem xd_60_242 : decode prog_12_method_31_code 242 = .ok (.aload_n 0, 1) := by decide +kernel
theorem xd_60_243 : decode prog_12_method_31_code 243 = .ok (.aload_n 0, 1) := by decide +kernel
theorem xd_60_244 : decode prog_12_method_31_code 244 = .ok (.getfield 56, 3) := by decide +kernel
theorem xd_60_247 : decode prog_12_method_31_code 247 = .ok (.bipush 20, 2) := by decide +kernel
theorem xd_60_249 : decode prog_12_method_31_code 249 = .ok (.iload_n 1, 1) := by decide +kernel
theorem xd_60_250 : decode prog_12_method_31_code 250 = .ok (.imul, 1) := by decide +kernel
theorem xd_60_251 : decode prog_12_method_31_code 251 = .ok (.iload_n 2, 1) := by decide +kernel
theorem xd_60_252 : decode prog_12_method_31_code 252 = .ok (.iadd, 1) := by decide +kernel
theorem xd_60_253 : decode prog_12_method_31_code 253 = .ok (.iaload, 1) := by decide +kernel
theorem xd_60_254 : decode prog_12_method_31_code 254 = .ok (.invokevirtual 165, 3) := by decide +kernel
theorem xd_60_257 : decode prog_12_method_31_code 257 = .ok (.iinc 2 1, 3) := by decide +kernel
theorem xd_60_260 : decode prog_12_method_31_code 260 = .ok (.goto (-54), 3) := by decide +kernel
theorem xd_60_263 : decode prog_12_method_31_code 263 = .ok (.aload_n 0, 1) := by decide +kernel
theorem xd_60_264 : decode prog_12_method_31_code 264 = .ok (.bipush 41, 2) := by decide +kernel
theorem xd_60_266 : decode prog_12_method_31_code 266 = .ok (.invokevirtual 162, 3) := by decide +kernel
theorem xd_60_269 : decode prog_12_method_31_code 269 = .ok (.return_, 1) := by decide +kernel
theorem xd_61_0 : decode prog_12_method_32_code 0 = .ok (.aload_n 0, 1) := by decide +kernel
theorem xd_61_1 : decode prog_12_method_32_code 1 = .ok (.iconst 0, 1) := by decide +kernel
theorem xd_61_2 : decode prog_12_method_32_code 2 = .ok (.putfield 69, 3) := by decide +kernel
theorem xd_61_5 : decode prog_12_method_32_code 5 = .ok (.aload_n 0, 1) := by decide +kernel
theorem xd_61_6 : decode prog_12_method_32_code 6 = .ok (.iconst 0, 1) := by decide +kernel
theorem xd_61_7 : decode prog_12_method_32_code 7 = .ok (.putfield 159, 3) := by decide +kernel
theorem xd_61_10 : decode prog_12_method_32_code 10 = .ok (.iconst 0, 1) := by decide +kernel
theorem xd_61_11 : decode prog_12_method_32_code 11 = .ok (.istore_n 1, 1) := by decide +kernel
theorem xd_61_12 : decode prog_12_method_32_code 12 = .ok (.iload_n 1, 1) := by decide +kernel
theorem xd_61_13 : decode prog_12_method_32_code 13 = .ok (.aload_n 0, 1) := by decide +kernel
theorem xd_61_14 : decode prog_12_method_32_code 14 = .ok (.getfield 35, 3) := by decide +kernel
theorem xd_61_17 : decode prog_12_method_32_code 17 = .ok (.iconst 0, 1) := by decide +kernel
theorem xd_61_18 : decode prog_12_method_32_code 18 = .ok (.iaload, 1) := by decide +kernel
theorem xd_61_19 : decode prog_12_method_32_code 19 = .ok (.if_icmp .ge 120, 3) := by decide +kernel
theorem xd_61_22 : decode prog_12_method_32_code 22 = .ok (.aload_n 0, 1) := by decide +kernel
theorem xd_61_23 : decode prog_12_method_32_code 23 = .ok (.bipush 35, 2) := by decide +kernel
theorem xd_61_25 : decode prog_12_method_32_code 25 = .ok (.invokevirtual 162, 3) := by decide +kernel
theorem xd_61_28 : decode prog_12_method_32_code 28 = .ok (.aload_n 0, 1) := by decide +kernel
theorem xd_61_29 : decode prog_12_method_32_code 29 = .ok (.aload_n 0, 1) := by decide +kernel
theorem xd_61_30 : decode prog_12_method_32_code 30 = .ok (.getfield 38, 3) := by decide +kernel
theorem xd_61_33 : decode prog_12_method_32_code 33 = .ok (.iload_n 1, 1) := by decide +kernel
theorem xd_61_34 : decode prog_12_method_32_code 34 = .ok (.iaload, 1) := by decide +kernel
theorem xd_61_35 : decode prog_12_method_32_code 35 = .ok (.invokevirtual 165, 3) := by decide +kernel
theorem xd_61_38 : decode prog_12_method_32_code 38 = .ok (.aload_n 0, 1) := by decide +kernel
theorem xd_61_39 : decode prog_12_method_32_code 39 = .ok (.bipush 61, 2) := by decide +kernel
theorem xd_61_41 : decode prog_12_method_32_code 41 = .ok (.invokevirtual 162, 3) := by decide +kernel
theorem xd_61_44 : decode prog_12_method_32_code 44 = .ok (.iconst 0, 1) := by decide +kernel
theorem xd_61_45 : decode prog_12_method_32_code 45 = .ok (.istore_n 2, 1) := by decide +kernel
theorem xd_61_46 : decode prog_12_method_32_code 46 = .ok (.iload_n 2, 1) := by decide +kernel
theorem xd_61_47 : decode prog_12_method_32_code 47 = .ok (.aload_n 0, 1) := by decide +kernel
theorem xd_61_48 : decode prog_12_method_32_code 48 = .ok (.getfield 41, 3) := by decide +kernel
theorem xd_61_51 : decode prog_12_method_32_code 51 = .ok (.iload_n 1, 1) := by decide +kernel
theorem xd_61_52 : decode prog_12_method_32_code 52 = .ok (.iaload, 1) := by decide +kernel
theorem xd_61_53 : decode prog_12_method_32_code 53 = .ok (.if_icmp .ge 24, 3) := by decide +kernel
theorem xd_61_56 : decode prog_12_method_32_code 56 = .ok (.aload_n 0, 1) := by decide +kernel
theorem xd_61_57 : decode prog_12_method_32_code 57 = .ok (.aload_n 0, 1) := by decide +kernel
theorem xd_61_58 : decode prog_12_method_32_code 58 = .ok (.getfield 44, 3) := by decide +kernel
theorem xd_61_61 : decode prog_12_method_32_code 61 = .ok (.bipush 8, 2) := by decide +kernel
theorem xd_61_63 : decode prog_12_method_32_code 63 = .ok (.iload_n 1, 1) := by decide +kernel
theorem xd_61_64 : decode prog_12_method_32_code 64 = .ok (.imul, 1) := by decide +kernel
theorem xd_61_65 : decode prog_12_method_32_code 65 = .ok (.iload_n 2, 1) := by decide +kernel
theorem xd_61_66 : decode prog_12_method_32_code 66 = .ok (.iadd, 1) := by decide +kernel
theorem xd_61_67 : decode prog_12_method_32_code 67 = .ok (.iaload, 1) := by decide +kernel
theorem xd_61_68 : decode prog_12_method_32_code 68 = .ok (.invokevirtual 162, 3) := by decide +kernel
theorem xd_61_71 : decode prog_12_method_32_code 71 = .ok (.iinc 2 1, 3) := by decide +kernel
theorem xd_61_74 : decode prog_12_method_32_code 74 = .ok (.goto (-28), 3) := by decide +kernel
theorem xd_61_77 : decode prog_12_method_32_code 77 = .ok (.aload_n 0, 1) := by decide +kernel
theorem xd_61_78 : decode prog_12_method_32_code 78 = .ok (.bipush 40, 2) := by decide +kernel
theorem xd_61_80 : decode prog_12_method_32_code 80 = .ok (.invokevirtual 162, 3) := by decide +kernel
theorem xd_61_83 : decode prog_12_method_32_code 83 = .ok (.iconst 0, 1) := by decide +kernel
theorem xd_61_84 : decode prog_12_method_32_code 84 = .ok (.istore_n 2, 1) := by decide +kernel
theorem xd_61_85 : decode prog_12_method_32_code 85 = .ok (.iload_n 2, 1) := by decide +kernel
theorem xd_61_86 : decode prog_12_method_32_code 86 = .ok (.aload_n 0, 1) := by decide +kernel
theorem xd_61_87 : decode prog_12_method_32_code 87 = .ok (.getfield 47, 3) := by decide +kernel
theorem xd_61_90 : decode prog_12_method_32_code 90 = .ok (.iload_n 1, 1) := by decide +kernel
theorem xd_61_91 : decode prog_12_method_32_code 91 = .ok (.iaload, 1) := by decide +kernel
theorem xd_61_92 : decode prog_12_method_32_code 92 = .ok (.if_icmp .ge 29, 3) := by decide +kernel
theorem xd_61_95 : decode prog_12_method_32_code 95 = .ok (.iload_n 2, 1) := by decide +kernel
theorem xd_61_96 : decode prog_12_method_32_code 96 = .ok (.ifCond .le 9, 3) := by decide +kernel
theorem xd_61_99 : decode prog_12_method_32_code 99 = .ok (.aload_n 0, 1) := by decide +kernel
theorem xd_61_100 : decode prog_12_method_32_code 100 = .ok (.bipush 44, 2) := by decide +kernel
theorem xd_61_102 : decode prog_12_method_32_code 102 = .ok (.invokevirtual 162, 3) := by decide +kernel
theorem xd_61_105 : decode prog_12_method_32_code 105 = .ok (.aload_n 0, 1) := by decide +kernel
theorem xd_61_106 : decode prog_12_method_32_code 106 = .ok (.bipush 8, 2) := by decide +kernel
theorem xd_61_108 : decode prog_12_method_32_code 108 = .ok (.iload_n 1, 1) := by decide +kernel
theorem xd_61_109 : decode prog_12_method_32_code 109 = .ok (.imul, 1) := by decide +kernel
theorem xd_61_110 : decode prog_12_method_32_code 110 = .ok (.iload_n 2, 1) := by decide +kernel
theorem xd_61_111 : decode prog_12_method_32_code 111 = .ok (.iadd, 1) := by decide +kernel
theorem xd_61_112 : decode prog_12_method_32_code 112 = .ok (.invokevirtual 168, 3) := by decide +kernel
theorem xd_61_115 : decode prog_12_method_32_code 115 = .ok (.iinc 2 1, 3) := by decide +kernel
theorem xd_61_118 : decode prog_12_method_32_code 118 = .ok (.goto (-33), 3) := by decide +kernel
theorem xd_61_121 : decode prog_12_method_32_code 121 = .ok (.aload_n 0, 1) := by decide +kernel
theorem xd_61_122 : decode prog_12_method_32_code 122 = .ok (.bipush 41, 2) := by decide +kernel
theorem xd_61_124 : decode prog_12_method_32_code 124 = .ok (.invokevirtual 162, 3) := by decide +kernel
theorem xd_61_127 : decode prog_12_method_32_code 127 = .ok (.aload_n 0, 1) := by decide +kernel
theorem xd_61_128 : decode prog_12_method_32_code 128 = .ok (.bipush 59, 2) := by decide +kernel
theorem xd_61_130 : decode prog_12_method_32_code 130 = .ok (.invokevirtual 162, 3) := by decide +kernel
theorem xd_61_133 : decode prog_12_method_32_code 133 = .ok (.iinc 1 1, 3) := by decide +kernel
theorem xd_61_136 : decode prog_12_method_32_code 136 = .ok (.goto (-124), 3) := by decide +kernel
theorem xd_61_139 : decode prog_12_method_32_code 139 = .ok (.aload_n 0, 1) := by decide +kernel
theorem xd_61_140 : decode prog_12_method_32_code 140 = .ok (.getfield 159, 3) := by decide +kernel
theorem xd_61_143 : decode prog_12_method_32_code 143 = .ok (.sipush 1200, 3) := by decide +kernel
theorem xd_61_146 : decode prog_12_method_32_code 146 = .ok (.if_icmp .le 6, 3) := by decide +kernel
theorem xd_61_149 : decode prog_12_method_32_code 149 = .ok (.bipush (-2), 2) := by decide +kernel
theorem xd_61_151 : decode prog_12_method_32_code 151 = .ok (.ireturn, 1) := by decide +kernel
theorem xd_61_152 : decode prog_12_method_32_code 152 = .ok (.iconst 0, 1) := by decide +kernel
theorem xd_61_153 : decode prog_12_method_32_code 153 = .ok (.istore_n 1, 1) := by decide +kernel
theorem xd_61_154 : decode prog_12_method_32_code 154 = .ok (.iload_n 1, 1) := by decide +kernel
theorem xd_61_155 : decode prog_12_method_32_code 155 = .ok (.aload_n 0, 1) := by decide +kernel
theorem xd_61_156 : decode prog_12_method_32_code 156 = .ok (.getfield 159, 3) := by decide +kernel
theorem xd_61_159 : decode prog_12_method_32_code 159 = .ok (.if_icmp .ge 21, 3) := by decide +kernel
theorem xd_61_162 : decode prog_12_method_32_code 162 = .ok (.aload_n 0, 1) := by decide +kernel
theorem xd_61_163 : decode prog_12_method_32_code 163 = .ok (.getfield 7, 3) := by decide +kernel
theorem xd_61_166 : decode prog_12_method_32_code 166 = .ok (.iload_n 1, 1) := by decide +kernel
theorem xd_61_167 : decode prog_12_method_32_code 167 = .ok (.aload_n 0, 1) := by decide +kernel
theorem xd_61_168 : decode prog_12_method_32_code 168 = .ok (.getfield 13, 3) := by decide +kernel
theorem xd_61_171 : decode prog_12_method_32_code 171 = .ok (.iload_n 1, 1) := by decide +kernel
theorem xd_61_172 : decode prog_12_method_32_code 172 = .ok (.iaload, 1) := by decide +kernel
theorem xd_61_173 : decode prog_12_method_32_code 173 = .ok (.iastore, 1) := by decide +kernel
theorem xd_61_174 : decode prog_12_method_32_code 174 = .ok (.iinc 1 1, 3) := by decide +kernel
theorem xd_61_177 : decode prog_12_method_32_code 177 = .ok (.goto (-23), 3) := by decide +kernel
theorem xd_61_180 : decode prog_12_method_32_code 180 = .ok (.aload_n 0, 1) := by decide +kernel
theorem xd_61_181 : decode prog_12_method_32_code 181 = .ok (.aload_n 0, 1) := by decide +kernel
theorem xd_61_182 : decode prog_12_method_32_code 182 = .ok (.getfield 159, 3) := by decide +kernel
theorem xd_61_185 : decode prog_12_method_32_code 185 = .ok (.putfield 79, 3) := by decide +kernel
theorem xd_61_188 : decode prog_12_method_32_code 188 = .ok (.aload_n 0, 1) := by decide +kernel
theorem xd_61_189 : decode prog_12_method_32_code 189 = .ok (.getfield 79, 3) := by decide +kernel
theorem xd_61_192 : decode prog_12_method_32_code 192 = .ok (.ireturn, 1) := by decide +kernel
theorem xd_62_0 : decode prog_12_method_33_code 0 = .ok (.aload_n 0, 1) := by decide +kernel
theorem xd_62_1 : decode prog_12_method_33_code 1 = .ok (.iconst 0, 1) := by decide +kernel
theorem xd_62_2 : decode prog_12_method_33_code 2 = .ok (.putfield 69, 3) := by decide +kernel
theorem xd_62_5 : decode prog_12_method_33_code 5 = .ok (.aload_n 0, 1) := by decide +kernel
theorem xd_62_6 : decode prog_12_method_33_code 6 = .ok (.getfield 35, 3) := by decide +kernel
theorem xd_62_9 : decode prog_12_method_33_code 9 = .ok (.iconst 2, 1) := by decide +kernel
theorem xd_62_10 : decode prog_12_method_33_code 10 = .ok (.aload_n 0, 1) := by decide +kernel
theorem xd_62_11 : decode prog_12_method_33_code 11 = .ok (.getfield 35, 3) := by decide +kernel
theorem xd_62_14 : decode prog_12_method_33_code 14 = .ok (.iconst 0, 1) := by decide +kernel
theorem xd_62_15 : decode prog_12_method_33_code 15 = .ok (.iaload, 1) := by decide +kernel
theorem xd_62_16 : decode prog_12_method_33_code 16 = .ok (.iastore, 1) := by decide +kernel
theorem xd_62_17 : decode prog_12_method_33_code 17 = .ok (.iconst 0, 1) := by decide +kernel
theorem xd_62_18 : decode prog_12_method_33_code 18 = .ok (.istore_n 1, 1) := by decide +kernel
theorem xd_62_19 : decode prog_12_method_33_code 19 = .ok (.iload_n 1, 1) := by decide +kernel
theorem xd_62_20 : decode prog_12_method_33_code 20 = .ok (.aload_n 0, 1) := by decide +kernel
theorem xd_62_21 : decode prog_12_method_33_code 21 = .ok (.getfield 35, 3) := by decide +kernel
theorem xd_62_24 : decode prog_12_method_33_code 24 = .ok (.iconst 0, 1) := by decide +kernel
theorem xd_62_25 : decode prog_12_method_33_code 25 = .ok (.iaload, 1) := by decide +kernel
theorem xd_62_26 : decode prog_12_method_33_code 26 = .ok (.if_icmp .ge 18, 3) := by decide +kernel
theorem xd_62_29 : decode prog_12_method_33_code 29 = .ok (.aload_n 0, 1) := by decide +kernel
theorem xd_62_30 : decode prog_12_method_33_code 30 = .ok (.bipush 80, 2) := by decide +kernel
theorem xd_62_32 : decode prog_12_method_33_code 32 = .ok (.iload_n 1, 1) := by decide +kernel
theorem xd_62_33 : decode prog_12_method_33_code 33 = .ok (.iadd, 1) := by decide +kernel
theorem xd_62_34 : decode prog_12_method_33_code 34 = .ok (.iload_n 1, 1) := by decide +kernel
theorem xd_62_35 : decode prog_12_method_33_code 35 = .ok (.invokevirtual 155, 3) := by decide +kernel
theorem xd_62_38 : decode prog_12_method_33_code 38 = .ok (.iinc 1 1, 3) := by decide +kernel
theorem xd_62_41 : decode prog_12_method_33_code 41 = .ok (.goto (-22), 3) := by decide +kernel
theorem xd_62_44 : decode prog_12_method_33_code 44 = .ok (.aload_n 0, 1) := by decide +kernel
theorem xd_62_45 : decode prog_12_method_33_code 45 = .ok (.getfield 35, 3) := by decide +kernel
theorem xd_62_48 : decode prog_12_method_33_code 48 = .ok (.iconst 2, 1) := by decide +kernel
theorem xd_62_49 : decode prog_12_method_33_code 49 = .ok (.iaload, 1) := by decide +kernel
theorem xd_62_50 : decode prog_12_method_33_code 50 = .ok (.ireturn, 1) := by decide +kernel
theorem xd_63_0 : decode prog_12_method_34_code 0 = .ok (.aload_n 0, 1) := by decide +kernel
theorem xd_63_1 : decode prog_12_method_34_code 1 = .ok (.iconst 0, 1) := by decide +kernel
theorem xd_63_2 : decode prog_12_method_34_code 2 = .ok (.putfield 69, 3) := by decide +kernel
theorem xd_63_5 : decode prog_12_method_34_code 5 = .ok (.aload_n 0, 1) := by decide +kernel
theorem xd_63_6 : decode prog_12_method_34_code 6 = .ok (.iload_n 1, 1) := by decide +kernel
theorem xd_63_7 : decode prog_12_method_34_code 7 = .ok (.ifCond .ge 7, 3) := by decide +kernel
theorem xd_63_10 : decode prog_12_method_34_code 10 = .ok (.iconst 1, 1) := by decide +kernel
theorem xd_63_11 : decode prog_12_method_34_code 11 = .ok (.goto 4, 3) := by decide +kernel
theorem xd_63_14 : decode prog_12_method_34_code 14 = .ok (.iconst 0, 1) := by decide +kernel
theorem xd_63_15 : decode prog_12_method_34_code 15 = .ok (.iconst 1, 1) := by decide +kernel
theorem xd_63_16 : decode prog_12_method_34_code 16 = .ok (.invokevirtual 75, 3) := by decide +kernel
theorem xd_63_19 : decode prog_12_method_34_code 19 = .ok (.ifCond .eq 5, 3) := by decide +kernel
theorem xd_63_22 : decode prog_12_method_34_code 22 = .ok (.iconst 0, 1) := by decide +kernel
theorem xd_63_23 : decode prog_12_method_34_code 23 = .ok (.ireturn, 1) := by decide +kernel
theorem xd_63_24 : decode prog_12_method_34_code 24 = .ok (.iload_n 1, 1) := by decide +kernel
theorem xd_63_25 : decode prog_12_method_34_code 25 = .ok (.aload_n 0, 1) := by decide +kernel
theorem xd_63_26 : decode prog_12_method_34_code 26 = .ok (.getfield 35, 3) := by decide +kernel
theorem xd_63_29 : decode prog_12_method_34_code 29 = .ok (.iconst 0, 1) := by decide +kernel
theorem xd_63_30 : decode prog_12_method_34_code 30 = .ok (.iaload, 1) := by decide +kernel
theorem xd_63_31 : decode prog_12_method_34_code 31 = .ok (.if_icmp .ge 12, 3) := by decide +kernel
theorem xd_63_34 : decode prog_12_method_34_code 34 = .ok (.aload_n 0, 1) := by decide +kernel
theorem xd_63_35 : decode prog_12_method_34_code 35 = .ok (.getfield 38, 3) := by decide +kernel
theorem xd_63_38 : decode prog_12_method_34_code 38 = .ok (.iload_n 1, 1) := by decide +kernel
theorem xd_63_39 : decode prog_12_method_34_code 39 = .ok (.iaload, 1) := by decide +kernel
theorem xd_63_40 : decode prog_12_method_34_code 40 = .ok (.goto 4, 3) := by decide +kernel
theorem xd_63_43 : decode prog_12_method_34_code 43 = .ok (.iconst (-1), 1) := by decide +kernel
theorem xd_63_44 : decode prog_12_method_34_code 44 = .ok (.ireturn, 1) := by decide +kernel
theorem xd_64_0 : decode prog_12_method_35_code 0 = .ok (.iconst 0, 1) := by decide +kernel
theorem xd_64_1 : decode prog_12_method_35_code 1 = .ok (.istore_n 2, 1) := by decide +kernel
theorem xd_64_2 : decode prog_12_method_35_code 2 = .ok (.iload_n 2, 1) := by decide +kernel
theorem xd_64_3 : decode prog_12_method_35_code 3 = .ok (.aload_n 0, 1) := by decide +kernel
theorem xd_64_4 : decode prog_12_method_35_code 4 = .ok (.getfield 16, 3) := by decide +kernel
theorem xd_64_7 : decode prog_12_method_35_code 7 = .ok (.iconst 0, 1) := by decide +kernel
theorem xd_64_8 : decode prog_12_method_35_code 8 = .ok (.iaload, 1) := by decide +kernel
theorem xd_64_9 : decode prog_12_method_35_code 9 = .ok (.if_icmp .ge 54, 3) := by decide +kernel
theorem xd_64_12 : decode prog_12_method_35_code 12 = .ok (.aload_n 0, 1) := by decide +kernel
theorem xd_64_13 : decode prog_12_method_35_code 13 = .ok (.getfield 19, 3) := by decide +kernel
theorem xd_64_16 : decode prog_12_method_35_code 16 = .ok (.iload_n 2, 1) := by decide +kernel
theorem xd_64_17 : decode prog_12_method_35_code 17 = .ok (.iaload, 1) := by decide +kernel
theorem xd_64_18 : decode prog_12_method_35_code 18 = .ok (.aload_n 0, 1) := by decide +kernel
theorem xd_64_19 : decode prog_12_method_35_code 19 = .ok (.getfield 41, 3) := by decide +kernel
theorem xd_64_22 : decode prog_12_method_35_code 22 = .ok (.iload_n 1, 1) := by decide +kernel
theorem xd_64_23 : decode prog_12_method_35_code 23 = .ok (.iaload, 1) := by decide +kernel
theorem xd_64_24 : decode prog_12_method_35_code 24 = .ok (.if_icmp .ne 33, 3) := by decide +kernel
theorem xd_64_27 : decode prog_12_method_35_code 27 = .ok (.aload_n 0, 1) := by decide +kernel
theorem xd_64_28 : decode prog_12_method_35_code 28 = .ok (.getfield 22, 3) := by decide +kernel
theorem xd_64_31 : decode prog_12_method_35_code 31 = .ok (.bipush 8, 2) := by decide +kernel
theorem xd_64_33 : decode prog_12_method_35_code 33 = .ok (.iload_n 2, 1) := by decide +kernel
theorem xd_64_34 : decode prog_12_method_35_code 34 = .ok (.imul, 1) := by decide +kernel
theorem xd_64_35 : decode prog_12_method_35_code 35 = .ok (.aload_n 0, 1) := by decide +kernel
theorem xd_64_36 : decode prog_12_method_35_code 36 = .ok (.getfield 44, 3) := by decide +kernel
theorem xd_64_39 : decode prog_12_method_35_code 39 = .ok (.bipush 8, 2) := by decide +kernel
theorem xd_64_41 : decode prog_12_method_35_code 41 = .ok (.iload_n 1, 1) := by decide +kernel
theorem xd_64_42 : decode prog_12_method_35_code 42 = .ok (.imul, 1) := by decide +kernel
theorem xd_64_43 : decode prog_12_method_35_code 43 = .ok (.aload_n 0, 1) := by decide +kernel
theorem xd_64_44 : decode prog_12_method_35_code 44 = .ok (.getfield 41, 3) := by decide +kernel
theorem xd_64_47 : decode prog_12_method_35_code 47 = .ok (.iload_n 1, 1) := by decide +kernel
theorem xd_64_48 : decode prog_12_method_35_code 48 = .ok (.iaload, 1) := by decide +kernel
theorem xd_64_49 : decode prog_12_method_35_code 49 = .ok (.invokestatic 117, 3) := by decide +kernel
theorem xd_64_52 : decode prog_12_method_35_code 52 = .ok (.ifCond .eq 5, 3) := by decide +kernel
theorem xd_64_55 : decode prog_12_method_35_code 55 = .ok (.iload_n 2, 1) := by decide +kernel
theorem xd_64_56 : decode prog_12_method_35_code 56 = .ok (.ireturn, 1) := by decide +kernel
theorem xd_64_57 : decode prog_12_method_35_code 57 = .ok (.iinc 2 1, 3) := by decide +kernel
theorem xd_64_60 : decode prog_12_method_35_code 60 = .ok (.goto (-58), 3) := by decide +kernel
theorem xd_64_63 : decode prog_12_method_35_code 63 = .ok (.iconst (-1), 1) := by decide +kernel
theorem xd_64_64 : decode prog_12_method_35_code 64 = .ok (.ireturn, 1) := by decide +kernel
theorem xd_65_0 : decode prog_12_method_36_code 0 = .ok (.aload_n 0, 1) := by decide +kernel
theorem xd_65_1 : decode prog_12_method_36_code 1 = .ok (.getfield 50, 3) := by decide +kernel
theorem xd_65_4 : decode prog_12_method_36_code 4 = .ok (.iload_n 1, 1) := by decide +kernel
theorem xd_65_5 : decode prog_12_method_36_code 5 = .ok (.iaload, 1) := by decide +kernel
theorem xd_65_6 : decode prog_12_method_36_code 6 = .ok (.iconst 2, 1) := by decide +kernel
theorem xd_65_7 : decode prog_12_method_36_code 7 = .ok (.if_icmp .ne 7, 3) := by decide +kernel
theorem xd_65_10 : decode prog_12_method_36_code 10 = .ok (.iconst 1, 1) := by decide +kernel
theorem xd_65_11 : decode prog_12_method_36_code 11 = .ok (.goto 23, 3) := by decide +kernel
theorem xd_65_14 : decode prog_12_method_36_code 14 = .ok (.aload_n 0, 1) := by decide +kernel
theorem xd_65_15 : decode prog_12_method_36_code 15 = .ok (.getfield 50, 3) := by decide +kernel
theorem xd_65_18 : decode prog_12_method_36_code 18 = .ok (.iload_n 1, 1) := by decide +kernel
theorem xd_65_19 : decode prog_12_method_36_code 19 = .ok (.iaload, 1) := by decide +kernel
theorem xd_65_20 : decode prog_12_method_36_code 20 = .ok (.iconst 4, 1) := by decide +kernel
theorem xd_65_21 : decode prog_12_method_36_code 21 = .ok (.if_icmp .ne 12, 3) := by decide +kernel
theorem xd_65_24 : decode prog_12_method_36_code 24 = .ok (.aload_n 0, 1) := by decide +kernel
theorem xd_65_25 : decode prog_12_method_36_code 25 = .ok (.getfield 53, 3) := by decide +kernel
theorem xd_65_28 : decode prog_12_method_36_code 28 = .ok (.iload_n 1, 1) := by decide +kernel
theorem xd_65_29 : decode prog_12_method_36_code 29 = .ok (.iaload, 1) := by decide +kernel
theorem xd_65_30 : decode prog_12_method_36_code 30 = .ok (.goto 4, 3) := by decide +kernel
theorem xd_65_33 : decode prog_12_method_36_code 33 = .ok (.iconst 0, 1) := by decide +kernel
theorem xd_65_34 : decode prog_12_method_36_code 34 = .ok (.ireturn, 1) := by decide +kernel
theorem xd_66_0 : decode prog_12_method_37_code 0 = .ok (.aload_n 0, 1) := by decide +kernel
theorem xd_66_1 : decode prog_12_method_37_code 1 = .ok (.iconst 0, 1) := by decide +kernel
theorem xd_66_2 : decode prog_12_method_37_code 2 = .ok (.aload_n 0, 1) := by decide +kernel
theorem xd_66_3 : decode prog_12_method_37_code 3 = .ok (.getfield 50, 3) := by decide +kernel
theorem xd_66_6 : decode prog_12_method_37_code 6 = .ok (.iload_n 1, 1) := by decide +kernel
theorem xd_66_7 : decode prog_12_method_37_code 7 = .ok (.iaload, 1) := by decide +kernel
theorem xd_66_8 : decode prog_12_method_37_code 8 = .ok (.iconst 2, 1) := by decide +kernel
theorem xd_66_9 : decode prog_12_method_37_code 9 = .ok (.if_icmp .ne 12, 3) := by decide +kernel
theorem xd_66_12 : decode prog_12_method_37_code 12 = .ok (.aload_n 0, 1) := by decide +kernel
theorem xd_66_13 : decode prog_12_method_37_code 13 = .ok (.getfield 53, 3) := by decide +kernel
theorem xd_66_16 : decode prog_12_method_37_code 16 = .ok (.iload_n 1, 1) := by decide +kernel
theorem xd_66_17 : decode prog_12_method_37_code 17 = .ok (.iaload, 1) := by decide +kernel
theorem xd_66_18 : decode prog_12_method_37_code 18 = .ok (.goto 14, 3) := by decide +kernel
theorem xd_66_21 : decode prog_12_method_37_code 21 = .ok (.aload_n 0, 1) := by decide +kernel
theorem xd_66_22 : decode prog_12_method_37_code 22 = .ok (.getfield 56, 3) := by decide +kernel
theorem xd_66_25 : decode prog_12_method_37_code 25 = .ok (.bipush 20, 2) := by decide +kernel
theorem xd_66_27 : decode prog_12_method_37_code 27 = .ok (.iload_n 1, 1) := by decide +kernel
theorem xd_66_28 : decode prog_12_method_37_code 28 = .ok (.imul, 1) := by decide +kernel
theorem xd_66_29 : decode prog_12_method_37_code 29 = .ok (.iload_n 2, 1) := by decide +kernel
theorem xd_66_30 : decode prog_12_method_37_code 30 = .ok (.iadd, 1) := by decide +kernel
theorem xd_66_31 : decode prog_12_method_37_code 31 = .ok (.iaload, 1) := by decide +kernel
theorem xd_66_32 : decode prog_12_method_37_code 32 = .ok (.invokevirtual 143, 3) := by decide +kernel
theorem xd_66_35 : decode prog_12_method_37_code 35 = .ok (.ireturn, 1) := by decide +kernel
theorem xd_67_0 : decode prog_12_method_38_code 0 = .ok (.iconst 0, 1) := by decide +kernel
theorem xd_67_1 : decode prog_12_method_38_code 1 = .ok (.istore_n 2, 1) := by decide +kernel
theorem xd_67_2 : decode prog_12_method_38_code 2 = .ok (.bipush 8, 2) := by decide +kernel
theorem xd_67_4 : decode prog_12_method_38_code 4 = .ok (.iload_n 1, 1) := by decide +kernel
theorem xd_67_5 : decode prog_12_method_38_code 5 = .ok (.imul, 1) := by decide +kernel
theorem xd_67_6 : decode prog_12_method_38_code 6 = .ok (.istore_n 3, 1) := by decide +kernel
theorem xd_67_7 : decode prog_12_method_38_code 7 = .ok (.iload_n 3, 1) := by decide +kernel
theorem xd_67_8 : decode prog_12_method_38_code 8 = .ok (.bipush 8, 2) := by decide +kernel
theorem xd_67_10 : decode prog_12_method_38_code 10 = .ok (.iload_n 1, 1) := by decide +kernel
theorem xd_67_11 : decode prog_12_method_38_code 11 = .ok (.imul, 1) := by decide +kernel
theorem xd_67_12 : decode prog_12_method_38_code 12 = .ok (.aload_n 0, 1) := by decide +kernel
theorem xd_67_13 : decode prog_12_method_38_code 13 = .ok (.getfield 47, 3) := by decide +kernel
theorem xd_67_16 : decode prog_12_method_38_code 16 = .ok (.iload_n 1, 1) := by decide +kernel
theorem xd_67_17 : decode prog_12_method_38_code 17 = .ok (.iaload, 1) := by decide +kernel
theorem xd_67_18 : decode prog_12_method_38_code 18 = .ok (.iadd, 1) := by decide +kernel
theorem xd_67_19 : decode prog_12_method_38_code 19 = .ok (.if_icmp .ge 17, 3) := by decide +kernel
theorem xd_67_22 : decode prog_12_method_38_code 22 = .ok (.iload_n 2, 1) := by decide +kernel
theorem xd_67_23 : decode prog_12_method_38_code 23 = .ok (.aload_n 0, 1) := by decide +kernel
theorem xd_67_24 : decode prog_12_method_38_code 24 = .ok (.iload_n 3, 1) := by decide +kernel
theorem xd_67_25 : decode prog_12_method_38_code 25 = .ok (.invokevirtual 171, 3) := by decide +kernel
theorem xd_67_28 : decode prog_12_method_38_code 28 = .ok (.iadd, 1) := by decide +kernel
theorem xd_67_29 : decode prog_12_method_38_code 29 = .ok (.istore_n 2, 1) := by decide +kernel
theorem xd_67_30 : decode prog_12_method_38_code 30 = .ok (.iinc 3 1, 3) := by decide +kernel
theorem xd_67_33 : decode prog_12_method_38_code 33 = .ok (.goto (-26), 3) := by decide +kernel
theorem xd_67_36 : decode prog_12_method_38_code 36 = .ok (.iload_n 2, 1) := by decide +kernel
theorem xd_67_37 : decode prog_12_method_38_code 37 = .ok (.ireturn, 1) := by decide +kernel
theorem xd_68_0 : decode prog_12_method_39_code 0 = .ok (.iconst 0, 1) := by decide +kernel
theorem xd_68_1 : decode prog_12_method_39_code 1 = .ok (.istore_n 1, 1) := by decide +kernel
theorem xd_68_2 : decode prog_12_method_39_code 2 = .ok (.iload_n 1, 1) := by decide +kernel
theorem xd_68_3 : decode prog_12_method_39_code 3 = .ok (.aload_n 0, 1) := by decide +kernel
theorem xd_68_4 : decode prog_12_method_39_code 4 = .ok (.getfield 35, 3) := by decide +kernel
theorem xd_68_7 : decode prog_12_method_39_code 7 = .ok (.iconst 0, 1) := by decide +kernel
theorem xd_68_8 : decode prog_12_method_39_code 8 = .ok (.iaload, 1) := by decide +kernel
theorem xd_68_9 : decode prog_12_method_39_code 9 = .ok (.if_icmp .ge 76, 3) := by decide +kernel
theorem xd_68_12 : decode prog_12_method_39_code 12 = .ok (.aload_n 0, 1) := by decide +kernel
theorem xd_68_13 : decode prog_12_method_39_code 13 = .ok (.getfield 65, 3) := by decide +kernel
theorem xd_68_16 : decode prog_12_method_39_code 16 = .ok (.iload_n 1, 1) := by decide +kernel
theorem xd_68_17 : decode prog_12_method_39_code 17 = .ok (.lconst 0, 1) := by decide +kernel
theorem xd_68_18 : decode prog_12_method_39_code 18 = .ok (.lastore, 1) := by decide +kernel
theorem xd_68_19 : decode prog_12_method_39_code 19 = .ok (.bipush 8, 2) := by decide +kernel
theorem xd_68_21 : decode prog_12_method_39_code 21 = .ok (.iload_n 1, 1) := by decide +kernel
theorem xd_68_22 : decode prog_12_method_39_code 22 = .ok (.imul, 1) := by decide +kernel
theorem xd_68_23 : decode prog_12_method_39_code 23 = .ok (.istore_n 2, 1) := by decide +kernel
theorem xd_68_24 : decode prog_12_method_39_code 24 = .ok (.iload_n 2, 1) := by decide +kernel
theorem xd_68_25 : decode prog_12_method_39_code 25 = .ok (.bipush 8, 2) := by decide +kernel
theorem xd_68_27 : decode prog_12_method_39_code 27 = .ok (.iload_n 1, 1) := by decide +kernel
theorem xd_68_28 : decode prog_12_method_39_code 28 = .ok (.imul, 1) := by decide +kernel
theorem xd_68_29 : decode prog_12_method_39_code 29 = .ok (.aload_n 0, 1) := by decide +kernel
theorem xd_68_30 : decode prog_12_method_39_code 30 = .ok (.getfield 47, 3) := by decide +kernel
theorem xd_68_33 : decode prog_12_method_39_code 33 = .ok (.iload_n 1, 1) := by decide +kernel
theorem xd_68_34 : decode prog_12_method_39_code 34 = .ok (.iaload, 1) := by decide +kernel
theorem xd_68_35 : decode prog_12_method_39_code 35 = .ok (.iadd, 1) := by decide +kernel
theorem xd_68_36 : decode prog_12_method_39_code 36 = .ok (.if_icmp .ge 43, 3) := by decide +kernel
theorem xd_68_39 : decode prog_12_method_39_code 39 = .ok (.iconst 0, 1) := by decide +kernel
theorem xd_68_40 : decode prog_12_method_39_code 40 = .ok (.istore_n 3, 1) := by decide +kernel
theorem xd_68_41 : decode prog_12_method_39_code 41 = .ok (.iload_n 3, 1) := by decide +kernel
theorem xd_68_42 : decode prog_12_method_39_code 42 = .ok (.aload_n 0, 1) := by decide +kernel
theorem xd_68_43 : decode prog_12_method_39_code 43 = .ok (.iload_n 2, 1) := by decide +kernel
theorem xd_68_44 : decode prog_12_method_39_code 44 = .ok (.invokevirtual 171, 3) := by decide +kernel
theorem xd_68_47 : decode prog_12_method_39_code 47 = .ok (.if_icmp .ge 26, 3) := by decide +kernel
theorem xd_68_50 : decode prog_12_method_39_code 50 = .ok (.aload_n 0, 1) := by decide +kernel
theorem xd_68_51 : decode prog_12_method_39_code 51 = .ok (.getfield 65, 3) := by decide +kernel
theorem xd_68_54 : decode prog_12_method_39_code 54 = .ok (.iload_n 1, 1) := by decide +kernel
theorem xd_68_55 : decode prog_12_method_39_code 55 = .ok (.dup2, 1) := by decide +kernel
theorem xd_68_56 : decode prog_12_method_39_code 56 = .ok (.laload, 1) := by decide +kernel
theorem xd_68_57 : decode prog_12_method_39_code 57 = .ok (.lconst 1, 1) := by decide +kernel
theorem xd_68_58 : decode prog_12_method_39_code 58 = .ok (.aload_n 0, 1) := by decide +kernel
theorem xd_68_59 : decode prog_12_method_39_code 59 = .ok (.iload_n 2, 1) := by decide +kernel
theorem xd_68_60 : decode prog_12_method_39_code 60 = .ok (.iload_n 3, 1) := by decide +kernel
theorem xd_68_61 : decode prog_12_method_39_code 61 = .ok (.invokevirtual 174, 3) := by decide +kernel
theorem xd_68_64 : decode prog_12_method_39_code 64 = .ok (.lshl, 1) := by decide +kernel
theorem xd_68_65 : decode prog_12_method_39_code 65 = .ok (.lor, 1) := by decide +kernel
theorem xd_68_66 : decode prog_12_method_39_code 66 = .ok (.lastore, 1) := by decide +kernel
theorem xd_68_67 : decode prog_12_method_39_code 67 = .ok (.iinc 3 1, 3) := by decide +kernel
theorem xd_68_70 : decode prog_12_method_39_code 70 = .ok (.goto (-29), 3) := by decide +kernel
theorem xd_68_73 : decode prog_12_method_39_code 73 = .ok (.iinc 2 1, 3) := by decide +kernel
theorem xd_68_76 : decode prog_12_method_39_code 76 = .ok (.goto (-52), 3) := by decide +kernel
theorem xd_68_79 : decode prog_12_method_39_code 79 = .ok (.iinc 1 1, 3) := by decide +kernel
theorem xd_68_82 : decode prog_12_method_39_code 82 = .ok (.goto (-80), 3) := by decide +kernel
theorem xd_68_85 : decode prog_12_method_39_code 85 = .ok (.return_, 1) := by decide +kernel
theorem xd_69_0 : decode prog_12_method_40_code 0 = .ok (.aload_n 0, 1) := by decide +kernel
theorem xd_69_1 : decode prog_12_method_40_code 1 = .ok (.invokevirtual 177, 3) := by decide +kernel
theorem xd_69_4 : decode prog_12_method_40_code 4 = .ok (.iconst 0, 1) := by decide +kernel
theorem xd_69_5 : decode prog_12_method_40_code 5 = .ok (.istore_n 1, 1) := by decide +kernel
theorem xd_69_6 : decode prog_12_method_40_code 6 = .ok (.iload_n 1, 1) := by decide +kernel
theorem xd_69_7 : decode prog_12_method_40_code 7 = .ok (.bipush 40, 2) := by decide +kernel
theorem xd_69_9 : decode prog_12_method_40_code 9 = .ok (.if_icmp .ge 16, 3) := by decide +kernel
theorem xd_69_12 : decode prog_12_method_40_code 12 = .ok (.aload_n 0, 1) := by decide +kernel
theorem xd_69_13 : decode prog_12_method_40_code 13 = .ok (.getfield 59, 3) := by decide +kernel
theorem xd_69_16 : decode prog_12_method_40_code 16 = .ok (.iload_n 1, 1) := by decide +kernel
theorem xd_69_17 : decode prog_12_method_40_code 17 = .ok (.iconst (-1), 1) := by decide +kernel
theorem xd_69_18 : decode prog_12_method_40_code 18 = .ok (.iastore, 1) := by decide +kernel
theorem xd_69_19 : decode prog_12_method_40_code 19 = .ok (.iinc 1 1, 3) := by decide +kernel
theorem xd_69_22 : decode prog_12_method_40_code 22 = .ok (.goto (-16), 3) := by decide +kernel
theorem xd_69_25 : decode prog_12_method_40_code 25 = .ok (.iconst 1, 1) := by decide +kernel
theorem xd_69_26 : decode prog_12_method_40_code 26 = .ok (.istore_n 1, 1) := by decide +kernel
theorem xd_69_27 : decode prog_12_method_40_code 27 = .ok (.iload_n 1, 1) := by decide +kernel
theorem xd_69_28 : decode prog_12_method_40_code 28 = .ok (.ifCond .eq 147, 3) := by decide +kernel
theorem xd_69_31 : decode prog_12_method_40_code 31 = .ok (.iconst 0, 1) := by decide +kernel
theorem xd_69_32 : decode prog_12_method_40_code 32 = .ok (.istore_n 1, 1) := by decide +kernel
theorem xd_69_33 : decode prog_12_method_40_code 33 = .ok (.iconst 0, 1) := by decide +kernel
theorem xd_69_34 : decode prog_12_method_40_code 34 = .ok (.istore_n 2, 1) := by decide +kernel
theorem xd_69_35 : decode prog_12_method_40_code 35 = .ok (.iload_n 2, 1) := by decide +kernel
theorem xd_69_36 : decode prog_12_method_40_code 36 = .ok (.aload_n 0, 1) := by decide +kernel
theorem xd_69_37 : decode prog_12_method_40_code 37 = .ok (.getfield 35, 3) := by decide +kernel
theorem xd_69_40 : decode prog_12_method_40_code 40 = .ok (.iconst 0, 1) := by decide +kernel
theorem xd_69_41 : decode prog_12_method_40_code 41 = .ok (.iaload, 1) := by decide +kernel
theorem xd_69_42 : decode prog_12_method_40_code 42 = .ok (.if_icmp .ge 130, 3) := by decide +kernel
theorem xd_69_45 : decode prog_12_method_40_code 45 = .ok (.aload_n 0, 1) := by decide +kernel
theorem xd_69_46 : decode prog_12_method_40_code 46 = .ok (.getfield 59, 3) := by decide +kernel
theorem xd_69_49 : decode prog_12_method_40_code 49 = .ok (.iload_n 2, 1) := by decide +kernel
theorem xd_69_50 : decode prog_12_method_40_code 50 = .ok (.iaload, 1) := by decide +kernel
theorem xd_69_51 : decode prog_12_method_40_code 51 = .ok (.iconst (-1), 1) := by decide +kernel
theorem xd_69_52 : decode prog_12_method_40_code 52 = .ok (.if_icmp .eq 6, 3) := by decide +kernel
theorem xd_69_55 : decode prog_12_method_40_code 55 = .ok (.goto 111, 3) := by decide +kernel
theorem xd_69_58 : decode prog_12_method_40_code 58 = .ok (.iconst 0, 1) := by decide +kernel
theorem xd_69_59 : decode prog_12_method_40_code 59 = .ok (.istore_n 3, 1) := by decide +kernel
theorem xd_69_60 : decode prog_12_method_40_code 60 = .ok (.iconst 1, 1) := by decide +kernel
theorem xd_69_61 : decode prog_12_method_40_code 61 = .ok (.istore 4, 2) := by decide +kernel
theorem xd_69_63 : decode prog_12_method_40_code 63 = .ok (.iconst 0, 1) := by decide +kernel
theorem xd_69_64 : decode prog_12_method_40_code 64 = .ok (.istore 5, 2) := by decide +kernel
theorem xd_69_66 : decode prog_12_method_40_code 66 = .ok (.iload 5, 2) := by decide +kernel
theorem xd_69_68 : decode prog_12_method_40_code 68 = .ok (.aload_n 0, 1) := by decide +kernel
theorem xd_69_69 : decode prog_12_method_40_code 69 = .ok (.getfield 35, 3) := by decide +kernel
theorem xd_69_72 : decode prog_12_method_40_code 72 = .ok (.iconst 0, 1) := by decide +kernel
theorem xd_69_73 : decode prog_12_method_40_code 73 = .ok (.iaload, 1) := by decide +kernel
theorem xd_69_74 : decode prog_12_method_40_code 74 = .ok (.if_icmp .ge 78, 3) := by decide +kernel
theorem xd_69_77 : decode prog_12_method_40_code 77 = .ok (.aload_n 0, 1) := by decide +kernel
theorem xd_69_78 : decode prog_12_method_40_code 78 = .ok (.getfield 65, 3) := by decide +kernel
theorem xd_69_81 : decode prog_12_method_40_code 81 = .ok (.iload_n 2, 1) := by decide +kernel
theorem xd_69_82 : decode prog_12_method_40_code 82 = .ok (.laload, 1) := by decide +kernel
theorem xd_69_83 : decode prog_12_method_40_code 83 = .ok (.iload 5, 2) := by decide +kernel
theorem xd_69_85 : decode prog_12_method_40_code 85 = .ok (.lshr, 1) := by decide +kernel
theorem xd_69_86 : decode prog_12_method_40_code 86 = .ok (.lconst 1, 1) := by decide +kernel
theorem xd_69_87 : decode prog_12_method_40_code 87 = .ok (.land, 1) := by decide +kernel
theorem xd_69_88 : decode prog_12_method_40_code 88 = .ok (.lconst 0, 1) := by decide +kernel
theorem xd_69_89 : decode prog_12_method_40_code 89 = .ok (.lcmp, 1) := by decide +kernel
theorem xd_69_90 : decode prog_12_method_40_code 90 = .ok (.ifCond .ne 6, 3) := by decide +kernel
theorem xd_69_93 : decode prog_12_method_40_code 93 = .ok (.goto 53, 3) := by decide +kernel
theorem xd_69_96 : decode prog_12_method_40_code 96 = .ok (.iload 4, 2) := by decide +kernel
theorem xd_69_98 : decode prog_12_method_40_code 98 = .ok (.ifCond .eq 18, 3) := by decide +kernel
theorem xd_69_101 : decode prog_12_method_40_code 101 = .ok (.aload_n 0, 1) := by decide +kernel
theorem xd_69_102 : decode prog_12_method_40_code 102 = .ok (.getfield 59, 3) := by decide +kernel
theorem xd_69_105 : decode prog_12_method_40_code 105 = .ok (.iload 5, 2) := by decide +kernel
theorem xd_69_107 : decode prog_12_method_40_code 107 = .ok (.iaload, 1) := by decide +kernel
theorem xd_69_108 : decode prog_12_method_40_code 108 = .ok (.iconst (-1), 1) := by decide +kernel
theorem xd_69_109 : decode prog_12_method_40_code 109 = .ok (.if_icmp .eq 7, 3) := by decide +kernel
theorem xd_69_112 : decode prog_12_method_40_code 112 = .ok (.iconst 1, 1) := by decide +kernel
theorem xd_69_113 : decode prog_12_method_40_code 113 = .ok (.goto 4, 3) := by decide +kernel
theorem xd_69_116 : decode prog_12_method_40_code 116 = .ok (.iconst 0, 1) := by decide +kernel
theorem xd_69_117 : decode prog_12_method_40_code 117 = .ok (.istore 4, 2) := by decide +kernel
theorem xd_69_119 : decode prog_12_method_40_code 119 = .ok (.aload_n 0, 1) := by decide +kernel
theorem xd_69_120 : decode prog_12_method_40_code 120 = .ok (.getfield 59, 3) := by decide +kernel
theorem xd_69_123 : decode prog_12_method_40_code 123 = .ok (.iload 5, 2) := by decide +kernel
theorem xd_69_125 : decode prog_12_method_40_code 125 = .ok (.iaload, 1) := by decide +kernel
theorem xd_69_126 : decode prog_12_method_40_code 126 = .ok (.iconst 1, 1) := by decide +kernel
theorem xd_69_127 : decode prog_12_method_40_code 127 = .ok (.iadd, 1) := by decide +kernel
theorem xd_69_128 : decode prog_12_method_40_code 128 = .ok (.iload_n 3, 1) := by decide +kernel
theorem xd_69_129 : decode prog_12_method_40_code 129 = .ok (.if_icmp .le 15, 3) := by decide +kernel
theorem xd_69_132 : decode prog_12_method_40_code 132 = .ok (.aload_n 0, 1) := by decide +kernel
theorem xd_69_133 : decode prog_12_method_40_code 133 = .ok (.getfield 59, 3) := by decide +kernel
theorem xd_69_136 : decode prog_12_method_40_code 136 = .ok (.iload 5, 2) := by decide +kernel
theorem xd_69_138 : decode prog_12_method_40_code 138 = .ok (.iaload, 1) := by decide +kernel
theorem xd_69_139 : decode prog_12_method_40_code 139 = .ok (.iconst 1, 1) := by decide +kernel
theorem xd_69_140 : decode prog_12_method_40_code 140 = .ok (.iadd, 1) := by decide +kernel
theorem xd_69_141 : decode prog_12_method_40_code 141 = .ok (.goto 4, 3) := by decide +kernel
theorem xd_69_144 : decode prog_12_method_40_code 144 = .ok (.iload_n 3, 1) := by decide +kernel
theorem xd_69_145 : decode prog_12_method_40_code 145 = .ok (.istore_n 3, 1) := by decide +kernel
theorem xd_69_146 : decode prog_12_method_40_code 146 = .ok (.iinc 5 1, 3) := by decide +kernel
theorem xd_69_149 : decode prog_12_method_40_code 149 = .ok (.goto (-83), 3) := by decide +kernel
theorem xd_69_152 : decode prog_12_method_40_code 152 = .ok (.iload 4, 2) := by decide +kernel
theorem xd_69_154 : decode prog_12_method_40_code 154 = .ok (.ifCond .eq 12, 3) := by decide +kernel
theorem xd_69_157 : decode prog_12_method_40_code 157 = .ok (.aload_n 0, 1) := by decide +kernel
theorem xd_69_158 : decode prog_12_method_40_code 158 = .ok (.getfield 59, 3) := by decide +kernel
theorem xd_69_161 : decode prog_12_method_40_code 161 = .ok (.iload_n 2, 1) := by decide +kernel
theorem xd_69_162 : decode prog_12_method_40_code 162 = .ok (.iload_n 3, 1) := by decide +kernel
theorem xd_69_163 : decode prog_12_method_40_code 163 = .ok (.iastore, 1) := by decide +kernel
theorem xd_69_164 : decode prog_12_method_40_code 164 = .ok (.iconst 1, 1) := by decide +kernel
theorem xd_69_165 : decode prog_12_method_40_code 165 = .ok (.istore_n 1, 1) := by decide +kernel
theorem xd_69_166 : decode prog_12_method_40_code 166 = .ok (.iinc 2 1, 3) := by decide +kernel
theorem xd_69_169 : decode prog_12_method_40_code 169 = .ok (.goto (-134), 3) := by decide +kernel
theorem xd_69_172 : decode prog_12_method_40_code 172 = .ok (.goto (-145), 3) := by decide +kernel
theorem xd_69_175 : decode prog_12_method_40_code 175 = .ok (.return_, 1) := by decide +kernel
theorem xd_70_0 : decode prog_12_method_41_code 0 = .ok (.aload_n 0, 1) := by decide +kernel
theorem xd_70_1 : decode prog_12_method_41_code 1 = .ok (.iconst 0, 1) := by decide +kernel
theorem xd_70_2 : decode prog_12_method_41_code 2 = .ok (.putfield 69, 3) := by decide +kernel
theorem xd_70_5 : decode prog_12_method_41_code 5 = .ok (.aload_n 0, 1) := by decide +kernel
theorem xd_70_6 : decode prog_12_method_41_code 6 = .ok (.iconst 0, 1) := by decide +kernel
theorem xd_70_7 : decode prog_12_method_41_code 7 = .ok (.iload_n 1, 1) := by decide +kernel
theorem xd_70_8 : decode prog_12_method_41_code 8 = .ok (.invokevirtual 143, 3) := by decide +kernel
theorem xd_70_11 : decode prog_12_method_41_code 11 = .ok (.istore_n 3, 1) := by decide +kernel
theorem xd_70_12 : decode prog_12_method_41_code 12 = .ok (.aload_n 0, 1) := by decide +kernel
theorem xd_70_13 : decode prog_12_method_41_code 13 = .ok (.iload_n 3, 1) := by decide +kernel
theorem xd_70_14 : decode prog_12_method_41_code 14 = .ok (.iconst (-1), 1) := by decide +kernel
theorem xd_70_15 : decode prog_12_method_41_code 15 = .ok (.if_icmp .eq 12, 3) := by decide +kernel
theorem xd_70_18 : decode prog_12_method_41_code 18 = .ok (.iload_n 2, 1) := by decide +kernel
theorem xd_70_19 : decode prog_12_method_41_code 19 = .ok (.ifCond .lt 8, 3) := by decide +kernel
theorem xd_70_22 : decode prog_12_method_41_code 22 = .ok (.iload_n 2, 1) := by decide +kernel
theorem xd_70_23 : decode prog_12_method_41_code 23 = .ok (.iconst 3, 1) := by decide +kernel
theorem xd_70_24 : decode prog_12_method_41_code 24 = .ok (.if_icmp .le 7, 3) := by decide +kernel
theorem xd_70_27 : decode prog_12_method_41_code 27 = .ok (.iconst 1, 1) := by decide +kernel
theorem xd_70_28 : decode prog_12_method_41_code 28 = .ok (.goto 4, 3) := by decide +kernel
theorem xd_70_31 : decode prog_12_method_41_code 31 = .ok (.iconst 0, 1) := by decide +kernel
theorem xd_70_32 : decode prog_12_method_41_code 32 = .ok (.iconst 1, 1) := by decide +kernel
theorem xd_70_33 : decode prog_12_method_41_code 33 = .ok (.invokevirtual 75, 3) := by decide +kernel
theorem xd_70_36 : decode prog_12_method_41_code 36 = .ok (.ifCond .eq 5, 3) := by decide +kernel
theorem xd_70_39 : decode prog_12_method_41_code 39 = .ok (.iconst 0, 1) := by decide +kernel
theorem xd_70_40 : decode prog_12_method_41_code 40 = .ok (.ireturn, 1) := by decide +kernel
theorem xd_70_41 : decode prog_12_method_41_code 41 = .ok (.aload_n 0, 1) := by decide +kernel
theorem xd_70_42 : decode prog_12_method_41_code 42 = .ok (.invokevirtual 180, 3) := by decide +kernel
theorem xd_70_45 : decode prog_12_method_41_code 45 = .ok (.iload_n 2, 1) := by decide +kernel
theorem xd_70_46 : decode prog_12_method_41_code 46 = .ok (.ifCond .ne 11, 3) := by decide +kernel
theorem xd_70_49 : decode prog_12_method_41_code 49 = .ok (.aload_n 0, 1) := by decide +kernel
theorem xd_70_50 : decode prog_12_method_41_code 50 = .ok (.iload_n 3, 1) := by decide +kernel
theorem xd_70_51 : decode prog_12_method_41_code 51 = .ok (.invokevirtual 183, 3) := by decide +kernel
theorem xd_70_54 : decode prog_12_method_41_code 54 = .ok (.goto 36, 3) := by decide +kernel
theorem xd_70_57 : decode prog_12_method_41_code 57 = .ok (.iload_n 2, 1) := by decide +kernel
theorem xd_70_58 : decode prog_12_method_41_code 58 = .ok (.iconst 1, 1) := by decide +kernel
theorem xd_70_59 : decode prog_12_method_41_code 59 = .ok (.if_icmp .ne 12, 3) := by decide +kernel
theorem xd_70_62 : decode prog_12_method_41_code 62 = .ok (.aload_n 0, 1) := by decide +kernel
theorem xd_70_63 : decode prog_12_method_41_code 63 = .ok (.getfield 47, 3) := by decide +kernel
theorem xd_70_66 : decode prog_12_method_41_code 66 = .ok (.iload_n 3, 1) := by decide +kernel
theorem xd_70_67 : decode prog_12_method_41_code 67 = .ok (.iaload, 1) := by decide +kernel
theorem xd_70_68 : decode prog_12_method_41_code 68 = .ok (.goto 22, 3) := by decide +kernel
theorem xd_70_71 : decode prog_12_method_41_code 71 = .ok (.iload_n 2, 1) := by decide +kernel
theorem xd_70_72 : decode prog_12_method_41_code 72 = .ok (.iconst 2, 1) := by decide +kernel
theorem xd_70_73 : decode prog_12_method_41_code 73 = .ok (.if_icmp .ne 11, 3) := by decide +kernel
theorem xd_70_76 : decode prog_12_method_41_code 76 = .ok (.aload_n 0, 1) := by decide +kernel
theorem xd_70_77 : decode prog_12_method_41_code 77 = .ok (.iload_n 3, 1) := by decide +kernel
theorem xd_70_78 : decode prog_12_method_41_code 78 = .ok (.invokevirtual 186, 3) := by decide +kernel
theorem xd_70_81 : decode prog_12_method_41_code 81 = .ok (.goto 9, 3) := by decide +kernel
theorem xd_70_84 : decode prog_12_method_41_code 84 = .ok (.aload_n 0, 1) := by decide +kernel
theorem xd_70_85 : decode prog_12_method_41_code 85 = .ok (.getfield 59, 3) := by decide +kernel
theorem xd_70_88 : decode prog_12_method_41_code 88 = .ok (.iload_n 3, 1) := by decide +kernel
theorem xd_70_89 : decode prog_12_method_41_code 89 = .ok (.iaload, 1) := by decide +kernel
theorem xd_70_90 : decode prog_12_method_41_code 90 = .ok (.ireturn, 1) := by decide +kernel
theorem xd_71_0 : decode prog_12_method_42_code 0 = .ok (.aload_n 0, 1) := by decide +kernel
theorem xd_71_1 : decode prog_12_method_42_code 1 = .ok (.iconst 0, 1) := by decide +kernel
theorem xd_71_2 : decode prog_12_method_42_code 2 = .ok (.iload_n 1, 1) := by decide +kernel
theorem xd_71_3 : decode prog_12_method_42_code 3 = .ok (.invokevirtual 143, 3) := by decide +kernel
theorem xd_71_6 : decode prog_12_method_42_code 6 = .ok (.istore_n 3, 1) := by decide +kernel
theorem xd_71_7 : decode prog_12_method_42_code 7 = .ok (.iload_n 3, 1) := by decide +kernel
theorem xd_71_8 : decode prog_12_method_42_code 8 = .ok (.iconst (-1), 1) := by decide +kernel
theorem xd_71_9 : decode prog_12_method_42_code 9 = .ok (.if_icmp .eq 17, 3) := by decide +kernel
theorem xd_71_12 : decode prog_12_method_42_code 12 = .ok (.iload_n 2, 1) := by decide +kernel
theorem xd_71_13 : decode prog_12_method_42_code 13 = .ok (.ifCond .lt 13, 3) := by decide +kernel
theorem xd_71_16 : decode prog_12_method_42_code 16 = .ok (.iload_n 2, 1) := by decide +kernel
theorem xd_71_17 : decode prog_12_method_42_code 17 = .ok (.aload_n 0, 1) := by decide +kernel
theorem xd_71_18 : decode prog_12_method_42_code 18 = .ok (.getfield 47, 3) := by decide +kernel
theorem xd_71_21 : decode prog_12_method_42_code 21 = .ok (.iload_n 3, 1) := by decide +kernel
theorem xd_71_22 : decode prog_12_method_42_code 22 = .ok (.iaload, 1) := by decide +kernel
theorem xd_71_23 : decode prog_12_method_42_code 23 = .ok (.if_icmp .lt 7, 3) := by decide +kernel
theorem xd_71_26 : decode prog_12_method_42_code 26 = .ok (.iconst (-1), 1) := by decide +kernel
theorem xd_71_27 : decode prog_12_method_42_code 27 = .ok (.goto 9, 3) := by decide +kernel
theorem xd_71_30 : decode prog_12_method_42_code 30 = .ok (.bipush 8, 2) := by decide +kernel
theorem xd_71_32 : decode prog_12_method_42_code 32 = .ok (.iload_n 3, 1) := by decide +kernel
theorem xd_71_33 : decode prog_12_method_42_code 33 = .ok (.imul, 1) := by decide +kernel
theorem xd_71_34 : decode prog_12_method_42_code 34 = .ok (.iload_n 2, 1) := by decide +kernel
theorem xd_71_35 : decode prog_12_method_42_code 35 = .ok (.iadd, 1) := by decide +kernel
theorem xd_71_36 : decode prog_12_method_42_code 36 = .ok (.ireturn, 1) := by decide +kernel
theorem xd_72_0 : decode prog_12_method_43_code 0 = .ok (.aload_n 0, 1) := by decide +kernel
theorem xd_72_1 : decode prog_12_method_43_code 1 = .ok (.iconst 0, 1) := by decide +kernel
theorem xd_72_2 : decode prog_12_method_43_code 2 = .ok (.putfield 69, 3) := by decide +kernel
theorem xd_72_5 : decode prog_12_method_43_code 5 = .ok (.aload_n 0, 1) := by decide +kernel
theorem xd_72_6 : decode prog_12_method_43_code 6 = .ok (.iload_n 1, 1) := by decide +kernel
theorem xd_72_7 : decode prog_12_method_43_code 7 = .ok (.iload_n 2, 1) := by decide +kernel
theorem xd_72_8 : decode prog_12_method_43_code 8 = .ok (.invokevirtual 189, 3) := by decide +kernel
theorem xd_72_11 : decode prog_12_method_43_code 11 = .ok (.istore 4, 2) := by decide +kernel
theorem xd_72_13 : decode prog_12_method_43_code 13 = .ok (.aload_n 0, 1) := by decide +kernel
theorem xd_72_14 : decode prog_12_method_43_code 14 = .ok (.iload 4, 2) := by decide +kernel
theorem xd_72_16 : decode prog_12_method_43_code 16 = .ok (.iconst (-1), 1) := by decide +kernel
theorem xd_72_17 : decode prog_12_method_43_code 17 = .ok (.if_icmp .eq 12, 3) := by decide +kernel
theorem xd_72_20 : decode prog_12_method_43_code 20 = .ok (.iload_n 3, 1) := by decide +kernel
theorem xd_72_21 : decode prog_12_method_43_code 21 = .ok (.ifCond .lt 8, 3) := by decide +kernel
theorem xd_72_24 : decode prog_12_method_43_code 24 = .ok (.iload_n 3, 1) := by decide +kernel
theorem xd_72_25 : decode prog_12_method_43_code 25 = .ok (.iconst 1, 1) := by decide +kernel
theorem xd_72_26 : decode prog_12_method_43_code 26 = .ok (.if_icmp .le 7, 3) := by decide +kernel
theorem xd_72_29 : decode prog_12_method_43_code 29 = .ok (.iconst 1, 1) := by decide +kernel
theorem xd_72_30 : decode prog_12_method_43_code 30 = .ok (.goto 4, 3) := by decide +kernel
theorem xd_72_33 : decode prog_12_method_43_code 33 = .ok (.iconst 0, 1) := by decide +kernel
theorem xd_72_34 : decode prog_12_method_43_code 34 = .ok (.iconst 1, 1) := by decide +kernel
theorem xd_72_35 : decode prog_12_method_43_code 35 = .ok (.invokevirtual 75, 3) := by decide +kernel
theorem xd_72_38 : decode prog_12_method_43_code 38 = .ok (.ifCond .eq 5, 3) := by decide +kernel
theorem xd_72_41 : decode prog_12_method_43_code 41 = .ok (.iconst 0, 1) := by decide +kernel
theorem xd_72_42 : decode prog_12_method_43_code 42 = .ok (.ireturn, 1) := by decide +kernel
theorem xd_72_43 : decode prog_12_method_43_code 43 = .ok (.iload_n 3, 1) := by decide +kernel
theorem xd_72_44 : decode prog_12_method_43_code 44 = .ok (.ifCond .ne 13, 3) := by decide +kernel
theorem xd_72_47 : decode prog_12_method_43_code 47 = .ok (.aload_n 0, 1) := by decide +kernel
theorem xd_72_48 : decode prog_12_method_43_code 48 = .ok (.getfield 50, 3) := by decide +kernel
theorem xd_72_51 : decode prog_12_method_43_code 51 = .ok (.iload 4, 2) := by decide +kernel
theorem xd_72_53 : decode prog_12_method_43_code 53 = .ok (.iaload, 1) := by decide +kernel
theorem xd_72_54 : decode prog_12_method_43_code 54 = .ok (.goto 10, 3) := by decide +kernel
theorem xd_72_57 : decode prog_12_method_43_code 57 = .ok (.aload_n 0, 1) := by decide +kernel
theorem xd_72_58 : decode prog_12_method_43_code 58 = .ok (.getfield 53, 3) := by decide +kernel
theorem xd_72_61 : decode prog_12_method_43_code 61 = .ok (.iload 4, 2) := by decide +kernel
theorem xd_72_63 : decode prog_12_method_43_code 63 = .ok (.iaload, 1) := by decide +kernel
theorem xd_72_64 : decode prog_12_method_43_code 64 = .ok (.ireturn, 1) := by decide +kernel
theorem xd_73_0 : decode prog_12_method_44_code 0 = .ok (.aload_n 0, 1) := by decide +kernel
theorem xd_73_1 : decode prog_12_method_44_code 1 = .ok (.iconst 0, 1) := by decide +kernel
theorem xd_73_2 : decode prog_12_method_44_code 2 = .ok (.putfield 69, 3) := by decide +kernel
theorem xd_73_5 : decode prog_12_method_44_code 5 = .ok (.aload_n 0, 1) := by decide +kernel
theorem xd_73_6 : decode prog_12_method_44_code 6 = .ok (.iload_n 1, 1) := by decide +kernel
theorem xd_73_7 : decode prog_12_method_44_code 7 = .ok (.iload_n 2, 1) := by decide +kernel
theorem xd_73_8 : decode prog_12_method_44_code 8 = .ok (.invokevirtual 189, 3) := by decide +kernel
theorem xd_73_11 : decode prog_12_method_44_code 11 = .ok (.istore 4, 2) := by decide +kernel
theorem xd_73_13 : decode prog_12_method_44_code 13 = .ok (.iload 4, 2) := by decide +kernel
theorem xd_73_15 : decode prog_12_method_44_code 15 = .ok (.iconst (-1), 1) := by decide +kernel
theorem xd_73_16 : decode prog_12_method_44_code 16 = .ok (.if_icmp .eq 40, 3) := by decide +kernel
theorem xd_73_19 : decode prog_12_method_44_code 19 = .ok (.aload_n 0, 1) := by decide +kernel
theorem xd_73_20 : decode prog_12_method_44_code 20 = .ok (.getfield 50, 3) := by decide +kernel
theorem xd_73_23 : decode prog_12_method_44_code 23 = .ok (.iload 4, 2) := by decide +kernel
theorem xd_73_25 : decode prog_12_method_44_code 25 = .ok (.iaload, 1) := by decide +kernel
theorem xd_73_26 : decode prog_12_method_44_code 26 = .ok (.ifCond .eq 30, 3) := by decide +kernel
theorem xd_73_29 : decode prog_12_method_44_code 29 = .ok (.aload_n 0, 1) := by decide +kernel
theorem xd_73_30 : decode prog_12_method_44_code 30 = .ok (.getfield 50, 3) := by decide +kernel
theorem xd_73_33 : decode prog_12_method_44_code 33 = .ok (.iload 4, 2) := by decide +kernel
theorem xd_73_35 : decode prog_12_method_44_code 35 = .ok (.iaload, 1) := by decide +kernel
theorem xd_73_36 : decode prog_12_method_44_code 36 = .ok (.iconst 2, 1) := by decide +kernel
theorem xd_73_37 : decode prog_12_method_44_code 37 = .ok (.if_icmp .eq 19, 3) := by decide +kernel
theorem xd_73_40 : decode prog_12_method_44_code 40 = .ok (.aload_n 0, 1) := by decide +kernel
theorem xd_73_41 : decode prog_12_method_44_code 41 = .ok (.getfield 50, 3) := by decide +kernel
theorem xd_73_44 : decode prog_12_method_44_code 44 = .ok (.iload 4, 2) := by decide +kernel
theorem xd_73_46 : decode prog_12_method_44_code 46 = .ok (.iaload, 1) := by decide +kernel
theorem xd_73_47 : decode prog_12_method_44_code 47 = .ok (.bipush 6, 2) := by decide +kernel
theorem xd_73_49 : decode prog_12_method_44_code 49 = .ok (.if_icmp .eq 7, 3) := by decide +kernel
theorem xd_73_52 : decode prog_12_method_44_code 52 = .ok (.iconst 1, 1) := by decide +kernel
theorem xd_73_53 : decode prog_12_method_44_code 53 = .ok (.goto 4, 3) := by decide +kernel
theorem xd_73_56 : decode prog_12_method_44_code 56 = .ok (.iconst 0, 1) := by decide +kernel
theorem xd_73_57 : decode prog_12_method_44_code 57 = .ok (.istore 5, 2) := by decide +kernel
theorem xd_73_59 : decode prog_12_method_44_code 59 = .ok (.aload_n 0, 1) := by decide +kernel
theorem xd_73_60 : decode prog_12_method_44_code 60 = .ok (.iload 5, 2) := by decide +kernel
theorem xd_73_62 : decode prog_12_method_44_code 62 = .ok (.ifCond .eq 18, 3) := by decide +kernel
theorem xd_73_65 : decode prog_12_method_44_code 65 = .ok (.iload_n 3, 1) := by decide +kernel
theorem xd_73_66 : decode prog_12_method_44_code 66 = .ok (.ifCond .lt 14, 3) := by decide +kernel
theorem xd_73_69 : decode prog_12_method_44_code 69 = .ok (.iload_n 3, 1) := by decide +kernel
theorem xd_73_70 : decode prog_12_method_44_code 70 = .ok (.aload_n 0, 1) := by decide +kernel
theorem xd_73_71 : decode prog_12_method_44_code 71 = .ok (.getfield 53, 3) := by decide +kernel
theorem xd_73_74 : decode prog_12_method_44_code 74 = .ok (.iload 4, 2) := by decide +kernel
theorem xd_73_76 : decode prog_12_method_44_code 76 = .ok (.iaload, 1) := by decide +kernel
theorem xd_73_77 : decode prog_12_method_44_code 77 = .ok (.if_icmp .lt 7, 3) := by decide +kernel
theorem xd_73_80 : decode prog_12_method_44_code 80 = .ok (.iconst 1, 1) := by decide +kernel
theorem xd_73_81 : decode prog_12_method_44_code 81 = .ok (.goto 4, 3) := by decide +kernel
theorem xd_73_84 : decode prog_12_method_44_code 84 = .ok (.iconst 0, 1) := by decide +kernel
theorem xd_73_85 : decode prog_12_method_44_code 85 = .ok (.iconst 1, 1) := by decide +kernel
theorem xd_73_86 : decode prog_12_method_44_code 86 = .ok (.invokevirtual 75, 3) := by decide +kernel
theorem xd_73_89 : decode prog_12_method_44_code 89 = .ok (.ifCond .eq 5, 3) := by decide +kernel
theorem xd_73_92 : decode prog_12_method_44_code 92 = .ok (.iconst 0, 1) := by decide +kernel
theorem xd_73_93 : decode prog_12_method_44_code 93 = .ok (.ireturn, 1) := by decide +kernel
theorem xd_73_94 : decode prog_12_method_44_code 94 = .ok (.aload_n 0, 1) := by decide +kernel
theorem xd_73_95 : decode prog_12_method_44_code 95 = .ok (.getfield 56, 3) := by decide +kernel
theorem xd_73_98 : decode prog_12_method_44_code 98 = .ok (.bipush 20, 2) := by decide +kernel
theorem xd_73_100 : decode prog_12_method_44_code 100 = .ok (.iload 4, 2) := by decide +kernel
theorem xd_73_102 : decode prog_12_method_44_code 102 = .ok (.imul, 1) := by decide +kernel
theorem xd_73_103 : decode prog_12_method_44_code 103 = .ok (.iload_n 3, 1) := by decide +kernel
theorem xd_73_104 : decode prog_12_method_44_code 104 = .ok (.iadd, 1) := by decide +kernel
theorem xd_73_105 : decode prog_12_method_44_code 105 = .ok (.iaload, 1) := by decide +kernel
theorem xd_73_106 : decode prog_12_method_44_code 106 = .ok (.ireturn, 1) := by decide +kernel
theorem xd_74_0 : decode prog_12_method_45_code 0 = .ok (.aload_n 0, 1) := by decide +kernel
theorem xd_74_1 : decode prog_12_method_45_code 1 = .ok (.iconst 0, 1) := by decide +kernel
theorem xd_74_2 : decode prog_12_method_45_code 2 = .ok (.putfield 69, 3) := by decide +kernel
theorem xd_74_5 : decode prog_12_method_45_code 5 = .ok (.aload_n 0, 1) := by decide +kernel
theorem xd_74_6 : decode prog_12_method_45_code 6 = .ok (.iload_n 1, 1) := by decide +kernel
theorem xd_74_7 : decode prog_12_method_45_code 7 = .ok (.iload_n 2, 1) := by decide +kernel
theorem xd_74_8 : decode prog_12_method_45_code 8 = .ok (.invokevirtual 189, 3) := by decide +kernel
theorem xd_74_11 : decode prog_12_method_45_code 11 = .ok (.istore 4, 2) := by decide +kernel
theorem xd_74_13 : decode prog_12_method_45_code 13 = .ok (.aload_n 0, 1) := by decide +kernel
theorem xd_74_14 : decode prog_12_method_45_code 14 = .ok (.iload 4, 2) := by decide +kernel
theorem xd_74_16 : decode prog_12_method_45_code 16 = .ok (.iconst (-1), 1) := by decide +kernel
theorem xd_74_17 : decode prog_12_method_45_code 17 = .ok (.if_icmp .eq 25, 3) := by decide +kernel
theorem xd_74_20 : decode prog_12_method_45_code 20 = .ok (.aload_n 0, 1) := by decide +kernel
theorem xd_74_21 : decode prog_12_method_45_code 21 = .ok (.getfield 50, 3) := by decide +kernel
theorem xd_74_24 : decode prog_12_method_45_code 24 = .ok (.iload 4, 2) := by decide +kernel
theorem xd_74_26 : decode prog_12_method_45_code 26 = .ok (.iaload, 1) := by decide +kernel
theorem xd_74_27 : decode prog_12_method_45_code 27 = .ok (.ifCond .ne 15, 3) := by decide +kernel
theorem xd_74_30 : decode prog_12_method_45_code 30 = .ok (.iload_n 3, 1) := by decide +kernel
theorem xd_74_31 : decode prog_12_method_45_code 31 = .ok (.ldc 192, 2) := by decide +kernel
theorem xd_74_33 : decode prog_12_method_45_code 33 = .ok (.if_icmp .lt 9, 3) := by decide +kernel
theorem xd_74_36 : decode prog_12_method_45_code 36 = .ok (.iload_n 3, 1) := by decide +kernel
theorem xd_74_37 : decode prog_12_method_45_code 37 = .ok (.ldc 193, 2) := by decide +kernel
theorem xd_74_39 : decode prog_12_method_45_code 39 = .ok (.if_icmp .le 7, 3) := by decide +kernel
theorem xd_74_42 : decode prog_12_method_45_code 42 = .ok (.iconst 1, 1) := by decide +kernel
theorem xd_74_43 : decode prog_12_method_45_code 43 = .ok (.goto 4, 3) := by decide +kernel
theorem xd_74_46 : decode prog_12_method_45_code 46 = .ok (.iconst 0, 1) := by decide +kernel
theorem xd_74_47 : decode prog_12_method_45_code 47 = .ok (.iconst 1, 1) := by decide +kernel
theorem xd_74_48 : decode prog_12_method_45_code 48 = .ok (.invokevirtual 75, 3) := by decide +kernel
theorem xd_74_51 : decode prog_12_method_45_code 51 = .ok (.ifCond .eq 5, 3) := by decide +kernel
theorem xd_74_54 : decode prog_12_method_45_code 54 = .ok (.iconst 0, 1) := by decide +kernel
theorem xd_74_55 : decode prog_12_method_45_code 55 = .ok (.ireturn, 1) := by decide +kernel
theorem xd_74_56 : decode prog_12_method_45_code 56 = .ok (.aload_n 0, 1) := by decide +kernel
theorem xd_74_57 : decode prog_12_method_45_code 57 = .ok (.getfield 53, 3) := by decide +kernel
theorem xd_74_60 : decode prog_12_method_45_code 60 = .ok (.iload 4, 2) := by decide +kernel
theorem xd_74_62 : decode prog_12_method_45_code 62 = .ok (.iaload, 1) := by decide +kernel
theorem xd_74_63 : decode prog_12_method_45_code 63 = .ok (.istore 5, 2) := by decide +kernel
theorem xd_74_65 : decode prog_12_method_45_code 65 = .ok (.aload_n 0, 1) := by decide +kernel
theorem xd_74_66 : decode prog_12_method_45_code 66 = .ok (.getfield 53, 3) := by decide +kernel
theorem xd_74_69 : decode prog_12_method_45_code 69 = .ok (.iload 4, 2) := by decide +kernel
theorem xd_74_71 : decode prog_12_method_45_code 71 = .ok (.iload_n 3, 1) := by decide +kernel
theorem xd_74_72 : decode prog_12_method_45_code 72 = .ok (.iastore, 1) := by decide +kernel
theorem xd_74_73 : decode prog_12_method_45_code 73 = .ok (.iload 5, 2) := by decide +kernel
theorem xd_74_75 : decode prog_12_method_45_code 75 = .ok (.ireturn, 1) := by decide +kernel
theorem xd_75_0 : decode prog_12_method_46_code 0 = .ok (.iconst 0, 1) := by decide +kernel
theorem xd_75_1 : decode prog_12_method_46_code 1 = .ok (.istore_n 3, 1) := by decide +kernel
theorem xd_75_2 : decode prog_12_method_46_code 2 = .ok (.iload_n 3, 1) := by decide +kernel
theorem xd_75_3 : decode prog_12_method_46_code 3 = .ok (.aload_n 0, 1) := by decide +kernel
theorem xd_75_4 : decode prog_12_method_46_code 4 = .ok (.getfield 47, 3) := by decide +kernel
theorem xd_75_7 : decode prog_12_method_46_code 7 = .ok (.iload_n 1, 1) := by decide +kernel
theorem xd_75_8 : decode prog_12_method_46_code 8 = .ok (.iaload, 1) := by decide +kernel
theorem xd_75_9 : decode prog_12_method_46_code 9 = .ok (.if_icmp .ge 121, 3) := by decide +kernel
theorem xd_75_12 : decode prog_12_method_46_code 12 = .ok (.bipush 8, 2) := by decide +kernel
theorem xd_75_14 : decode prog_12_method_46_code 14 = .ok (.iload_n 1, 1) := by decide +kernel
theorem xd_75_15 : decode prog_12_method_46_code 15 = .ok (.imul, 1) := by decide +kernel
theorem xd_75_16 : decode prog_12_method_46_code 16 = .ok (.iload_n 3, 1) := by decide +kernel
theorem xd_75_17 : decode prog_12_method_46_code 17 = .ok (.iadd, 1) := by decide +kernel
theorem xd_75_18 : decode prog_12_method_46_code 18 = .ok (.istore 4, 2) := by decide +kernel
theorem xd_75_20 : decode prog_12_method_46_code 20 = .ok (.aload_n 0, 1) := by decide +kernel
theorem xd_75_21 : decode prog_12_method_46_code 21 = .ok (.getfield 28, 3) := by decide +kernel
theorem xd_75_24 : decode prog_12_method_46_code 24 = .ok (.bipush 8, 2) := by decide +kernel
theorem xd_75_26 : decode prog_12_method_46_code 26 = .ok (.iload_n 2, 1) := by decide +kernel
theorem xd_75_27 : decode prog_12_method_46_code 27 = .ok (.imul, 1) := by decide +kernel
theorem xd_75_28 : decode prog_12_method_46_code 28 = .ok (.iload_n 3, 1) := by decide +kernel
theorem xd_75_29 : decode prog_12_method_46_code 29 = .ok (.iadd, 1) := by decide +kernel
theorem xd_75_30 : decode prog_12_method_46_code 30 = .ok (.iaload, 1) := by decide +kernel
theorem xd_75_31 : decode prog_12_method_46_code 31 = .ok (.istore 5, 2) := by decide +kernel
theorem xd_75_33 : decode prog_12_method_46_code 33 = .ok (.iload 5, 2) := by decide +kernel
theorem xd_75_35 : decode prog_12_method_46_code 35 = .ok (.iconst 4, 1) := by decide +kernel
theorem xd_75_36 : decode prog_12_method_46_code 36 = .ok (.if_icmp .ne 28, 3) := by decide +kernel
theorem xd_75_39 : decode prog_12_method_46_code 39 = .ok (.aload_n 0, 1) := by decide +kernel
theorem xd_75_40 : decode prog_12_method_46_code 40 = .ok (.getfield 50, 3) := by decide +kernel
theorem xd_75_43 : decode prog_12_method_46_code 43 = .ok (.iload 4, 2) := by decide +kernel
theorem xd_75_45 : decode prog_12_method_46_code 45 = .ok (.iaload, 1) := by decide +kernel
theorem xd_75_46 : decode prog_12_method_46_code 46 = .ok (.iconst 3, 1) := by decide +kernel
theorem xd_75_47 : decode prog_12_method_46_code 47 = .ok (.if_icmp .ne 17, 3) := by decide +kernel
theorem xd_75_50 : decode prog_12_method_46_code 50 = .ok (.aload_n 0, 1) := by decide +kernel
theorem xd_75_51 : decode prog_12_method_46_code 51 = .ok (.getfield 53, 3) := by decide +kernel
theorem xd_75_54 : decode prog_12_method_46_code 54 = .ok (.iload 4, 2) := by decide +kernel
theorem xd_75_56 : decode prog_12_method_46_code 56 = .ok (.iaload, 1) := by decide +kernel
theorem xd_75_57 : decode prog_12_method_46_code 57 = .ok (.ifCond .ne 7, 3) := by decide +kernel
theorem xd_75_60 : decode prog_12_method_46_code 60 = .ok (.iconst 1, 1) := by decide +kernel
theorem xd_75_61 : decode prog_12_method_46_code 61 = .ok (.goto 4, 3) := by decide +kernel
theorem xd_75_64 : decode prog_12_method_46_code 64 = .ok (.iconst 0, 1) := by decide +kernel
theorem xd_75_65 : decode prog_12_method_46_code 65 = .ok (.istore 6, 2) := by decide +kernel
theorem xd_75_67 : decode prog_12_method_46_code 67 = .ok (.aload_n 0, 1) := by decide +kernel
theorem xd_75_68 : decode prog_12_method_46_code 68 = .ok (.getfield 50, 3) := by decide +kernel
theorem xd_75_71 : decode prog_12_method_46_code 71 = .ok (.iload 4, 2) := by decide +kernel
theorem xd_75_73 : decode prog_12_method_46_code 73 = .ok (.iaload, 1) := by decide +kernel
theorem xd_75_74 : decode prog_12_method_46_code 74 = .ok (.bipush 6, 2) := by decide +kernel
theorem xd_75_76 : decode prog_12_method_46_code 76 = .ok (.if_icmp .ne 21, 3) := by decide +kernel
theorem xd_75_79 : decode prog_12_method_46_code 79 = .ok (.aload_n 0, 1) := by decide +kernel
theorem xd_75_80 : decode prog_12_method_46_code 80 = .ok (.getfield 31, 3) := by decide +kernel
theorem xd_75_83 : decode prog_12_method_46_code 83 = .ok (.bipush 8, 2) := by decide +kernel
theorem xd_75_85 : decode prog_12_method_46_code 85 = .ok (.iload_n 2, 1) := by decide +kernel
theorem xd_75_86 : decode prog_12_method_46_code 86 = .ok (.imul, 1) := by decide +kernel
theorem xd_75_87 : decode prog_12_method_46_code 87 = .ok (.iload_n 3, 1) := by decide +kernel
theorem xd_75_88 : decode prog_12_method_46_code 88 = .ok (.iadd, 1) := by decide +kernel
theorem xd_75_89 : decode prog_12_method_46_code 89 = .ok (.baload, 1) := by decide +kernel
theorem xd_75_90 : decode prog_12_method_46_code 90 = .ok (.ifCond .eq 7, 3) := by decide +kernel
theorem xd_75_93 : decode prog_12_method_46_code 93 = .ok (.iconst 1, 1) := by decide +kernel
theorem xd_75_94 : decode prog_12_method_46_code 94 = .ok (.goto 4, 3) := by decide +kernel
theorem xd_75_97 : decode prog_12_method_46_code 97 = .ok (.iconst 0, 1) := by decide +kernel
theorem xd_75_98 : decode prog_12_method_46_code 98 = .ok (.istore 7, 2) := by decide +kernel
theorem xd_75_100 : decode prog_12_method_46_code 100 = .ok (.aload_n 0, 1) := by decide +kernel
theorem xd_75_101 : decode prog_12_method_46_code 101 = .ok (.getfield 50, 3) := by decide +kernel
theorem xd_75_104 : decode prog_12_method_46_code 104 = .ok (.iload 4, 2) := by decide +kernel
theorem xd_75_106 : decode prog_12_method_46_code 106 = .ok (.iaload, 1) := by decide +kernel
theorem xd_75_107 : decode prog_12_method_46_code 107 = .ok (.iload 5, 2) := by decide +kernel
theorem xd_75_109 : decode prog_12_method_46_code 109 = .ok (.if_icmp .eq 15, 3) := by decide +kernel
theorem xd_75_112 : decode prog_12_method_46_code 112 = .ok (.iload 6, 2) := by decide +kernel
theorem xd_75_114 : decode prog_12_method_46_code 114 = .ok (.ifCond .ne 10, 3) := by decide +kernel
theorem xd_75_117 : decode prog_12_method_46_code 117 = .ok (.iload 7, 2) := by decide +kernel
theorem xd_75_119 : decode prog_12_method_46_code 119 = .ok (.ifCond .ne 5, 3) := by decide +kernel
theorem xd_75_122 : decode prog_12_method_46_code 122 = .ok (.iload_n 3, 1) := by decide +kernel
theorem xd_75_123 : decode prog_12_method_46_code 123 = .ok (.ireturn, 1) := by decide +kernel
theorem xd_75_124 : decode prog_12_method_46_code 124 = .ok (.iinc 3 1, 3) := by decide +kernel
theorem xd_75_127 : decode prog_12_method_46_code 127 = .ok (.goto (-125), 3) := by decide +kernel
theorem xd_75_130 : decode prog_12_method_46_code 130 = .ok (.iconst (-1), 1) := by decide +kernel
theorem xd_75_131 : decode prog_12_method_46_code 131 = .ok (.ireturn, 1) := by decide +kernel
theorem xd_76_0 : decode prog_12_method_47_code 0 = .ok (.aload_n 0, 1) := by decide +kernel
theorem xd_76_1 : decode prog_12_method_47_code 1 = .ok (.iconst 0, 1) := by decide +kernel
theorem xd_76_2 : decode prog_12_method_47_code 2 = .ok (.putfield 69, 3) := by decide +kernel
theorem xd_76_5 : decode prog_12_method_47_code 5 = .ok (.aload_n 0, 1) := by decide +kernel
theorem xd_76_6 : decode prog_12_method_47_code 6 = .ok (.iload_n 1, 1) := by decide +kernel
theorem xd_76_7 : decode prog_12_method_47_code 7 = .ok (.ifCond .lt 12, 3) := by decide +kernel
theorem xd_76_10 : decode prog_12_method_47_code 10 = .ok (.iload_n 2, 1) := by decide +kernel
theorem xd_76_11 : decode prog_12_method_47_code 11 = .ok (.ifCond .lt 8, 3) := by decide +kernel
theorem xd_76_14 : decode prog_12_method_47_code 14 = .ok (.iload_n 2, 1) := by decide +kernel
theorem xd_76_15 : decode prog_12_method_47_code 15 = .ok (.iconst 2, 1) := by decide +kernel
theorem xd_76_16 : decode prog_12_method_47_code 16 = .ok (.if_icmp .le 7, 3) := by decide +kernel
theorem xd_76_19 : decode prog_12_method_47_code 19 = .ok (.iconst 1, 1) := by decide +kernel
theorem xd_76_20 : decode prog_12_method_47_code 20 = .ok (.goto 4, 3) := by decide +kernel
theorem xd_76_23 : decode prog_12_method_47_code 23 = .ok (.iconst 0, 1) := by decide +kernel
theorem xd_76_24 : decode prog_12_method_47_code 24 = .ok (.iconst 1, 1) := by decide +kernel
theorem xd_76_25 : decode prog_12_method_47_code 25 = .ok (.invokevirtual 75, 3) := by decide +kernel
theorem xd_76_28 : decode prog_12_method_47_code 28 = .ok (.ifCond .eq 5, 3) := by decide +kernel
theorem xd_76_31 : decode prog_12_method_47_code 31 = .ok (.iconst 0, 1) := by decide +kernel
theorem xd_76_32 : decode prog_12_method_47_code 32 = .ok (.ireturn, 1) := by decide +kernel
theorem xd_76_33 : decode prog_12_method_47_code 33 = .ok (.iload_n 1, 1) := by decide +kernel
theorem xd_76_34 : decode prog_12_method_47_code 34 = .ok (.istore_n 3, 1) := by decide +kernel
theorem xd_76_35 : decode prog_12_method_47_code 35 = .ok (.iconst 0, 1) := by decide +kernel
theorem xd_76_36 : decode prog_12_method_47_code 36 = .ok (.istore 4, 2) := by decide +kernel
theorem xd_76_38 : decode prog_12_method_47_code 38 = .ok (.iload 4, 2) := by decide +kernel
theorem xd_76_40 : decode prog_12_method_47_code 40 = .ok (.aload_n 0, 1) := by decide +kernel
theorem xd_76_41 : decode prog_12_method_47_code 41 = .ok (.getfield 35, 3) := by decide +kernel
theorem xd_76_44 : decode prog_12_method_47_code 44 = .ok (.iconst 0, 1) := by decide +kernel
theorem xd_76_45 : decode prog_12_method_47_code 45 = .ok (.iaload, 1) := by decide +kernel
theorem xd_76_46 : decode prog_12_method_47_code 46 = .ok (.if_icmp .ge 126, 3) := by decide +kernel
theorem xd_76_49 : decode prog_12_method_47_code 49 = .ok (.aload_n 0, 1) := by decide +kernel
theorem xd_76_50 : decode prog_12_method_47_code 50 = .ok (.iload 4, 2) := by decide +kernel
theorem xd_76_52 : decode prog_12_method_47_code 52 = .ok (.invokevirtual 183, 3) := by decide +kernel
theorem xd_76_55 : decode prog_12_method_47_code 55 = .ok (.istore 5, 2) := by decide +kernel
theorem xd_76_57 : decode prog_12_method_47_code 57 = .ok (.iload 5, 2) := by decide +kernel
theorem xd_76_59 : decode prog_12_method_47_code 59 = .ok (.iconst (-1), 1) := by decide +kernel
theorem xd_76_60 : decode prog_12_method_47_code 60 = .ok (.if_icmp .ne 7, 3) := by decide +kernel
theorem xd_76_63 : decode prog_12_method_47_code 63 = .ok (.iconst 1, 1) := by decide +kernel
theorem xd_76_64 : decode prog_12_method_47_code 64 = .ok (.goto 25, 3) := by decide +kernel
theorem xd_76_67 : decode prog_12_method_47_code 67 = .ok (.aload_n 0, 1) := by decide +kernel
theorem xd_76_68 : decode prog_12_method_47_code 68 = .ok (.getfield 25, 3) := by decide +kernel
theorem xd_76_71 : decode prog_12_method_47_code 71 = .ok (.iload 5, 2) := by decide +kernel
theorem xd_76_73 : decode prog_12_method_47_code 73 = .ok (.iaload, 1) := by decide +kernel
theorem xd_76_74 : decode prog_12_method_47_code 74 = .ok (.aload_n 0, 1) := by decide +kernel
theorem xd_76_75 : decode prog_12_method_47_code 75 = .ok (.getfield 47, 3) := by decide +kernel
theorem xd_76_78 : decode prog_12_method_47_code 78 = .ok (.iload 4, 2) := by decide +kernel
theorem xd_76_80 : decode prog_12_method_47_code 80 = .ok (.iaload, 1) := by decide +kernel
theorem xd_76_81 : decode prog_12_method_47_code 81 = .ok (.if_icmp .eq 7, 3) := by decide +kernel
theorem xd_76_84 : decode prog_12_method_47_code 84 = .ok (.iconst 2, 1) := by decide +kernel
theorem xd_76_85 : decode prog_12_method_47_code 85 = .ok (.goto 4, 3) := by decide +kernel
theorem xd_76_88 : decode prog_12_method_47_code 88 = .ok (.iconst 0, 1) := by decide +kernel
theorem xd_76_89 : decode prog_12_method_47_code 89 = .ok (.istore 6, 2) := by decide +kernel
theorem xd_76_91 : decode prog_12_method_47_code 91 = .ok (.iload 6, 2) := by decide +kernel
theorem xd_76_93 : decode prog_12_method_47_code 93 = .ok (.ifCond .ne 14, 3) := by decide +kernel
theorem xd_76_96 : decode prog_12_method_47_code 96 = .ok (.aload_n 0, 1) := by decide +kernel
theorem xd_76_97 : decode prog_12_method_47_code 97 = .ok (.iload 4, 2) := by decide +kernel
theorem xd_76_99 : decode prog_12_method_47_code 99 = .ok (.iload 5, 2) := by decide +kernel
theorem xd_76_101 : decode prog_12_method_47_code 101 = .ok (.invokevirtual 194, 3) := by decide +kernel
theorem xd_76_104 : decode prog_12_method_47_code 104 = .ok (.goto 4, 3) := by decide +kernel
theorem xd_76_107 : decode prog_12_method_47_code 107 = .ok (.iconst (-1), 1) := by decide +kernel
theorem xd_76_108 : decode prog_12_method_47_code 108 = .ok (.istore 7, 2) := by decide +kernel
theorem xd_76_110 : decode prog_12_method_47_code 110 = .ok (.iload 7, 2) := by decide +kernel
theorem xd_76_112 : decode prog_12_method_47_code 112 = .ok (.iconst (-1), 1) := by decide +kernel
theorem xd_76_113 : decode prog_12_method_47_code 113 = .ok (.if_icmp .eq 7, 3) := by decide +kernel
theorem xd_76_116 : decode prog_12_method_47_code 116 = .ok (.iconst 3, 1) := by decide +kernel
theorem xd_76_117 : decode prog_12_method_47_code 117 = .ok (.goto 5, 3) := by decide +kernel
theorem xd_76_120 : decode prog_12_method_47_code 120 = .ok (.iload 6, 2) := by decide +kernel
theorem xd_76_122 : decode prog_12_method_47_code 122 = .ok (.istore 6, 2) := by decide +kernel
theorem xd_76_124 : decode prog_12_method_47_code 124 = .ok (.iload 6, 2) := by decide +kernel
theorem xd_76_126 : decode prog_12_method_47_code 126 = .ok (.ifCond .ne 6, 3) := by decide +kernel
theorem xd_76_129 : decode prog_12_method_47_code 129 = .ok (.goto 37, 3) := by decide +kernel
theorem xd_76_132 : decode prog_12_method_47_code 132 = .ok (.iload_n 3, 1) := by decide +kernel
theorem xd_76_133 : decode prog_12_method_47_code 133 = .ok (.ifCond .ne 30, 3) := by decide +kernel
theorem xd_76_136 : decode prog_12_method_47_code 136 = .ok (.iload_n 2, 1) := by decide +kernel
theorem xd_76_137 : decode prog_12_method_47_code 137 = .ok (.ifCond .ne 13, 3) := by decide +kernel
theorem xd_76_140 : decode prog_12_method_47_code 140 = .ok (.aload_n 0, 1) := by decide +kernel
theorem xd_76_141 : decode prog_12_method_47_code 141 = .ok (.getfield 38, 3) := by decide +kernel
theorem xd_76_144 : decode prog_12_method_47_code 144 = .ok (.iload 4, 2) := by decide +kernel
theorem xd_76_146 : decode prog_12_method_47_code 146 = .ok (.iaload, 1) := by decide +kernel
theorem xd_76_147 : decode prog_12_method_47_code 147 = .ok (.goto 15, 3) := by decide +kernel
theorem xd_76_150 : decode prog_12_method_47_code 150 = .ok (.iload_n 2, 1) := by decide +kernel
theorem xd_76_151 : decode prog_12_method_47_code 151 = .ok (.iconst 1, 1) := by decide +kernel
theorem xd_76_152 : decode prog_12_method_47_code 152 = .ok (.if_icmp .ne 8, 3) := by decide +kernel
theorem xd_76_155 : decode prog_12_method_47_code 155 = .ok (.iload 6, 2) := by decide +kernel
theorem xd_76_157 : decode prog_12_method_47_code 157 = .ok (.goto 5, 3) := by decide +kernel
theorem xd_76_160 : decode prog_12_method_47_code 160 = .ok (.iload 7, 2) := by decide +kernel
theorem xd_76_162 : decode prog_12_method_47_code 162 = .ok (.ireturn, 1) := by decide +kernel
theorem xd_76_163 : decode prog_12_method_47_code 163 = .ok (.iinc 3 (-1), 3) := by decide +kernel
theorem xd_76_166 : decode prog_12_method_47_code 166 = .ok (.iinc 4 1, 3) := by decide +kernel
theorem xd_76_169 : decode prog_12_method_47_code 169 = .ok (.goto (-131), 3) := by decide +kernel
theorem xd_76_172 : decode prog_12_method_47_code 172 = .ok (.iconst (-1), 1) := by decide +kernel
theorem xd_76_173 : decode prog_12_method_47_code 173 = .ok (.ireturn, 1) := by decide +kernel
theorem xd_77_0 : decode prog_12_method_48_code 0 = .ok (.aload_n 0, 1) := by decide +kernel
theorem xd_77_1 : decode prog_12_method_48_code 1 = .ok (.iconst 0, 1) := by decide +kernel
theorem xd_77_2 : decode prog_12_method_48_code 2 = .ok (.putfield 69, 3) := by decide +kernel
theorem xd_77_5 : decode prog_12_method_48_code 5 = .ok (.aload_n 0, 1) := by decide +kernel
theorem xd_77_6 : decode prog_12_method_48_code 6 = .ok (.iconst 0, 1) := by decide +kernel
theorem xd_77_7 : decode prog_12_method_48_code 7 = .ok (.iload_n 1, 1) := by decide +kernel
theorem xd_77_8 : decode prog_12_method_48_code 8 = .ok (.invokevirtual 143, 3) := by decide +kernel
theorem xd_77_11 : decode prog_12_method_48_code 11 = .ok (.istore_n 3, 1) := by decide +kernel
theorem xd_77_12 : decode prog_12_method_48_code 12 = .ok (.aload_n 0, 1) := by decide +kernel
theorem xd_77_13 : decode prog_12_method_48_code 13 = .ok (.iload_n 3, 1) := by decide +kernel
theorem xd_77_14 : decode prog_12_method_48_code 14 = .ok (.iconst (-1), 1) := by decide +kernel
theorem xd_77_15 : decode prog_12_method_48_code 15 = .ok (.if_icmp .eq 7, 3) := by decide +kernel
theorem xd_77_18 : decode prog_12_method_48_code 18 = .ok (.iload_n 2, 1) := by decide +kernel
theorem xd_77_19 : decode prog_12_method_48_code 19 = .ok (.ifCond .ge 7, 3) := by decide +kernel
theorem xd_77_22 : decode prog_12_method_48_code 22 = .ok (.iconst 1, 1) := by decide +kernel
theorem xd_77_23 : decode prog_12_method_48_code 23 = .ok (.goto 4, 3) := by decide +kernel
theorem xd_77_26 : decode prog_12_method_48_code 26 = .ok (.iconst 0, 1) := by decide +kernel
theorem xd_77_27 : decode prog_12_method_48_code 27 = .ok (.iconst 1, 1) := by decide +kernel
theorem xd_77_28 : decode prog_12_method_48_code 28 = .ok (.invokevirtual 75, 3) := by decide +kernel
theorem xd_77_31 : decode prog_12_method_48_code 31 = .ok (.ifCond .eq 5, 3) := by decide +kernel
theorem xd_77_34 : decode prog_12_method_48_code 34 = .ok (.iconst 0, 1) := by decide +kernel
theorem xd_77_35 : decode prog_12_method_48_code 35 = .ok (.ireturn, 1) := by decide +kernel
theorem xd_77_36 : decode prog_12_method_48_code 36 = .ok (.aload_n 0, 1) := by decide +kernel
theorem xd_77_37 : decode prog_12_method_48_code 37 = .ok (.invokevirtual 177, 3) := by decide +kernel
theorem xd_77_40 : decode prog_12_method_48_code 40 = .ok (.iload_n 2, 1) := by decide +kernel
theorem xd_77_41 : decode prog_12_method_48_code 41 = .ok (.istore 4, 2) := by decide +kernel
theorem xd_77_43 : decode prog_12_method_48_code 43 = .ok (.iconst 0, 1) := by decide +kernel
theorem xd_77_44 : decode prog_12_method_48_code 44 = .ok (.istore 5, 2) := by decide +kernel
theorem xd_77_46 : decode prog_12_method_48_code 46 = .ok (.iload 5, 2) := by decide +kernel
theorem xd_77_48 : decode prog_12_method_48_code 48 = .ok (.aload_n 0, 1) := by decide +kernel
theorem xd_77_49 : decode prog_12_method_48_code 49 = .ok (.getfield 35, 3) := by decide +kernel
theorem xd_77_52 : decode prog_12_method_48_code 52 = .ok (.iconst 0, 1) := by decide +kernel
theorem xd_77_53 : decode prog_12_method_48_code 53 = .ok (.iaload, 1) := by decide +kernel
theorem xd_77_54 : decode prog_12_method_48_code 54 = .ok (.if_icmp .ge 44, 3) := by decide +kernel
theorem xd_77_57 : decode prog_12_method_48_code 57 = .ok (.aload_n 0, 1) := by decide +kernel
theorem xd_77_58 : decode prog_12_method_48_code 58 = .ok (.getfield 65, 3) := by decide +kernel
theorem xd_77_61 : decode prog_12_method_48_code 61 = .ok (.iload 5, 2) := by decide +kernel
theorem xd_77_63 : decode prog_12_method_48_code 63 = .ok (.laload, 1) := by decide +kernel
theorem xd_77_64 : decode prog_12_method_48_code 64 = .ok (.iload_n 3, 1) := by decide +kernel
theorem xd_77_65 : decode prog_12_method_48_code 65 = .ok (.lshr, 1) := by decide +kernel
theorem xd_77_66 : decode prog_12_method_48_code 66 = .ok (.lconst 1, 1) := by decide +kernel
theorem xd_77_67 : decode prog_12_method_48_code 67 = .ok (.land, 1) := by decide +kernel
theorem xd_77_68 : decode prog_12_method_48_code 68 = .ok (.lconst 0, 1) := by decide +kernel
theorem xd_77_69 : decode prog_12_method_48_code 69 = .ok (.lcmp, 1) := by decide +kernel
theorem xd_77_70 : decode prog_12_method_48_code 70 = .ok (.ifCond .ne 6, 3) := by decide +kernel
theorem xd_77_73 : decode prog_12_method_48_code 73 = .ok (.goto 19, 3) := by decide +kernel
theorem xd_77_76 : decode prog_12_method_48_code 76 = .ok (.iload 4, 2) := by decide +kernel
theorem xd_77_78 : decode prog_12_method_48_code 78 = .ok (.ifCond .ne 11, 3) := by decide +kernel
theorem xd_77_81 : decode prog_12_method_48_code 81 = .ok (.aload_n 0, 1) := by decide +kernel
theorem xd_77_82 : decode prog_12_method_48_code 82 = .ok (.getfield 38, 3) := by decide +kernel
theorem xd_77_85 : decode prog_12_method_48_code 85 = .ok (.iload 5, 2) := by decide +kernel
theorem xd_77_87 : decode prog_12_method_48_code 87 = .ok (.iaload, 1) := by decide +kernel
theorem xd_77_88 : decode prog_12_method_48_code 88 = .ok (.ireturn, 1) := by decide +kernel
theorem xd_77_89 : decode prog_12_method_48_code 89 = .ok (.iinc 4 (-1), 3) := by decide +kernel
theorem xd_77_92 : decode prog_12_method_48_code 92 = .ok (.iinc 5 1, 3) := by decide +kernel
theorem xd_77_95 : decode prog_12_method_48_code 95 = .ok (.goto (-49), 3) := by decide +kernel
theorem xd_77_98 : decode prog_12_method_48_code 98 = .ok (.iconst (-1), 1) := by decide +kernel
theorem xd_77_99 : decode prog_12_method_48_code 99 = .ok (.ireturn, 1) := by decide +kernel
theorem xd_78_0 : decode prog_12_method_49_code 0 = .ok (.aload_n 0, 1) := by decide +kernel
theorem xd_78_1 : decode prog_12_method_49_code 1 = .ok (.getfield 65, 3) := by decide +kernel
theorem xd_78_4 : decode prog_12_method_49_code 4 = .ok (.iload_n 1, 1) := by decide +kernel
theorem xd_78_5 : decode prog_12_method_49_code 5 = .ok (.laload, 1) := by decide +kernel
theorem xd_78_6 : decode prog_12_method_49_code 6 = .ok (.lstore_n 2, 1) := by decide +kernel
theorem xd_78_7 : decode prog_12_method_49_code 7 = .ok (.lconst 0, 1) := by decide +kernel
theorem xd_78_8 : decode prog_12_method_49_code 8 = .ok (.lstore 4, 2) := by decide +kernel
theorem xd_78_10 : decode prog_12_method_49_code 10 = .ok (.lload_n 2, 1) := by decide +kernel
theorem xd_78_11 : decode prog_12_method_49_code 11 = .ok (.lload 4, 2) := by decide +kernel
theorem xd_78_13 : decode prog_12_method_49_code 13 = .ok (.lcmp, 1) := by decide +kernel
theorem xd_78_14 : decode prog_12_method_49_code 14 = .ok (.ifCond .eq 50, 3) := by decide +kernel
theorem xd_78_17 : decode prog_12_method_49_code 17 = .ok (.lload_n 2, 1) := by decide +kernel
theorem xd_78_18 : decode prog_12_method_49_code 18 = .ok (.lstore 4, 2) := by decide +kernel
theorem xd_78_20 : decode prog_12_method_49_code 20 = .ok (.iconst 0, 1) := by decide +kernel
theorem xd_78_21 : decode prog_12_method_49_code 21 = .ok (.istore 6, 2) := by decide +kernel
theorem xd_78_23 : decode prog_12_method_49_code 23 = .ok (.iload 6, 2) := by decide +kernel
theorem xd_78_25 : decode prog_12_method_49_code 25 = .ok (.aload_n 0, 1) := by decide +kernel
theorem xd_78_26 : decode prog_12_method_49_code 26 = .ok (.getfield 35, 3) := by decide +kernel
theorem xd_78_29 : decode prog_12_method_49_code 29 = .ok (.iconst 0, 1) := by decide +kernel
theorem xd_78_30 : decode prog_12_method_49_code 30 = .ok (.iaload, 1) := by decide +kernel
theorem xd_78_31 : decode prog_12_method_49_code 31 = .ok (.if_icmp .ge 30, 3) := by decide +kernel
theorem xd_78_34 : decode prog_12_method_49_code 34 = .ok (.lload_n 2, 1) := by decide +kernel
theorem xd_78_35 : decode prog_12_method_49_code 35 = .ok (.iload 6, 2) := by decide +kernel
theorem xd_78_37 : decode prog_12_method_49_code 37 = .ok (.lshr, 1) := by decide +kernel
theorem xd_78_38 : decode prog_12_method_49_code 38 = .ok (.lconst 1, 1) := by decide +kernel
theorem xd_78_39 : decode prog_12_method_49_code 39 = .ok (.land, 1) := by decide +kernel
theorem xd_78_40 : decode prog_12_method_49_code 40 = .ok (.lconst 1, 1) := by decide +kernel
theorem xd_78_41 : decode prog_12_method_49_code 41 = .ok (.lcmp, 1) := by decide +kernel
theorem xd_78_42 : decode prog_12_method_49_code 42 = .ok (.ifCond .ne 13, 3) := by decide +kernel
theorem xd_78_45 : decode prog_12_method_49_code 45 = .ok (.lload_n 2, 1) := by decide +kernel
theorem xd_78_46 : decode prog_12_method_49_code 46 = .ok (.aload_n 0, 1) := by decide +kernel
theorem xd_78_47 : decode prog_12_method_49_code 47 = .ok (.getfield 65, 3) := by decide +kernel
theorem xd_78_50 : decode prog_12_method_49_code 50 = .ok (.iload 6, 2) := by decide +kernel
theorem xd_78_52 : decode prog_12_method_49_code 52 = .ok (.laload, 1) := by decide +kernel
theorem xd_78_53 : decode prog_12_method_49_code 53 = .ok (.lor, 1) := by decide +kernel
theorem xd_78_54 : decode prog_12_method_49_code 54 = .ok (.lstore_n 2, 1) := by decide +kernel
theorem xd_78_55 : decode prog_12_method_49_code 55 = .ok (.iinc 6 1, 3) := by decide +kernel
theorem xd_78_58 : decode prog_12_method_49_code 58 = .ok (.goto (-35), 3) := by decide +kernel
theorem xd_78_61 : decode prog_12_method_49_code 61 = .ok (.goto (-51), 3) := by decide +kernel
theorem xd_78_64 : decode prog_12_method_49_code 64 = .ok (.lload_n 2, 1) := by decide +kernel
theorem xd_78_65 : decode prog_12_method_49_code 65 = .ok (.iload_n 1, 1) := by decide +kernel
theorem xd_78_66 : decode prog_12_method_49_code 66 = .ok (.lshr, 1) := by decide +kernel
theorem xd_78_67 : decode prog_12_method_49_code 67 = .ok (.lconst 1, 1) := by decide +kernel
theorem xd_78_68 : decode prog_12_method_49_code 68 = .ok (.land, 1) := by decide +kernel
theorem xd_78_69 : decode prog_12_method_49_code 69 = .ok (.lconst 1, 1) := by decide +kernel
theorem xd_78_70 : decode prog_12_method_49_code 70 = .ok (.lcmp, 1) := by decide +kernel
theorem xd_78_71 : decode prog_12_method_49_code 71 = .ok (.ifCond .ne 7, 3) := by decide +kernel
theorem xd_78_74 : decode prog_12_method_49_code 74 = .ok (.iconst 1, 1) := by decide +kernel
theorem xd_78_75 : decode prog_12_method_49_code 75 = .ok (.goto 4, 3) := by decide +kernel
theorem xd_78_78 : decode prog_12_method_49_code 78 = .ok (.iconst 0, 1) := by decide +kernel
theorem xd_78_79 : decode prog_12_method_49_code 79 = .ok (.ireturn, 1) := by decide +kernel
theorem xd_79_0 : decode prog_12_method_50_code 0 = .ok (.aload_n 0, 1) := by decide +kernel
theorem xd_79_1 : decode prog_12_method_50_code 1 = .ok (.iconst 0, 1) := by decide +kernel
theorem xd_79_2 : decode prog_12_method_50_code 2 = .ok (.putfield 69, 3) := by decide +kernel
theorem xd_79_5 : decode prog_12_method_50_code 5 = .ok (.aload_n 0, 1) := by decide +kernel
theorem xd_79_6 : decode prog_12_method_50_code 6 = .ok (.iload_n 1, 1) := by decide +kernel
theorem xd_79_7 : decode prog_12_method_50_code 7 = .ok (.ifCond .ge 7, 3) := by decide +kernel
theorem xd_79_10 : decode prog_12_method_50_code 10 = .ok (.iconst 1, 1) := by decide +kernel
theorem xd_79_11 : decode prog_12_method_50_code 11 = .ok (.goto 4, 3) := by decide +kernel
theorem xd_79_14 : decode prog_12_method_50_code 14 = .ok (.iconst 0, 1) := by decide +kernel
theorem xd_79_15 : decode prog_12_method_50_code 15 = .ok (.iconst 1, 1) := by decide +kernel
theorem xd_79_16 : decode prog_12_method_50_code 16 = .ok (.invokevirtual 75, 3) := by decide +kernel
theorem xd_79_19 : decode prog_12_method_50_code 19 = .ok (.ifCond .eq 5, 3) := by decide +kernel
theorem xd_79_22 : decode prog_12_method_50_code 22 = .ok (.iconst 0, 1) := by decide +kernel
theorem xd_79_23 : decode prog_12_method_50_code 23 = .ok (.ireturn, 1) := by decide +kernel
theorem xd_79_24 : decode prog_12_method_50_code 24 = .ok (.aload_n 0, 1) := by decide +kernel
theorem xd_79_25 : decode prog_12_method_50_code 25 = .ok (.invokevirtual 180, 3) := by decide +kernel
theorem xd_79_28 : decode prog_12_method_50_code 28 = .ok (.iload_n 1, 1) := by decide +kernel
theorem xd_79_29 : decode prog_12_method_50_code 29 = .ok (.istore_n 2, 1) := by decide +kernel
theorem xd_79_30 : decode prog_12_method_50_code 30 = .ok (.iconst 0, 1) := by decide +kernel
theorem xd_79_31 : decode prog_12_method_50_code 31 = .ok (.istore_n 3, 1) := by decide +kernel
theorem xd_79_32 : decode prog_12_method_50_code 32 = .ok (.iload_n 3, 1) := by decide +kernel
theorem xd_79_33 : decode prog_12_method_50_code 33 = .ok (.aload_n 0, 1) := by decide +kernel
theorem xd_79_34 : decode prog_12_method_50_code 34 = .ok (.getfield 35, 3) := by decide +kernel
theorem xd_79_37 : decode prog_12_method_50_code 37 = .ok (.iconst 0, 1) := by decide +kernel
theorem xd_79_38 : decode prog_12_method_50_code 38 = .ok (.iaload, 1) := by decide +kernel
theorem xd_79_39 : decode prog_12_method_50_code 39 = .ok (.if_icmp .ge 44, 3) := by decide +kernel
theorem xd_79_42 : decode prog_12_method_50_code 42 = .ok (.aload_n 0, 1) := by decide +kernel
theorem xd_79_43 : decode prog_12_method_50_code 43 = .ok (.getfield 59, 3) := by decide +kernel
theorem xd_79_46 : decode prog_12_method_50_code 46 = .ok (.iload_n 3, 1) := by decide +kernel
theorem xd_79_47 : decode prog_12_method_50_code 47 = .ok (.iaload, 1) := by decide +kernel
theorem xd_79_48 : decode prog_12_method_50_code 48 = .ok (.iconst (-1), 1) := by decide +kernel
theorem xd_79_49 : decode prog_12_method_50_code 49 = .ok (.if_icmp .ne 28, 3) := by decide +kernel
theorem xd_79_52 : decode prog_12_method_50_code 52 = .ok (.aload_n 0, 1) := by decide +kernel
theorem xd_79_53 : decode prog_12_method_50_code 53 = .ok (.iload_n 3, 1) := by decide +kernel
theorem xd_79_54 : decode prog_12_method_50_code 54 = .ok (.invokevirtual 197, 3) := by decide +kernel
theorem xd_79_57 : decode prog_12_method_50_code 57 = .ok (.ifCond .ne 6, 3) := by decide +kernel
theorem xd_79_60 : decode prog_12_method_50_code 60 = .ok (.goto 17, 3) := by decide +kernel
theorem xd_79_63 : decode prog_12_method_50_code 63 = .ok (.iload_n 2, 1) := by decide +kernel
theorem xd_79_64 : decode prog_12_method_50_code 64 = .ok (.ifCond .ne 10, 3) := by decide +kernel
theorem xd_79_67 : decode prog_12_method_50_code 67 = .ok (.aload_n 0, 1) := by decide +kernel
theorem xd_79_68 : decode prog_12_method_50_code 68 = .ok (.getfield 38, 3) := by decide +kernel
theorem xd_79_71 : decode prog_12_method_50_code 71 = .ok (.iload_n 3, 1) := by decide +kernel
theorem xd_79_72 : decode prog_12_method_50_code 72 = .ok (.iaload, 1) := by decide +kernel
theorem xd_79_73 : decode prog_12_method_50_code 73 = .ok (.ireturn, 1) := by decide +kernel
theorem xd_79_74 : decode prog_12_method_50_code 74 = .ok (.iinc 2 (-1), 3) := by decide +kernel
theorem xd_79_77 : decode prog_12_method_50_code 77 = .ok (.iinc 3 1, 3) := by decide +kernel
theorem xd_79_80 : decode prog_12_method_50_code 80 = .ok (.goto (-48), 3) := by decide +kernel
theorem xd_79_83 : decode prog_12_method_50_code 83 = .ok (.iconst (-1), 1) := by decide +kernel
theorem xd_79_84 : decode prog_12_method_50_code 84 = .ok (.ireturn, 1) := by decide +kernel
theorem xd_80_0 : decode prog_12_method_51_code 0 = .ok (.bipush 8, 2) := by decide +kernel
theorem xd_80_2 : decode prog_12_method_51_code 2 = .ok (.iload_n 1, 1) := by decide +kernel
theorem xd_80_3 : decode prog_12_method_51_code 3 = .ok (.imul, 1) := by decide +kernel
theorem xd_80_4 : decode prog_12_method_51_code 4 = .ok (.istore_n 2, 1) := by decide +kernel
theorem xd_80_5 : decode prog_12_method_51_code 5 = .ok (.aload_n 0, 1) := by decide +kernel
theorem xd_80_6 : decode prog_12_method_51_code 6 = .ok (.getfield 47, 3) := by decide +kernel
theorem xd_80_9 : decode prog_12_method_51_code 9 = .ok (.iload_n 1, 1) := by decide +kernel
theorem xd_80_10 : decode prog_12_method_51_code 10 = .ok (.iaload, 1) := by decide +kernel
theorem xd_80_11 : decode prog_12_method_51_code 11 = .ok (.iconst 3, 1) := by decide +kernel
theorem xd_80_12 : decode prog_12_method_51_code 12 = .ok (.if_icmp .le 63, 3) := by decide +kernel
theorem xd_80_15 : decode prog_12_method_51_code 15 = .ok (.aload_n 0, 1) := by decide +kernel
theorem xd_80_16 : decode prog_12_method_51_code 16 = .ok (.getfield 50, 3) := by decide +kernel
theorem xd_80_19 : decode prog_12_method_51_code 19 = .ok (.iload_n 2, 1) := by decide +kernel
theorem xd_80_20 : decode prog_12_method_51_code 20 = .ok (.iaload, 1) := by decide +kernel
theorem xd_80_21 : decode prog_12_method_51_code 21 = .ok (.ifCond .ne 54, 3) := by decide +kernel
theorem xd_80_24 : decode prog_12_method_51_code 24 = .ok (.aload_n 0, 1) := by decide +kernel
theorem xd_80_25 : decode prog_12_method_51_code 25 = .ok (.getfield 50, 3) := by decide +kernel
theorem xd_80_28 : decode prog_12_method_51_code 28 = .ok (.iload_n 2, 1) := by decide +kernel
theorem xd_80_29 : decode prog_12_method_51_code 29 = .ok (.iconst 1, 1) := by decide +kernel
theorem xd_80_30 : decode prog_12_method_51_code 30 = .ok (.iadd, 1) := by decide +kernel
theorem xd_80_31 : decode prog_12_method_51_code 31 = .ok (.iaload, 1) := by decide +kernel
theorem xd_80_32 : decode prog_12_method_51_code 32 = .ok (.ifCond .ne 43, 3) := by decide +kernel
theorem xd_80_35 : decode prog_12_method_51_code 35 = .ok (.aload_n 0, 1) := by decide +kernel
theorem xd_80_36 : decode prog_12_method_51_code 36 = .ok (.getfield 50, 3) := by decide +kernel
theorem xd_80_39 : decode prog_12_method_51_code 39 = .ok (.iload_n 2, 1) := by decide +kernel
theorem xd_80_40 : decode prog_12_method_51_code 40 = .ok (.iconst 2, 1) := by decide +kernel
theorem xd_80_41 : decode prog_12_method_51_code 41 = .ok (.iadd, 1) := by decide +kernel
theorem xd_80_42 : decode prog_12_method_51_code 42 = .ok (.iaload, 1) := by decide +kernel
theorem xd_80_43 : decode prog_12_method_51_code 43 = .ok (.ifCond .ne 32, 3) := by decide +kernel
theorem xd_80_46 : decode prog_12_method_51_code 46 = .ok (.aload_n 0, 1) := by decide +kernel
theorem xd_80_47 : decode prog_12_method_51_code 47 = .ok (.getfield 50, 3) := by decide +kernel
theorem xd_80_50 : decode prog_12_method_51_code 50 = .ok (.iload_n 2, 1) := by decide +kernel
theorem xd_80_51 : decode prog_12_method_51_code 51 = .ok (.iconst 3, 1) := by decide +kernel
theorem xd_80_52 : decode prog_12_method_51_code 52 = .ok (.iadd, 1) := by decide +kernel
theorem xd_80_53 : decode prog_12_method_51_code 53 = .ok (.iaload, 1) := by decide +kernel
theorem xd_80_54 : decode prog_12_method_51_code 54 = .ok (.iconst 2, 1) := by decide +kernel
theorem xd_80_55 : decode prog_12_method_51_code 55 = .ok (.if_icmp .eq 16, 3) := by decide +kernel
theorem xd_80_58 : decode prog_12_method_51_code 58 = .ok (.aload_n 0, 1) := by decide +kernel
theorem xd_80_59 : decode prog_12_method_51_code 59 = .ok (.getfield 50, 3) := by decide +kernel
theorem xd_80_62 : decode prog_12_method_51_code 62 = .ok (.iload_n 2, 1) := by decide +kernel
theorem xd_80_63 : decode prog_12_method_51_code 63 = .ok (.iconst 3, 1) := by decide +kernel
theorem xd_80_64 : decode prog_12_method_51_code 64 = .ok (.iadd, 1) := by decide +kernel
theorem xd_80_65 : decode prog_12_method_51_code 65 = .ok (.iaload, 1) := by decide +kernel
theorem xd_80_66 : decode prog_12_method_51_code 66 = .ok (.bipush 6, 2) := by decide +kernel
theorem xd_80_68 : decode prog_12_method_51_code 68 = .ok (.if_icmp .ne 7, 3) := by decide +kernel
theorem xd_80_71 : decode prog_12_method_51_code 71 = .ok (.iconst 1, 1) := by decide +kernel
theorem xd_80_72 : decode prog_12_method_51_code 72 = .ok (.goto 4, 3) := by decide +kernel
theorem xd_80_75 : decode prog_12_method_51_code 75 = .ok (.iconst 0, 1) := by decide +kernel
theorem xd_80_76 : decode prog_12_method_51_code 76 = .ok (.ireturn, 1) := by decide +kernel
theorem xd_81_0 : decode prog_12_method_52_code 0 = .ok (.aload_n 0, 1) := by decide +kernel
theorem xd_81_1 : decode prog_12_method_52_code 1 = .ok (.iconst 0, 1) := by decide +kernel
theorem xd_81_2 : decode prog_12_method_52_code 2 = .ok (.putfield 69, 3) := by decide +kernel
theorem xd_81_5 : decode prog_12_method_52_code 5 = .ok (.aload_n 0, 1) := by decide +kernel
theorem xd_81_6 : decode prog_12_method_52_code 6 = .ok (.iconst 0, 1) := by decide +kernel
theorem xd_81_7 : decode prog_12_method_52_code 7 = .ok (.iload_n 1, 1) := by decide +kernel
theorem xd_81_8 : decode prog_12_method_52_code 8 = .ok (.invokevirtual 143, 3) := by decide +kernel
theorem xd_81_11 : decode prog_12_method_52_code 11 = .ok (.istore_n 3, 1) := by decide +kernel
theorem xd_81_12 : decode prog_12_method_52_code 12 = .ok (.aload_n 0, 1) := by decide +kernel
theorem xd_81_13 : decode prog_12_method_52_code 13 = .ok (.iload_n 3, 1) := by decide +kernel
theorem xd_81_14 : decode prog_12_method_52_code 14 = .ok (.iconst (-1), 1) := by decide +kernel
theorem xd_81_15 : decode prog_12_method_52_code 15 = .ok (.if_icmp .eq 12, 3) := by decide +kernel
theorem xd_81_18 : decode prog_12_method_52_code 18 = .ok (.iload_n 2, 1) := by decide +kernel
theorem xd_81_19 : decode prog_12_method_52_code 19 = .ok (.ifCond .lt 8, 3) := by decide +kernel
theorem xd_81_22 : decode prog_12_method_52_code 22 = .ok (.iload_n 2, 1) := by decide +kernel
theorem xd_81_23 : decode prog_12_method_52_code 23 = .ok (.iconst 2, 1) := by decide +kernel
theorem xd_81_24 : decode prog_12_method_52_code 24 = .ok (.if_icmp .le 7, 3) := by decide +kernel
theorem xd_81_27 : decode prog_12_method_52_code 27 = .ok (.iconst 1, 1) := by decide +kernel
theorem xd_81_28 : decode prog_12_method_52_code 28 = .ok (.goto 4, 3) := by decide +kernel
theorem xd_81_31 : decode prog_12_method_52_code 31 = .ok (.iconst 0, 1) := by decide +kernel
theorem xd_81_32 : decode prog_12_method_52_code 32 = .ok (.iconst 1, 1) := by decide +kernel
theorem xd_81_33 : decode prog_12_method_52_code 33 = .ok (.invokevirtual 75, 3) := by decide +kernel
theorem xd_81_36 : decode prog_12_method_52_code 36 = .ok (.ifCond .ne 24, 3) := by decide +kernel
theorem xd_81_39 : decode prog_12_method_52_code 39 = .ok (.aload_n 0, 1) := by decide +kernel
theorem xd_81_40 : decode prog_12_method_52_code 40 = .ok (.aload_n 0, 1) := by decide +kernel
theorem xd_81_41 : decode prog_12_method_52_code 41 = .ok (.iload_n 3, 1) := by decide +kernel
theorem xd_81_42 : decode prog_12_method_52_code 42 = .ok (.invokevirtual 200, 3) := by decide +kernel
theorem xd_81_45 : decode prog_12_method_52_code 45 = .ok (.ifCond .ne 7, 3) := by decide +kernel
theorem xd_81_48 : decode prog_12_method_52_code 48 = .ok (.iconst 1, 1) := by decide +kernel
theorem xd_81_49 : decode prog_12_method_52_code 49 = .ok (.goto 4, 3) := by decide +kernel
theorem xd_81_52 : decode prog_12_method_52_code 52 = .ok (.iconst 0, 1) := by decide +kernel
theorem xd_81_53 : decode prog_12_method_52_code 53 = .ok (.iconst 1, 1) := by decide +kernel
theorem xd_81_54 : decode prog_12_method_52_code 54 = .ok (.invokevirtual 75, 3) := by decide +kernel
theorem xd_81_57 : decode prog_12_method_52_code 57 = .ok (.ifCond .eq 5, 3) := by decide +kernel
theorem xd_81_60 : decode prog_12_method_52_code 60 = .ok (.lconst 0, 1) := by decide +kernel
theorem xd_81_61 : decode prog_12_method_52_code 61 = .ok (.lreturn, 1) := by decide +kernel
theorem xd_81_62 : decode prog_12_method_52_code 62 = .ok (.lconst 0, 1) := by decide +kernel
theorem xd_81_63 : decode prog_12_method_52_code 63 = .ok (.lstore 4, 2) := by decide +kernel
theorem xd_81_65 : decode prog_12_method_52_code 65 = .ok (.iconst 0, 1) := by decide +kernel
theorem xd_81_66 : decode prog_12_method_52_code 66 = .ok (.istore 6, 2) := by decide +kernel
theorem xd_81_68 : decode prog_12_method_52_code 68 = .ok (.iload_n 3, 1) := by decide +kernel
theorem xd_81_69 : decode prog_12_method_52_code 69 = .ok (.iconst (-1), 1) := by decide +kernel
theorem xd_81_70 : decode prog_12_method_52_code 70 = .ok (.if_icmp .eq 100, 3) := by decide +kernel
theorem xd_81_73 : decode prog_12_method_52_code 73 = .ok (.iload 6, 2) := by decide +kernel
theorem xd_81_75 : decode prog_12_method_52_code 75 = .ok (.aload_n 0, 1) := by decide +kernel
theorem xd_81_76 : decode prog_12_method_52_code 76 = .ok (.getfield 35, 3) := by decide +kernel
theorem xd_81_79 : decode prog_12_method_52_code 79 = .ok (.iconst 0, 1) := by decide +kernel
theorem xd_81_80 : decode prog_12_method_52_code 80 = .ok (.iaload, 1) := by decide +kernel
theorem xd_81_81 : decode prog_12_method_52_code 81 = .ok (.if_icmp .le 7, 3) := by decide +kernel
theorem xd_81_84 : decode prog_12_method_52_code 84 = .ok (.ldc2_w 203, 3) := by decide +kernel
theorem xd_81_87 : decode prog_12_method_52_code 87 = .ok (.lreturn, 1) := by decide +kernel
theorem xd_81_88 : decode prog_12_method_52_code 88 = .ok (.iinc 6 1, 3) := by decide +kernel
theorem xd_81_91 : decode prog_12_method_52_code 91 = .ok (.lload 4, 2) := by decide +kernel
theorem xd_81_93 : decode prog_12_method_52_code 93 = .ok (.aload_n 0, 1) := by decide +kernel
theorem xd_81_94 : decode prog_12_method_52_code 94 = .ok (.getfield 53, 3) := by decide +kernel
theorem xd_81_97 : decode prog_12_method_52_code 97 = .ok (.bipush 8, 2) := by decide +kernel
theorem xd_81_99 : decode prog_12_method_52_code 99 = .ok (.iload_n 3, 1) := by decide +kernel
theorem xd_81_100 : decode prog_12_method_52_code 100 = .ok (.imul, 1) := by decide +kernel
theorem xd_81_101 : decode prog_12_method_52_code 101 = .ok (.iload_n 2, 1) := by decide +kernel
theorem xd_81_102 : decode prog_12_method_52_code 102 = .ok (.iadd, 1) := by decide +kernel
theorem xd_81_103 : decode prog_12_method_52_code 103 = .ok (.iaload, 1) := by decide +kernel
theorem xd_81_104 : decode prog_12_method_52_code 104 = .ok (.i2l, 1) := by decide +kernel
theorem xd_81_105 : decode prog_12_method_52_code 105 = .ok (.ladd, 1) := by decide +kernel
theorem xd_81_106 : decode prog_12_method_52_code 106 = .ok (.lstore 4, 2) := by decide +kernel
theorem xd_81_108 : decode prog_12_method_52_code 108 = .ok (.aload_n 0, 1) := by decide +kernel
theorem xd_81_109 : decode prog_12_method_52_code 109 = .ok (.getfield 50, 3) := by decide +kernel
theorem xd_81_112 : decode prog_12_method_52_code 112 = .ok (.bipush 8, 2) := by decide +kernel
theorem xd_81_114 : decode prog_12_method_52_code 114 = .ok (.iload_n 3, 1) := by decide +kernel
theorem xd_81_115 : decode prog_12_method_52_code 115 = .ok (.imul, 1) := by decide +kernel
theorem xd_81_116 : decode prog_12_method_52_code 116 = .ok (.iconst 3, 1) := by decide +kernel
theorem xd_81_117 : decode prog_12_method_52_code 117 = .ok (.iadd, 1) := by decide +kernel
theorem xd_81_118 : decode prog_12_method_52_code 118 = .ok (.iaload, 1) := by decide +kernel
theorem xd_81_119 : decode prog_12_method_52_code 119 = .ok (.iconst 2, 1) := by decide +kernel
theorem xd_81_120 : decode prog_12_method_52_code 120 = .ok (.if_icmp .ne 22, 3) := by decide +kernel
theorem xd_81_123 : decode prog_12_method_52_code 123 = .ok (.aload_n 0, 1) := by decide +kernel
theorem xd_81_124 : decode prog_12_method_52_code 124 = .ok (.iconst 0, 1) := by decide +kernel
theorem xd_81_125 : decode prog_12_method_52_code 125 = .ok (.aload_n 0, 1) := by decide +kernel
theorem xd_81_126 : decode prog_12_method_52_code 126 = .ok (.getfield 53, 3) := by decide +kernel
theorem xd_81_129 : decode prog_12_method_52_code 129 = .ok (.bipush 8, 2) := by decide +kernel
theorem xd_81_131 : decode prog_12_method_52_code 131 = .ok (.iload_n 3, 1) := by decide +kernel
theorem xd_81_132 : decode prog_12_method_52_code 132 = .ok (.imul, 1) := by decide +kernel
theorem xd_81_133 : decode prog_12_method_52_code 133 = .ok (.iconst 3, 1) := by decide +kernel
theorem xd_81_134 : decode prog_12_method_52_code 134 = .ok (.iadd, 1) := by decide +kernel
theorem xd_81_135 : decode prog_12_method_52_code 135 = .ok (.iaload, 1) := by decide +kernel
theorem xd_81_136 : decode prog_12_method_52_code 136 = .ok (.invokevirtual 143, 3) := by decide +kernel
theorem xd_81_139 : decode prog_12_method_52_code 139 = .ok (.goto 4, 3) := by decide +kernel
theorem xd_81_142 : decode prog_12_method_52_code 142 = .ok (.iconst (-1), 1) := by decide +kernel
theorem xd_81_143 : decode prog_12_method_52_code 143 = .ok (.istore 7, 2) := by decide +kernel
theorem xd_81_145 : decode prog_12_method_52_code 145 = .ok (.iload 7, 2) := by decide +kernel
theorem xd_81_147 : decode prog_12_method_52_code 147 = .ok (.iconst (-1), 1) := by decide +kernel
theorem xd_81_148 : decode prog_12_method_52_code 148 = .ok (.if_icmp .eq 17, 3) := by decide +kernel
theorem xd_81_151 : decode prog_12_method_52_code 151 = .ok (.aload_n 0, 1) := by decide +kernel
theorem xd_81_152 : decode prog_12_method_52_code 152 = .ok (.iload 7, 2) := by decide +kernel
theorem xd_81_154 : decode prog_12_method_52_code 154 = .ok (.invokevirtual 200, 3) := by decide +kernel
theorem xd_81_157 : decode prog_12_method_52_code 157 = .ok (.ifCond .eq 8, 3) := by decide +kernel
theorem xd_81_160 : decode prog_12_method_52_code 160 = .ok (.iload 7, 2) := by decide +kernel
theorem xd_81_162 : decode prog_12_method_52_code 162 = .ok (.goto 4, 3) := by decide +kernel
theorem xd_81_165 : decode prog_12_method_52_code 165 = .ok (.iconst (-1), 1) := by decide +kernel
theorem xd_81_166 : decode prog_12_method_52_code 166 = .ok (.istore_n 3, 1) := by decide +kernel
theorem xd_81_167 : decode prog_12_method_52_code 167 = .ok (.goto (-99), 3) := by decide +kernel
theorem xd_81_170 : decode prog_12_method_52_code 170 = .ok (.lload 4, 2) := by decide +kernel
theorem xd_81_172 : decode prog_12_method_52_code 172 = .ok (.lreturn, 1) := by decide +kernel
theorem xd_82_0 : decode prog_12_method_53_code 0 = .ok (.aload_n 0, 1) := by decide +kernel
theorem xd_82_1 : decode prog_12_method_53_code 1 = .ok (.getfield 50, 3) := by decide +kernel
theorem xd_82_4 : decode prog_12_method_53_code 4 = .ok (.iload_n 1, 1) := by decide +kernel
theorem xd_82_5 : decode prog_12_method_53_code 5 = .ok (.iaload, 1) := by decide +kernel
theorem xd_82_6 : decode prog_12_method_53_code 6 = .ok (.aload_n 0, 1) := by decide +kernel
theorem xd_82_7 : decode prog_12_method_53_code 7 = .ok (.getfield 50, 3) := by decide +kernel
theorem xd_82_10 : decode prog_12_method_53_code 10 = .ok (.iload_n 2, 1) := by decide +kernel
theorem xd_82_11 : decode prog_12_method_53_code 11 = .ok (.iaload, 1) := by decide +kernel
theorem xd_82_12 : decode prog_12_method_53_code 12 = .ok (.if_icmp .eq 5, 3) := by decide +kernel
theorem xd_82_15 : decode prog_12_method_53_code 15 = .ok (.iconst 0, 1) := by decide +kernel
theorem xd_82_16 : decode prog_12_method_53_code 16 = .ok (.ireturn, 1) := by decide +kernel
theorem xd_82_17 : decode prog_12_method_53_code 17 = .ok (.aload_n 0, 1) := by decide +kernel
theorem xd_82_18 : decode prog_12_method_53_code 18 = .ok (.getfield 50, 3) := by decide +kernel
theorem xd_82_21 : decode prog_12_method_53_code 21 = .ok (.iload_n 1, 1) := by decide +kernel
theorem xd_82_22 : decode prog_12_method_53_code 22 = .ok (.iaload, 1) := by decide +kernel
theorem xd_82_23 : decode prog_12_method_53_code 23 = .ok (.ifCond .eq 14, 3) := by decide +kernel
theorem xd_82_26 : decode prog_12_method_53_code 26 = .ok (.aload_n 0, 1) := by decide +kernel
theorem xd_82_27 : decode prog_12_method_53_code 27 = .ok (.getfield 50, 3) := by decide +kernel
theorem xd_82_30 : decode prog_12_method_53_code 30 = .ok (.iload_n 1, 1) := by decide +kernel
theorem xd_82_31 : decode prog_12_method_53_code 31 = .ok (.iaload, 1) := by decide +kernel
theorem xd_82_32 : decode prog_12_method_53_code 32 = .ok (.bipush 6, 2) := by decide +kernel
theorem xd_82_34 : decode prog_12_method_53_code 34 = .ok (.if_icmp .ne 24, 3) := by decide +kernel
theorem xd_82_37 : decode prog_12_method_53_code 37 = .ok (.aload_n 0, 1) := by decide +kernel
theorem xd_82_38 : decode prog_12_method_53_code 38 = .ok (.getfield 53, 3) := by decide +kernel
theorem xd_82_41 : decode prog_12_method_53_code 41 = .ok (.iload_n 1, 1) := by decide +kernel
theorem xd_82_42 : decode prog_12_method_53_code 42 = .ok (.iaload, 1) := by decide +kernel
theorem xd_82_43 : decode prog_12_method_53_code 43 = .ok (.aload_n 0, 1) := by decide +kernel
theorem xd_82_44 : decode prog_12_method_53_code 44 = .ok (.getfield 53, 3) := by decide +kernel
theorem xd_82_47 : decode prog_12_method_53_code 47 = .ok (.iload_n 2, 1) := by decide +kernel
theorem xd_82_48 : decode prog_12_method_53_code 48 = .ok (.iaload, 1) := by decide +kernel
theorem xd_82_49 : decode prog_12_method_53_code 49 = .ok (.if_icmp .ne 7, 3) := by decide +kernel
theorem xd_82_52 : decode prog_12_method_53_code 52 = .ok (.iconst 1, 1) := by decide +kernel
theorem xd_82_53 : decode prog_12_method_53_code 53 = .ok (.goto 4, 3) := by decide +kernel
theorem xd_82_56 : decode prog_12_method_53_code 56 = .ok (.iconst 0, 1) := by decide +kernel
theorem xd_82_57 : decode prog_12_method_53_code 57 = .ok (.ireturn, 1) := by decide +kernel
theorem xd_82_58 : decode prog_12_method_53_code 58 = .ok (.aload_n 0, 1) := by decide +kernel
theorem xd_82_59 : decode prog_12_method_53_code 59 = .ok (.getfield 50, 3) := by decide +kernel
theorem xd_82_62 : decode prog_12_method_53_code 62 = .ok (.iload_n 1, 1) := by decide +kernel
theorem xd_82_63 : decode prog_12_method_53_code 63 = .ok (.iaload, 1) := by decide +kernel
theorem xd_82_64 : decode prog_12_method_53_code 64 = .ok (.iconst 2, 1) := by decide +kernel
theorem xd_82_65 : decode prog_12_method_53_code 65 = .ok (.if_icmp .ne 34, 3) := by decide +kernel
theorem xd_82_68 : decode prog_12_method_53_code 68 = .ok (.aload_n 0, 1) := by decide +kernel
theorem xd_82_69 : decode prog_12_method_53_code 69 = .ok (.getfield 62, 3) := by decide +kernel
theorem xd_82_72 : decode prog_12_method_53_code 72 = .ok (.aload_n 0, 1) := by decide +kernel
theorem xd_82_73 : decode prog_12_method_53_code 73 = .ok (.iload_n 1, 1) := by decide +kernel
theorem xd_82_74 : decode prog_12_method_53_code 74 = .ok (.iconst 0, 1) := by decide +kernel
theorem xd_82_75 : decode prog_12_method_53_code 75 = .ok (.invokevirtual 174, 3) := by decide +kernel
theorem xd_82_78 : decode prog_12_method_53_code 78 = .ok (.iaload, 1) := by decide +kernel
theorem xd_82_79 : decode prog_12_method_53_code 79 = .ok (.aload_n 0, 1) := by decide +kernel
theorem xd_82_80 : decode prog_12_method_53_code 80 = .ok (.getfield 62, 3) := by decide +kernel
theorem xd_82_83 : decode prog_12_method_53_code 83 = .ok (.aload_n 0, 1) := by decide +kernel
theorem xd_82_84 : decode prog_12_method_53_code 84 = .ok (.iload_n 2, 1) := by decide +kernel
theorem xd_82_85 : decode prog_12_method_53_code 85 = .ok (.iconst 0, 1) := by decide +kernel
theorem xd_82_86 : decode prog_12_method_53_code 86 = .ok (.invokevirtual 174, 3) := by decide +kernel
theorem xd_82_89 : decode prog_12_method_53_code 89 = .ok (.iaload, 1) := by decide +kernel
theorem xd_82_90 : decode prog_12_method_53_code 90 = .ok (.if_icmp .ne 7, 3) := by decide +kernel
theorem xd_82_93 : decode prog_12_method_53_code 93 = .ok (.iconst 1, 1) := by decide +kernel
theorem xd_82_94 : decode prog_12_method_53_code 94 = .ok (.goto 4, 3) := by decide +kernel
theorem xd_82_97 : decode prog_12_method_53_code 97 = .ok (.iconst 0, 1) := by decide +kernel
theorem xd_82_98 : decode prog_12_method_53_code 98 = .ok (.ireturn, 1) := by decide +kernel
theorem xd_82_99 : decode prog_12_method_53_code 99 = .ok (.aload_n 0, 1) := by decide +kernel
theorem xd_82_100 : decode prog_12_method_53_code 100 = .ok (.getfield 53, 3) := by decide +kernel
theorem xd_82_103 : decode prog_12_method_53_code 103 = .ok (.iload_n 1, 1) := by decide +kernel
theorem xd_82_104 : decode prog_12_method_53_code 104 = .ok (.iaload, 1) := by decide +kernel
theorem xd_82_105 : decode prog_12_method_53_code 105 = .ok (.aload_n 0, 1) := by decide +kernel
theorem xd_82_106 : decode prog_12_method_53_code 106 = .ok (.getfield 53, 3) := by decide +kernel
theorem xd_82_109 : decode prog_12_method_53_code 109 = .ok (.iload_n 2, 1) := by decide +kernel
theorem xd_82_110 : decode prog_12_method_53_code 110 = .ok (.iaload, 1) := by decide +kernel
theorem xd_82_111 : decode prog_12_method_53_code 111 = .ok (.if_icmp .eq 5, 3) := by decide +kernel
theorem xd_82_114 : decode prog_12_method_53_code 114 = .ok (.iconst 0, 1) := by decide +kernel
theorem xd_82_115 : decode prog_12_method_53_code 115 = .ok (.ireturn, 1) := by decide +kernel
theorem xd_82_116 : decode prog_12_method_53_code 116 = .ok (.aload_n 0, 1) := by decide +kernel
theorem xd_82_117 : decode prog_12_method_53_code 117 = .ok (.getfield 50, 3) := by decide +kernel
theorem xd_82_120 : decode prog_12_method_53_code 120 = .ok (.iload_n 1, 1) := by decide +kernel
theorem xd_82_121 : decode prog_12_method_53_code 121 = .ok (.iaload, 1) := by decide +kernel
theorem xd_82_122 : decode prog_12_method_53_code 122 = .ok (.iconst 4, 1) := by decide +kernel
theorem xd_82_123 : decode prog_12_method_53_code 123 = .ok (.if_icmp .eq 29, 3) := by decide +kernel
theorem xd_82_126 : decode prog_12_method_53_code 126 = .ok (.aload_n 0, 1) := by decide +kernel
theorem xd_82_127 : decode prog_12_method_53_code 127 = .ok (.getfield 56, 3) := by decide +kernel
theorem xd_82_130 : decode prog_12_method_53_code 130 = .ok (.bipush 20, 2) := by decide +kernel
theorem xd_82_132 : decode prog_12_method_53_code 132 = .ok (.iload_n 1, 1) := by decide +kernel
theorem xd_82_133 : decode prog_12_method_53_code 133 = .ok (.imul, 1) := by decide +kernel
theorem xd_82_134 : decode prog_12_method_53_code 134 = .ok (.aload_n 0, 1) := by decide +kernel
theorem xd_82_135 : decode prog_12_method_53_code 135 = .ok (.getfield 56, 3) := by decide +kernel
theorem xd_82_138 : decode prog_12_method_53_code 138 = .ok (.bipush 20, 2) := by decide +kernel
theorem xd_82_140 : decode prog_12_method_53_code 140 = .ok (.iload_n 2, 1) := by decide +kernel
theorem xd_82_141 : decode prog_12_method_53_code 141 = .ok (.imul, 1) := by decide +kernel
theorem xd_82_142 : decode prog_12_method_53_code 142 = .ok (.aload_n 0, 1) := by decide +kernel
theorem xd_82_143 : decode prog_12_method_53_code 143 = .ok (.getfield 53, 3) := by decide +kernel
theorem xd_82_146 : decode prog_12_method_53_code 146 = .ok (.iload_n 1, 1) := by decide +kernel
theorem xd_82_147 : decode prog_12_method_53_code 147 = .ok (.iaload, 1) := by decide +kernel
theorem xd_82_148 : decode prog_12_method_53_code 148 = .ok (.invokestatic 117, 3) := by decide +kernel
theorem xd_82_151 : decode prog_12_method_53_code 151 = .ok (.ireturn, 1) := by decide +kernel
theorem xd_82_152 : decode prog_12_method_53_code 152 = .ok (.iconst 1, 1) := by decide +kernel
theorem xd_82_153 : decode prog_12_method_53_code 153 = .ok (.istore_n 3, 1) := by decide +kernel
theorem xd_82_154 : decode prog_12_method_53_code 154 = .ok (.iconst 0, 1) := by decide +kernel
theorem xd_82_155 : decode prog_12_method_53_code 155 = .ok (.istore 4, 2) := by decide +kernel
theorem xd_82_157 : decode prog_12_method_53_code 157 = .ok (.iload 4, 2) := by decide +kernel
theorem xd_82_159 : decode prog_12_method_53_code 159 = .ok (.aload_n 0, 1) := by decide +kernel
theorem xd_82_160 : decode prog_12_method_53_code 160 = .ok (.getfield 53, 3) := by decide +kernel
theorem xd_82_163 : decode prog_12_method_53_code 163 = .ok (.iload_n 1, 1) := by decide +kernel
theorem xd_82_164 : decode prog_12_method_53_code 164 = .ok (.iaload, 1) := by decide +kernel
theorem xd_82_165 : decode prog_12_method_53_code 165 = .ok (.if_icmp .ge 46, 3) := by decide +kernel
theorem xd_82_168 : decode prog_12_method_53_code 168 = .ok (.iload_n 3, 1) := by decide +kernel
theorem xd_82_169 : decode prog_12_method_53_code 169 = .ok (.ifCond .eq 34, 3) := by decide +kernel
theorem xd_82_172 : decode prog_12_method_53_code 172 = .ok (.aload_n 0, 1) := by decide +kernel
theorem xd_82_173 : decode prog_12_method_53_code 173 = .ok (.getfield 62, 3) := by decide +kernel
theorem xd_82_176 : decode prog_12_method_53_code 176 = .ok (.aload_n 0, 1) := by decide +kernel
theorem xd_82_177 : decode prog_12_method_53_code 177 = .ok (.iload_n 1, 1) := by decide +kernel
theorem xd_82_178 : decode prog_12_method_53_code 178 = .ok (.iload 4, 2) := by decide +kernel
theorem xd_82_180 : decode prog_12_method_53_code 180 = .ok (.invokevirtual 174, 3) := by decide +kernel
theorem xd_82_183 : decode prog_12_method_53_code 183 = .ok (.iaload, 1) := by decide +kernel
theorem xd_82_184 : decode prog_12_method_53_code 184 = .ok (.aload_n 0, 1) := by decide +kernel
theorem xd_82_185 : decode prog_12_method_53_code 185 = .ok (.getfield 62, 3) := by decide +kernel
theorem xd_82_188 : decode prog_12_method_53_code 188 = .ok (.aload_n 0, 1) := by decide +kernel
theorem xd_82_189 : decode prog_12_method_53_code 189 = .ok (.iload_n 2, 1) := by decide +kernel
theorem xd_82_190 : decode prog_12_method_53_code 190 = .ok (.iload 4, 2) := by decide +kernel
theorem xd_82_192 : decode prog_12_method_53_code 192 = .ok (.invokevirtual 174, 3) := by decide +kernel
theorem xd_82_195 : decode prog_12_method_53_code 195 = .ok (.iaload, 1) := by decide +kernel
theorem xd_82_196 : decode prog_12_method_53_code 196 = .ok (.if_icmp .ne 7, 3) := by decide +kernel
theorem xd_82_199 : decode prog_12_method_53_code 199 = .ok (.iconst 1, 1) := by decide +kernel
theorem xd_82_200 : decode prog_12_method_53_code 200 = .ok (.goto 4, 3) := by decide +kernel
theorem xd_82_203 : decode prog_12_method_53_code 203 = .ok (.iconst 0, 1) := by decide +kernel
theorem xd_82_204 : decode prog_12_method_53_code 204 = .ok (.istore_n 3, 1) := by decide +kernel
theorem xd_82_205 : decode prog_12_method_53_code 205 = .ok (.iinc 4 1, 3) := by decide +kernel
theorem xd_82_208 : decode prog_12_method_53_code 208 = .ok (.goto (-51), 3) := by decide +kernel
theorem xd_82_211 : decode prog_12_method_53_code 211 = .ok (.iload_n 3, 1) := by decide +kernel
theorem xd_82_212 : decode prog_12_method_53_code 212 = .ok (.ireturn, 1) := by decide +kernel
theorem xd_83_0 : decode prog_12_method_54_code 0 = .ok (.aload_n 0, 1) := by decide +kernel
theorem xd_83_1 : decode prog_12_method_54_code 1 = .ok (.getfield 41, 3) := by decide +kernel
theorem xd_83_4 : decode prog_12_method_54_code 4 = .ok (.iload_n 1, 1) := by decide +kernel
theorem xd_83_5 : decode prog_12_method_54_code 5 = .ok (.iaload, 1) := by decide +kernel
theorem xd_83_6 : decode prog_12_method_54_code 6 = .ok (.aload_n 0, 1) := by decide +kernel
theorem xd_83_7 : decode prog_12_method_54_code 7 = .ok (.getfield 41, 3) := by decide +kernel
theorem xd_83_10 : decode prog_12_method_54_code 10 = .ok (.iload_n 2, 1) := by decide +kernel
theorem xd_83_11 : decode prog_12_method_54_code 11 = .ok (.iaload, 1) := by decide +kernel
theorem xd_83_12 : decode prog_12_method_54_code 12 = .ok (.if_icmp .ne 50, 3) := by decide +kernel
theorem xd_83_15 : decode prog_12_method_54_code 15 = .ok (.aload_n 0, 1) := by decide +kernel
theorem xd_83_16 : decode prog_12_method_54_code 16 = .ok (.getfield 47, 3) := by decide +kernel
theorem xd_83_19 : decode prog_12_method_54_code 19 = .ok (.iload_n 1, 1) := by decide +kernel
theorem xd_83_20 : decode prog_12_method_54_code 20 = .ok (.iaload, 1) := by decide +kernel
theorem xd_83_21 : decode prog_12_method_54_code 21 = .ok (.aload_n 0, 1) := by decide +kernel
theorem xd_83_22 : decode prog_12_method_54_code 22 = .ok (.getfield 47, 3) := by decide +kernel
theorem xd_83_25 : decode prog_12_method_54_code 25 = .ok (.iload_n 2, 1) := by decide +kernel
theorem xd_83_26 : decode prog_12_method_54_code 26 = .ok (.iaload, 1) := by decide +kernel
theorem xd_83_27 : decode prog_12_method_54_code 27 = .ok (.if_icmp .ne 35, 3) := by decide +kernel
theorem xd_83_30 : decode prog_12_method_54_code 30 = .ok (.aload_n 0, 1) := by decide +kernel
theorem xd_83_31 : decode prog_12_method_54_code 31 = .ok (.getfield 44, 3) := by decide +kernel
theorem xd_83_34 : decode prog_12_method_54_code 34 = .ok (.bipush 8, 2) := by decide +kernel
theorem xd_83_36 : decode prog_12_method_54_code 36 = .ok (.iload_n 1, 1) := by decide +kernel
theorem xd_83_37 : decode prog_12_method_54_code 37 = .ok (.imul, 1) := by decide +kernel
theorem xd_83_38 : decode prog_12_method_54_code 38 = .ok (.aload_n 0, 1) := by decide +kernel
theorem xd_83_39 : decode prog_12_method_54_code 39 = .ok (.getfield 44, 3) := by decide +kernel
theorem xd_83_42 : decode prog_12_method_54_code 42 = .ok (.bipush 8, 2) := by decide +kernel
theorem xd_83_44 : decode prog_12_method_54_code 44 = .ok (.iload_n 2, 1) := by decide +kernel
theorem xd_83_45 : decode prog_12_method_54_code 45 = .ok (.imul, 1) := by decide +kernel
theorem xd_83_46 : decode prog_12_method_54_code 46 = .ok (.aload_n 0, 1) := by decide +kernel
theorem xd_83_47 : decode prog_12_method_54_code 47 = .ok (.getfield 41, 3) := by decide +kernel
theorem xd_83_50 : decode prog_12_method_54_code 50 = .ok (.iload_n 1, 1) := by decide +kernel
theorem xd_83_51 : decode prog_12_method_54_code 51 = .ok (.iaload, 1) := by decide +kernel
theorem xd_83_52 : decode prog_12_method_54_code 52 = .ok (.invokestatic 117, 3) := by decide +kernel
theorem xd_83_55 : decode prog_12_method_54_code 55 = .ok (.ifCond .eq 7, 3) := by decide +kernel
theorem xd_83_58 : decode prog_12_method_54_code 58 = .ok (.iconst 1, 1) := by decide +kernel
theorem xd_83_59 : decode prog_12_method_54_code 59 = .ok (.goto 4, 3) := by decide +kernel
theorem xd_83_62 : decode prog_12_method_54_code 62 = .ok (.iconst 0, 1) := by decide +kernel
theorem xd_83_63 : decode prog_12_method_54_code 63 = .ok (.istore_n 3, 1) := by decide +kernel
theorem xd_83_64 : decode prog_12_method_54_code 64 = .ok (.iconst 0, 1) := by decide +kernel
theorem xd_83_65 : decode prog_12_method_54_code 65 = .ok (.istore 4, 2) := by decide +kernel
theorem xd_83_67 : decode prog_12_method_54_code 67 = .ok (.iload 4, 2) := by decide +kernel
theorem xd_83_69 : decode prog_12_method_54_code 69 = .ok (.aload_n 0, 1) := by decide +kernel
theorem xd_83_70 : decode prog_12_method_54_code 70 = .ok (.getfield 47, 3) := by decide +kernel
theorem xd_83_73 : decode prog_12_method_54_code 73 = .ok (.iload_n 1, 1) := by decide +kernel
theorem xd_83_74 : decode prog_12_method_54_code 74 = .ok (.iaload, 1) := by decide +kernel
theorem xd_83_75 : decode prog_12_method_54_code 75 = .ok (.if_icmp .ge 32, 3) := by decide +kernel
theorem xd_83_78 : decode prog_12_method_54_code 78 = .ok (.iload_n 3, 1) := by decide +kernel
theorem xd_83_79 : decode prog_12_method_54_code 79 = .ok (.ifCond .eq 28, 3) := by decide +kernel
theorem xd_83_82 : decode prog_12_method_54_code 82 = .ok (.aload_n 0, 1) := by decide +kernel
theorem xd_83_83 : decode prog_12_method_54_code 83 = .ok (.bipush 8, 2) := by decide +kernel
theorem xd_83_85 : decode prog_12_method_54_code 85 = .ok (.iload_n 1, 1) := by decide +kernel
theorem xd_83_86 : decode prog_12_method_54_code 86 = .ok (.imul, 1) := by decide +kernel
theorem xd_83_87 : decode prog_12_method_54_code 87 = .ok (.iload 4, 2) := by decide +kernel
theorem xd_83_89 : decode prog_12_method_54_code 89 = .ok (.iadd, 1) := by decide +kernel
theorem xd_83_90 : decode prog_12_method_54_code 90 = .ok (.bipush 8, 2) := by decide +kernel
theorem xd_83_92 : decode prog_12_method_54_code 92 = .ok (.iload_n 2, 1) := by decide +kernel
theorem xd_83_93 : decode prog_12_method_54_code 93 = .ok (.imul, 1) := by decide +kernel
theorem xd_83_94 : decode prog_12_method_54_code 94 = .ok (.iload 4, 2) := by decide +kernel
theorem xd_83_96 : decode prog_12_method_54_code 96 = .ok (.iadd, 1) := by decide +kernel
theorem xd_83_97 : decode prog_12_method_54_code 97 = .ok (.invokevirtual 205, 3) := by decide +kernel
theorem xd_83_100 : decode prog_12_method_54_code 100 = .ok (.istore_n 3, 1) := by decide +kernel
theorem xd_83_101 : decode prog_12_method_54_code 101 = .ok (.iinc 4 1, 3) := by decide +kernel
theorem xd_83_104 : decode prog_12_method_54_code 104 = .ok (.goto (-37), 3) := by decide +kernel
theorem xd_83_107 : decode prog_12_method_54_code 107 = .ok (.iload_n 3, 1) := by decide +kernel
theorem xd_83_108 : decode prog_12_method_54_code 108 = .ok (.ireturn, 1) := by decide +kernel
theorem xd_84_0 : decode prog_12_method_55_code 0 = .ok (.aload_n 0, 1) := by decide +kernel
theorem xd_84_1 : decode prog_12_method_55_code 1 = .ok (.invokevirtual 180, 3) := by decide +kernel
theorem xd_84_4 : decode prog_12_method_55_code 4 = .ok (.iconst 0, 1) := by decide +kernel
theorem xd_84_5 : decode prog_12_method_55_code 5 = .ok (.istore_n 1, 1) := by decide +kernel
theorem xd_84_6 : decode prog_12_method_55_code 6 = .ok (.iload_n 1, 1) := by decide +kernel
theorem xd_84_7 : decode prog_12_method_55_code 7 = .ok (.bipush 40, 2) := by decide +kernel
theorem xd_84_9 : decode prog_12_method_55_code 9 = .ok (.if_icmp .ge 16, 3) := by decide +kernel
theorem xd_84_12 : decode prog_12_method_55_code 12 = .ok (.aload_n 0, 1) := by decide +kernel
theorem xd_84_13 : decode prog_12_method_55_code 13 = .ok (.getfield 62, 3) := by decide +kernel
theorem xd_84_16 : decode prog_12_method_55_code 16 = .ok (.iload_n 1, 1) := by decide +kernel
theorem xd_84_17 : decode prog_12_method_55_code 17 = .ok (.iload_n 1, 1) := by decide +kernel
theorem xd_84_18 : decode prog_12_method_55_code 18 = .ok (.iastore, 1) := by decide +kernel
theorem xd_84_19 : decode prog_12_method_55_code 19 = .ok (.iinc 1 1, 3) := by decide +kernel
theorem xd_84_22 : decode prog_12_method_55_code 22 = .ok (.goto (-16), 3) := by decide +kernel
theorem xd_84_25 : decode prog_12_method_55_code 25 = .ok (.iconst 0, 1) := by decide +kernel
theorem xd_84_26 : decode prog_12_method_55_code 26 = .ok (.istore_n 1, 1) := by decide +kernel
theorem xd_84_27 : decode prog_12_method_55_code 27 = .ok (.iload_n 1, 1) := by decide +kernel
theorem xd_84_28 : decode prog_12_method_55_code 28 = .ok (.bipush 40, 2) := by decide +kernel
theorem xd_84_30 : decode prog_12_method_55_code 30 = .ok (.if_icmp .ge 94, 3) := by decide +kernel
theorem xd_84_33 : decode prog_12_method_55_code 33 = .ok (.iconst 0, 1) := by decide +kernel
theorem xd_84_34 : decode prog_12_method_55_code 34 = .ok (.istore_n 2, 1) := by decide +kernel
theorem xd_84_35 : decode prog_12_method_55_code 35 = .ok (.iload_n 2, 1) := by decide +kernel
theorem xd_84_36 : decode prog_12_method_55_code 36 = .ok (.aload_n 0, 1) := by decide +kernel
theorem xd_84_37 : decode prog_12_method_55_code 37 = .ok (.getfield 35, 3) := by decide +kernel
theorem xd_84_40 : decode prog_12_method_55_code 40 = .ok (.iconst 0, 1) := by decide +kernel
theorem xd_84_41 : decode prog_12_method_55_code 41 = .ok (.iaload, 1) := by decide +kernel
theorem xd_84_42 : decode prog_12_method_55_code 42 = .ok (.if_icmp .ge 76, 3) := by decide +kernel
theorem xd_84_45 : decode prog_12_method_55_code 45 = .ok (.aload_n 0, 1) := by decide +kernel
theorem xd_84_46 : decode prog_12_method_55_code 46 = .ok (.getfield 59, 3) := by decide +kernel
theorem xd_84_49 : decode prog_12_method_55_code 49 = .ok (.iload_n 2, 1) := by decide +kernel
theorem xd_84_50 : decode prog_12_method_55_code 50 = .ok (.iaload, 1) := by decide +kernel
theorem xd_84_51 : decode prog_12_method_55_code 51 = .ok (.iload_n 1, 1) := by decide +kernel
theorem xd_84_52 : decode prog_12_method_55_code 52 = .ok (.if_icmp .eq 6, 3) := by decide +kernel
theorem xd_84_55 : decode prog_12_method_55_code 55 = .ok (.goto 57, 3) := by decide +kernel
theorem xd_84_58 : decode prog_12_method_55_code 58 = .ok (.iconst 0, 1) := by decide +kernel
theorem xd_84_59 : decode prog_12_method_55_code 59 = .ok (.istore_n 3, 1) := by decide +kernel
theorem xd_84_60 : decode prog_12_method_55_code 60 = .ok (.iload_n 3, 1) := by decide +kernel
theorem xd_84_61 : decode prog_12_method_55_code 61 = .ok (.iload_n 2, 1) := by decide +kernel
theorem xd_84_62 : decode prog_12_method_55_code 62 = .ok (.if_icmp .ge 50, 3) := by decide +kernel
theorem xd_84_65 : decode prog_12_method_55_code 65 = .ok (.aload_n 0, 1) := by decide +kernel
theorem xd_84_66 : decode prog_12_method_55_code 66 = .ok (.getfield 62, 3) := by decide +kernel
theorem xd_84_69 : decode prog_12_method_55_code 69 = .ok (.iload_n 2, 1) := by decide +kernel
theorem xd_84_70 : decode prog_12_method_55_code 70 = .ok (.iaload, 1) := by decide +kernel
theorem xd_84_71 : decode prog_12_method_55_code 71 = .ok (.iload_n 2, 1) := by decide +kernel
theorem xd_84_72 : decode prog_12_method_55_code 72 = .ok (.if_icmp .ne 40, 3) := by decide +kernel
theorem xd_84_75 : decode prog_12_method_55_code 75 = .ok (.aload_n 0, 1) := by decide +kernel
theorem xd_84_76 : decode prog_12_method_55_code 76 = .ok (.getfield 59, 3) := by decide +kernel
theorem xd_84_79 : decode prog_12_method_55_code 79 = .ok (.iload_n 3, 1) := by decide +kernel
theorem xd_84_80 : decode prog_12_method_55_code 80 = .ok (.iaload, 1) := by decide +kernel
theorem xd_84_81 : decode prog_12_method_55_code 81 = .ok (.iload_n 1, 1) := by decide +kernel
theorem xd_84_82 : decode prog_12_method_55_code 82 = .ok (.if_icmp .ne 24, 3) := by decide +kernel
theorem xd_84_85 : decode prog_12_method_55_code 85 = .ok (.aload_n 0, 1) := by decide +kernel
theorem xd_84_86 : decode prog_12_method_55_code 86 = .ok (.iload_n 2, 1) := by decide +kernel
theorem xd_84_87 : decode prog_12_method_55_code 87 = .ok (.iload_n 3, 1) := by decide +kernel
theorem xd_84_88 : decode prog_12_method_55_code 88 = .ok (.invokevirtual 209, 3) := by decide +kernel
theorem xd_84_91 : decode prog_12_method_55_code 91 = .ok (.ifCond .eq 15, 3) := by decide +kernel
theorem xd_84_94 : decode prog_12_method_55_code 94 = .ok (.aload_n 0, 1) := by decide +kernel
theorem xd_84_95 : decode prog_12_method_55_code 95 = .ok (.getfield 62, 3) := by decide +kernel
theorem xd_84_98 : decode prog_12_method_55_code 98 = .ok (.iload_n 2, 1) := by decide +kernel
theorem xd_84_99 : decode prog_12_method_55_code 99 = .ok (.aload_n 0, 1) := by decide +kernel
theorem xd_84_100 : decode prog_12_method_55_code 100 = .ok (.getfield 62, 3) := by decide +kernel
theorem xd_84_103 : decode prog_12_method_55_code 103 = .ok (.iload_n 3, 1) := by decide +kernel
theorem xd_84_104 : decode prog_12_method_55_code 104 = .ok (.iaload, 1) := by decide +kernel
theorem xd_84_105 : decode prog_12_method_55_code 105 = .ok (.iastore, 1) := by decide +kernel
theorem xd_84_106 : decode prog_12_method_55_code 106 = .ok (.iinc 3 1, 3) := by decide +kernel
theorem xd_84_109 : decode prog_12_method_55_code 109 = .ok (.goto (-49), 3) := by decide +kernel
theorem xd_84_112 : decode prog_12_method_55_code 112 = .ok (.iinc 2 1, 3) := by decide +kernel
theorem xd_84_115 : decode prog_12_method_55_code 115 = .ok (.goto (-80), 3) := by decide +kernel
theorem xd_84_118 : decode prog_12_method_55_code 118 = .ok (.iinc 1 1, 3) := by decide +kernel
theorem xd_84_121 : decode prog_12_method_55_code 121 = .ok (.goto (-94), 3) := by decide +kernel
theorem xd_84_124 : decode prog_12_method_55_code 124 = .ok (.return_, 1) := by decide +kernel
theorem xd_85_0 : decode prog_12_method_56_code 0 = .ok (.aload_n 0, 1) := by decide +kernel
theorem xd_85_1 : decode prog_12_method_56_code 1 = .ok (.iconst 0, 1) := by decide +kernel
theorem xd_85_2 : decode prog_12_method_56_code 2 = .ok (.putfield 69, 3) := by decide +kernel
theorem xd_85_5 : decode prog_12_method_56_code 5 = .ok (.aload_n 0, 1) := by decide +kernel
theorem xd_85_6 : decode prog_12_method_56_code 6 = .ok (.iconst 0, 1) := by decide +kernel
theorem xd_85_7 : decode prog_12_method_56_code 7 = .ok (.iload_n 1, 1) := by decide +kernel
theorem xd_85_8 : decode prog_12_method_56_code 8 = .ok (.invokevirtual 143, 3) := by decide +kernel
theorem xd_85_11 : decode prog_12_method_56_code 11 = .ok (.istore_n 3, 1) := by decide +kernel
theorem xd_85_12 : decode prog_12_method_56_code 12 = .ok (.aload_n 0, 1) := by decide +kernel
theorem xd_85_13 : decode prog_12_method_56_code 13 = .ok (.iconst 0, 1) := by decide +kernel
theorem xd_85_14 : decode prog_12_method_56_code 14 = .ok (.iload_n 2, 1) := by decide +kernel
theorem xd_85_15 : decode prog_12_method_56_code 15 = .ok (.invokevirtual 143, 3) := by decide +kernel
theorem xd_85_18 : decode prog_12_method_56_code 18 = .ok (.istore 4, 2) := by decide +kernel
theorem xd_85_20 : decode prog_12_method_56_code 20 = .ok (.aload_n 0, 1) := by decide +kernel
theorem xd_85_21 : decode prog_12_method_56_code 21 = .ok (.iload_n 3, 1) := by decide +kernel
theorem xd_85_22 : decode prog_12_method_56_code 22 = .ok (.iconst (-1), 1) := by decide +kernel
theorem xd_85_23 : decode prog_12_method_56_code 23 = .ok (.if_icmp .eq 9, 3) := by decide +kernel
theorem xd_85_26 : decode prog_12_method_56_code 26 = .ok (.iload 4, 2) := by decide +kernel
theorem xd_85_28 : decode prog_12_method_56_code 28 = .ok (.iconst (-1), 1) := by decide +kernel
theorem xd_85_29 : decode prog_12_method_56_code 29 = .ok (.if_icmp .ne 7, 3) := by decide +kernel
theorem xd_85_32 : decode prog_12_method_56_code 32 = .ok (.iconst 1, 1) := by decide +kernel
theorem xd_85_33 : decode prog_12_method_56_code 33 = .ok (.goto 4, 3) := by decide +kernel
theorem xd_85_36 : decode prog_12_method_56_code 36 = .ok (.iconst 0, 1) := by decide +kernel
theorem xd_85_37 : decode prog_12_method_56_code 37 = .ok (.iconst 1, 1) := by decide +kernel
theorem xd_85_38 : decode prog_12_method_56_code 38 = .ok (.invokevirtual 75, 3) := by decide +kernel
theorem xd_85_41 : decode prog_12_method_56_code 41 = .ok (.ifCond .eq 5, 3) := by decide +kernel
theorem xd_85_44 : decode prog_12_method_56_code 44 = .ok (.iconst 0, 1) := by decide +kernel
theorem xd_85_45 : decode prog_12_method_56_code 45 = .ok (.ireturn, 1) := by decide +kernel
theorem xd_85_46 : decode prog_12_method_56_code 46 = .ok (.aload_n 0, 1) := by decide +kernel
theorem xd_85_47 : decode prog_12_method_56_code 47 = .ok (.invokevirtual 212, 3) := by decide +kernel
theorem xd_85_50 : decode prog_12_method_56_code 50 = .ok (.aload_n 0, 1) := by decide +kernel
theorem xd_85_51 : decode prog_12_method_56_code 51 = .ok (.getfield 62, 3) := by decide +kernel
theorem xd_85_54 : decode prog_12_method_56_code 54 = .ok (.iload_n 3, 1) := by decide +kernel
theorem xd_85_55 : decode prog_12_method_56_code 55 = .ok (.iaload, 1) := by decide +kernel
theorem xd_85_56 : decode prog_12_method_56_code 56 = .ok (.aload_n 0, 1) := by decide +kernel
theorem xd_85_57 : decode prog_12_method_56_code 57 = .ok (.getfield 62, 3) := by decide +kernel
theorem xd_85_60 : decode prog_12_method_56_code 60 = .ok (.iload 4, 2) := by decide +kernel
theorem xd_85_62 : decode prog_12_method_56_code 62 = .ok (.iaload, 1) := by decide +kernel
theorem xd_85_63 : decode prog_12_method_56_code 63 = .ok (.if_icmp .ne 7, 3) := by decide +kernel
theorem xd_85_66 : decode prog_12_method_56_code 66 = .ok (.iconst 1, 1) := by decide +kernel
theorem xd_85_67 : decode prog_12_method_56_code 67 = .ok (.goto 4, 3) := by decide +kernel
theorem xd_85_70 : decode prog_12_method_56_code 70 = .ok (.iconst 0, 1) := by decide +kernel
theorem xd_85_71 : decode prog_12_method_56_code 71 = .ok (.ireturn, 1) := by decide +kernel
theorem xd_86_0 : decode prog_12_method_57_code 0 = .ok (.aload_n 0, 1) := by decide +kernel
theorem xd_86_1 : decode prog_12_method_57_code 1 = .ok (.iconst 0, 1) := by decide +kernel
theorem xd_86_2 : decode prog_12_method_57_code 2 = .ok (.putfield 69, 3) := by decide +kernel
theorem xd_86_5 : decode prog_12_method_57_code 5 = .ok (.aload_n 0, 1) := by decide +kernel
theorem xd_86_6 : decode prog_12_method_57_code 6 = .ok (.invokevirtual 212, 3) := by decide +kernel
theorem xd_86_9 : decode prog_12_method_57_code 9 = .ok (.iconst 0, 1) := by decide +kernel
theorem xd_86_10 : decode prog_12_method_57_code 10 = .ok (.istore_n 1, 1) := by decide +kernel
theorem xd_86_11 : decode prog_12_method_57_code 11 = .ok (.iload_n 1, 1) := by decide +kernel
theorem xd_86_12 : decode prog_12_method_57_code 12 = .ok (.aload_n 0, 1) := by decide +kernel
theorem xd_86_13 : decode prog_12_method_57_code 13 = .ok (.getfield 35, 3) := by decide +kernel
theorem xd_86_16 : decode prog_12_method_57_code 16 = .ok (.iconst 0, 1) := by decide +kernel
theorem xd_86_17 : decode prog_12_method_57_code 17 = .ok (.iaload, 1) := by decide +kernel
theorem xd_86_18 : decode prog_12_method_57_code 18 = .ok (.if_icmp .ge 122, 3) := by decide +kernel
theorem xd_86_21 : decode prog_12_method_57_code 21 = .ok (.bipush 8, 2) := by decide +kernel
theorem xd_86_23 : decode prog_12_method_57_code 23 = .ok (.iload_n 1, 1) := by decide +kernel
theorem xd_86_24 : decode prog_12_method_57_code 24 = .ok (.imul, 1) := by decide +kernel
theorem xd_86_25 : decode prog_12_method_57_code 25 = .ok (.istore_n 2, 1) := by decide +kernel
theorem xd_86_26 : decode prog_12_method_57_code 26 = .ok (.iload_n 2, 1) := by decide +kernel
theorem xd_86_27 : decode prog_12_method_57_code 27 = .ok (.bipush 8, 2) := by decide +kernel
theorem xd_86_29 : decode prog_12_method_57_code 29 = .ok (.iload_n 1, 1) := by decide +kernel
theorem xd_86_30 : decode prog_12_method_57_code 30 = .ok (.imul, 1) := by decide +kernel
theorem xd_86_31 : decode prog_12_method_57_code 31 = .ok (.aload_n 0, 1) := by decide +kernel
theorem xd_86_32 : decode prog_12_method_57_code 32 = .ok (.getfield 47, 3) := by decide +kernel
theorem xd_86_35 : decode prog_12_method_57_code 35 = .ok (.iload_n 1, 1) := by decide +kernel
theorem xd_86_36 : decode prog_12_method_57_code 36 = .ok (.iaload, 1) := by decide +kernel
theorem xd_86_37 : decode prog_12_method_57_code 37 = .ok (.iadd, 1) := by decide +kernel
theorem xd_86_38 : decode prog_12_method_57_code 38 = .ok (.if_icmp .ge 96, 3) := by decide +kernel
theorem xd_86_41 : decode prog_12_method_57_code 41 = .ok (.aload_n 0, 1) := by decide +kernel
theorem xd_86_42 : decode prog_12_method_57_code 42 = .ok (.getfield 50, 3) := by decide +kernel
theorem xd_86_45 : decode prog_12_method_57_code 45 = .ok (.iload_n 2, 1) := by decide +kernel
theorem xd_86_46 : decode prog_12_method_57_code 46 = .ok (.iaload, 1) := by decide +kernel
theorem xd_86_47 : decode prog_12_method_57_code 47 = .ok (.iconst 2, 1) := by decide +kernel
theorem xd_86_48 : decode prog_12_method_57_code 48 = .ok (.if_icmp .ne 25, 3) := by decide +kernel
theorem xd_86_51 : decode prog_12_method_57_code 51 = .ok (.aload_n 0, 1) := by decide +kernel
theorem xd_86_52 : decode prog_12_method_57_code 52 = .ok (.getfield 53, 3) := by decide +kernel
theorem xd_86_55 : decode prog_12_method_57_code 55 = .ok (.iload_n 2, 1) := by decide +kernel
theorem xd_86_56 : decode prog_12_method_57_code 56 = .ok (.aload_n 0, 1) := by decide +kernel
theorem xd_86_57 : decode prog_12_method_57_code 57 = .ok (.getfield 38, 3) := by decide +kernel
theorem xd_86_60 : decode prog_12_method_57_code 60 = .ok (.aload_n 0, 1) := by decide +kernel
theorem xd_86_61 : decode prog_12_method_57_code 61 = .ok (.getfield 62, 3) := by decide +kernel
theorem xd_86_64 : decode prog_12_method_57_code 64 = .ok (.aload_n 0, 1) := by decide +kernel
theorem xd_86_65 : decode prog_12_method_57_code 65 = .ok (.iload_n 2, 1) := by decide +kernel
theorem xd_86_66 : decode prog_12_method_57_code 66 = .ok (.iconst 0, 1) := by decide +kernel
theorem xd_86_67 : decode prog_12_method_57_code 67 = .ok (.invokevirtual 174, 3) := by decide +kernel
theorem xd_86_70 : decode prog_12_method_57_code 70 = .ok (.iaload, 1) := by decide +kernel
theorem xd_86_71 : decode prog_12_method_57_code 71 = .ok (.iaload, 1) := by decide +kernel
theorem xd_86_72 : decode prog_12_method_57_code 72 = .ok (.iastore, 1) := by decide +kernel
theorem xd_86_73 : decode prog_12_method_57_code 73 = .ok (.iconst 0, 1) := by decide +kernel
theorem xd_86_74 : decode prog_12_method_57_code 74 = .ok (.istore_n 3, 1) := by decide +kernel
theorem xd_86_75 : decode prog_12_method_57_code 75 = .ok (.iload_n 3, 1) := by decide +kernel
theorem xd_86_76 : decode prog_12_method_57_code 76 = .ok (.aload_n 0, 1) := by decide +kernel
theorem xd_86_77 : decode prog_12_method_57_code 77 = .ok (.getfield 53, 3) := by decide +kernel
theorem xd_86_80 : decode prog_12_method_57_code 80 = .ok (.iload_n 2, 1) := by decide +kernel
theorem xd_86_81 : decode prog_12_method_57_code 81 = .ok (.iaload, 1) := by decide +kernel
theorem xd_86_82 : decode prog_12_method_57_code 82 = .ok (.if_icmp .ge 46, 3) := by decide +kernel
theorem xd_86_85 : decode prog_12_method_57_code 85 = .ok (.aload_n 0, 1) := by decide +kernel
theorem xd_86_86 : decode prog_12_method_57_code 86 = .ok (.getfield 50, 3) := by decide +kernel
theorem xd_86_89 : decode prog_12_method_57_code 89 = .ok (.iload_n 2, 1) := by decide +kernel
theorem xd_86_90 : decode prog_12_method_57_code 90 = .ok (.iaload, 1) := by decide +kernel
theorem xd_86_91 : decode prog_12_method_57_code 91 = .ok (.iconst 4, 1) := by decide +kernel
theorem xd_86_92 : decode prog_12_method_57_code 92 = .ok (.if_icmp .ne 36, 3) := by decide +kernel
theorem xd_86_95 : decode prog_12_method_57_code 95 = .ok (.aload_n 0, 1) := by decide +kernel
theorem xd_86_96 : decode prog_12_method_57_code 96 = .ok (.getfield 56, 3) := by decide +kernel
theorem xd_86_99 : decode prog_12_method_57_code 99 = .ok (.bipush 20, 2) := by decide +kernel
theorem xd_86_101 : decode prog_12_method_57_code 101 = .ok (.iload_n 2, 1) := by decide +kernel
theorem xd_86_102 : decode prog_12_method_57_code 102 = .ok (.imul, 1) := by decide +kernel
theorem xd_86_103 : decode prog_12_method_57_code 103 = .ok (.iload_n 3, 1) := by decide +kernel
theorem xd_86_104 : decode prog_12_method_57_code 104 = .ok (.iadd, 1) := by decide +kernel
theorem xd_86_105 : decode prog_12_method_57_code 105 = .ok (.aload_n 0, 1) := by decide +kernel
theorem xd_86_106 : decode prog_12_method_57_code 106 = .ok (.getfield 38, 3) := by decide +kernel
theorem xd_86_109 : decode prog_12_method_57_code 109 = .ok (.aload_n 0, 1) := by decide +kernel
theorem xd_86_110 : decode prog_12_method_57_code 110 = .ok (.getfield 62, 3) := by decide +kernel
theorem xd_86_113 : decode prog_12_method_57_code 113 = .ok (.aload_n 0, 1) := by decide +kernel
theorem xd_86_114 : decode prog_12_method_57_code 114 = .ok (.iload_n 2, 1) := by decide +kernel
theorem xd_86_115 : decode prog_12_method_57_code 115 = .ok (.iload_n 3, 1) := by decide +kernel
theorem xd_86_116 : decode prog_12_method_57_code 116 = .ok (.invokevirtual 174, 3) := by decide +kernel
theorem xd_86_119 : decode prog_12_method_57_code 119 = .ok (.iaload, 1) := by decide +kernel
theorem xd_86_120 : decode prog_12_method_57_code 120 = .ok (.iaload, 1) := by decide +kernel
theorem xd_86_121 : decode prog_12_method_57_code 121 = .ok (.iastore, 1) := by decide +kernel
theorem xd_86_122 : decode prog_12_method_57_code 122 = .ok (.iinc 3 1, 3) := by decide +kernel
theorem xd_86_125 : decode prog_12_method_57_code 125 = .ok (.goto (-50), 3) := by decide +kernel
theorem xd_86_128 : decode prog_12_method_57_code 128 = .ok (.iinc 2 1, 3) := by decide +kernel
theorem xd_86_131 : decode prog_12_method_57_code 131 = .ok (.goto (-105), 3) := by decide +kernel
theorem xd_86_134 : decode prog_12_method_57_code 134 = .ok (.iinc 1 1, 3) := by decide +kernel
theorem xd_86_137 : decode prog_12_method_57_code 137 = .ok (.goto (-126), 3) := by decide +kernel
theorem xd_86_140 : decode prog_12_method_57_code 140 = .ok (.iconst 0, 1) := by decide +kernel
theorem xd_86_141 : decode prog_12_method_57_code 141 = .ok (.istore_n 1, 1) := by decide +kernel
theorem xd_86_142 : decode prog_12_method_57_code 142 = .ok (.iconst 0, 1) := by decide +kernel
theorem xd_86_143 : decode prog_12_method_57_code 143 = .ok (.istore_n 2, 1) := by decide +kernel
theorem xd_86_144 : decode prog_12_method_57_code 144 = .ok (.iconst 0, 1) := by decide +kernel
theorem xd_86_145 : decode prog_12_method_57_code 145 = .ok (.istore_n 3, 1) := by decide +kernel
