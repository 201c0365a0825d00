theorem xd_86_146 : decode prog_12_method_57_code 146 = .ok (.iload_n 3, 1) := by decide +kernel
theorem xd_86_147 : decode prog_12_method_57_code 147 = .ok (.aload_n 0, 1) := by decide +kernel
theorem xd_86_148 : decode prog_12_method_57_code 148 = .ok (.getfield 35, 3) := by decide +kernel
theorem xd_86_151 : decode prog_12_method_57_code 151 = .ok (.iconst 0, 1) := by decide +kernel
theorem xd_86_152 : decode prog_12_method_57_code 152 = .ok (.iaload, 1) := by decide +kernel
theorem xd_86_153 : decode prog_12_method_57_code 153 = .ok (.if_icmp .ge 34, 3) := by decide +kernel
theorem xd_86_156 : decode prog_12_method_57_code 156 = .ok (.aload_n 0, 1) := by decide +kernel
theorem xd_86_157 : decode prog_12_method_57_code 157 = .ok (.getfield 62, 3) := by decide +kernel
theorem xd_86_160 : decode prog_12_method_57_code 160 = .ok (.iload_n 3, 1) := by decide +kernel
theorem xd_86_161 : decode prog_12_method_57_code 161 = .ok (.iaload, 1) := by decide +kernel
theorem xd_86_162 : decode prog_12_method_57_code 162 = .ok (.iload_n 3, 1) := by decide +kernel
theorem xd_86_163 : decode prog_12_method_57_code 163 = .ok (.if_icmp .eq 9, 3) := by decide +kernel
theorem xd_86_166 : decode prog_12_method_57_code 166 = .ok (.iinc 1 1, 3) := by decide +kernel
theorem xd_86_169 : decode prog_12_method_57_code 169 = .ok (.goto 12, 3) := by decide +kernel
theorem xd_86_172 : decode prog_12_method_57_code 172 = .ok (.aload_n 0, 1) := by decide +kernel
theorem xd_86_173 : decode prog_12_method_57_code 173 = .ok (.iload_n 2, 1) := by decide +kernel
theorem xd_86_174 : decode prog_12_method_57_code 174 = .ok (.iload_n 3, 1) := by decide +kernel
theorem xd_86_175 : decode prog_12_method_57_code 175 = .ok (.invokevirtual 155, 3) := by decide +kernel
theorem xd_86_178 : decode prog_12_method_57_code 178 = .ok (.iinc 2 1, 3) := by decide +kernel
theorem xd_86_181 : decode prog_12_method_57_code 181 = .ok (.iinc 3 1, 3) := by decide +kernel
theorem xd_86_184 : decode prog_12_method_57_code 184 = .ok (.goto (-38), 3) := by decide +kernel
theorem xd_86_187 : decode prog_12_method_57_code 187 = .ok (.aload_n 0, 1) := by decide +kernel
theorem xd_86_188 : decode prog_12_method_57_code 188 = .ok (.getfield 35, 3) := by decide +kernel
theorem xd_86_191 : decode prog_12_method_57_code 191 = .ok (.iconst 0, 1) := by decide +kernel
theorem xd_86_192 : decode prog_12_method_57_code 192 = .ok (.iload_n 2, 1) := by decide +kernel
theorem xd_86_193 : decode prog_12_method_57_code 193 = .ok (.iastore, 1) := by decide +kernel
theorem xd_86_194 : decode prog_12_method_57_code 194 = .ok (.iload_n 1, 1) := by decide +kernel
theorem xd_86_195 : decode prog_12_method_57_code 195 = .ok (.ireturn, 1) := by decide +kernel
theorem xd_87_0 : decode prog_12_method_58_code 0 = .ok (.aload_n 0, 1) := by decide +kernel
theorem xd_87_1 : decode prog_12_method_58_code 1 = .ok (.getfield 41, 3) := by decide +kernel
theorem xd_87_4 : decode prog_12_method_58_code 4 = .ok (.iload_n 1, 1) := by decide +kernel
theorem xd_87_5 : decode prog_12_method_58_code 5 = .ok (.iaload, 1) := by decide +kernel
theorem xd_87_6 : decode prog_12_method_58_code 6 = .ok (.aload_n 0, 1) := by decide +kernel
theorem xd_87_7 : decode prog_12_method_58_code 7 = .ok (.getfield 41, 3) := by decide +kernel
theorem xd_87_10 : decode prog_12_method_58_code 10 = .ok (.iload_n 2, 1) := by decide +kernel
theorem xd_87_11 : decode prog_12_method_58_code 11 = .ok (.iaload, 1) := by decide +kernel
theorem xd_87_12 : decode prog_12_method_58_code 12 = .ok (.if_icmp .ne 50, 3) := by decide +kernel
theorem xd_87_15 : decode prog_12_method_58_code 15 = .ok (.aload_n 0, 1) := by decide +kernel
theorem xd_87_16 : decode prog_12_method_58_code 16 = .ok (.getfield 47, 3) := by decide +kernel
theorem xd_87_19 : decode prog_12_method_58_code 19 = .ok (.iload_n 1, 1) := by decide +kernel
theorem xd_87_20 : decode prog_12_method_58_code 20 = .ok (.iaload, 1) := by decide +kernel
theorem xd_87_21 : decode prog_12_method_58_code 21 = .ok (.aload_n 0, 1) := by decide +kernel
theorem xd_87_22 : decode prog_12_method_58_code 22 = .ok (.getfield 47, 3) := by decide +kernel
theorem xd_87_25 : decode prog_12_method_58_code 25 = .ok (.iload_n 2, 1) := by decide +kernel
theorem xd_87_26 : decode prog_12_method_58_code 26 = .ok (.iaload, 1) := by decide +kernel
theorem xd_87_27 : decode prog_12_method_58_code 27 = .ok (.if_icmp .ne 35, 3) := by decide +kernel
theorem xd_87_30 : decode prog_12_method_58_code 30 = .ok (.aload_n 0, 1) := by decide +kernel
theorem xd_87_31 : decode prog_12_method_58_code 31 = .ok (.getfield 44, 3) := by decide +kernel
theorem xd_87_34 : decode prog_12_method_58_code 34 = .ok (.bipush 8, 2) := by decide +kernel
theorem xd_87_36 : decode prog_12_method_58_code 36 = .ok (.iload_n 1, 1) := by decide +kernel
theorem xd_87_37 : decode prog_12_method_58_code 37 = .ok (.imul, 1) := by decide +kernel
theorem xd_87_38 : decode prog_12_method_58_code 38 = .ok (.aload_n 0, 1) := by decide +kernel
theorem xd_87_39 : decode prog_12_method_58_code 39 = .ok (.getfield 44, 3) := by decide +kernel
theorem xd_87_42 : decode prog_12_method_58_code 42 = .ok (.bipush 8, 2) := by decide +kernel
theorem xd_87_44 : decode prog_12_method_58_code 44 = .ok (.iload_n 2, 1) := by decide +kernel
theorem xd_87_45 : decode prog_12_method_58_code 45 = .ok (.imul, 1) := by decide +kernel
theorem xd_87_46 : decode prog_12_method_58_code 46 = .ok (.aload_n 0, 1) := by decide +kernel
theorem xd_87_47 : decode prog_12_method_58_code 47 = .ok (.getfield 41, 3) := by decide +kernel
theorem xd_87_50 : decode prog_12_method_58_code 50 = .ok (.iload_n 1, 1) := by decide +kernel
theorem xd_87_51 : decode prog_12_method_58_code 51 = .ok (.iaload, 1) := by decide +kernel
theorem xd_87_52 : decode prog_12_method_58_code 52 = .ok (.invokestatic 117, 3) := by decide +kernel
theorem xd_87_55 : decode prog_12_method_58_code 55 = .ok (.ifCond .eq 7, 3) := by decide +kernel
theorem xd_87_58 : decode prog_12_method_58_code 58 = .ok (.iconst 1, 1) := by decide +kernel
theorem xd_87_59 : decode prog_12_method_58_code 59 = .ok (.goto 4, 3) := by decide +kernel
theorem xd_87_62 : decode prog_12_method_58_code 62 = .ok (.iconst 0, 1) := by decide +kernel
theorem xd_87_63 : decode prog_12_method_58_code 63 = .ok (.istore_n 3, 1) := by decide +kernel
theorem xd_87_64 : decode prog_12_method_58_code 64 = .ok (.iconst 0, 1) := by decide +kernel
theorem xd_87_65 : decode prog_12_method_58_code 65 = .ok (.istore 4, 2) := by decide +kernel
theorem xd_87_67 : decode prog_12_method_58_code 67 = .ok (.iload 4, 2) := by decide +kernel
theorem xd_87_69 : decode prog_12_method_58_code 69 = .ok (.aload_n 0, 1) := by decide +kernel
theorem xd_87_70 : decode prog_12_method_58_code 70 = .ok (.getfield 47, 3) := by decide +kernel
theorem xd_87_73 : decode prog_12_method_58_code 73 = .ok (.iload_n 1, 1) := by decide +kernel
theorem xd_87_74 : decode prog_12_method_58_code 74 = .ok (.iaload, 1) := by decide +kernel
theorem xd_87_75 : decode prog_12_method_58_code 75 = .ok (.if_icmp .ge 168, 3) := by decide +kernel
theorem xd_87_78 : decode prog_12_method_58_code 78 = .ok (.iload_n 3, 1) := by decide +kernel
theorem xd_87_79 : decode prog_12_method_58_code 79 = .ok (.ifCond .eq 164, 3) := by decide +kernel
theorem xd_87_82 : decode prog_12_method_58_code 82 = .ok (.bipush 8, 2) := by decide +kernel
theorem xd_87_84 : decode prog_12_method_58_code 84 = .ok (.iload_n 1, 1) := by decide +kernel
theorem xd_87_85 : decode prog_12_method_58_code 85 = .ok (.imul, 1) := by decide +kernel
theorem xd_87_86 : decode prog_12_method_58_code 86 = .ok (.iload 4, 2) := by decide +kernel
theorem xd_87_88 : decode prog_12_method_58_code 88 = .ok (.iadd, 1) := by decide +kernel
theorem xd_87_89 : decode prog_12_method_58_code 89 = .ok (.istore 5, 2) := by decide +kernel
theorem xd_87_91 : decode prog_12_method_58_code 91 = .ok (.bipush 8, 2) := by decide +kernel
theorem xd_87_93 : decode prog_12_method_58_code 93 = .ok (.iload_n 2, 1) := by decide +kernel
theorem xd_87_94 : decode prog_12_method_58_code 94 = .ok (.imul, 1) := by decide +kernel
theorem xd_87_95 : decode prog_12_method_58_code 95 = .ok (.iload 4, 2) := by decide +kernel
theorem xd_87_97 : decode prog_12_method_58_code 97 = .ok (.iadd, 1) := by decide +kernel
theorem xd_87_98 : decode prog_12_method_58_code 98 = .ok (.istore 6, 2) := by decide +kernel
theorem xd_87_100 : decode prog_12_method_58_code 100 = .ok (.aload_n 0, 1) := by decide +kernel
theorem xd_87_101 : decode prog_12_method_58_code 101 = .ok (.getfield 50, 3) := by decide +kernel
theorem xd_87_104 : decode prog_12_method_58_code 104 = .ok (.iload 5, 2) := by decide +kernel
theorem xd_87_106 : decode prog_12_method_58_code 106 = .ok (.iaload, 1) := by decide +kernel
theorem xd_87_107 : decode prog_12_method_58_code 107 = .ok (.aload_n 0, 1) := by decide +kernel
theorem xd_87_108 : decode prog_12_method_58_code 108 = .ok (.getfield 50, 3) := by decide +kernel
theorem xd_87_111 : decode prog_12_method_58_code 111 = .ok (.iload 6, 2) := by decide +kernel
theorem xd_87_113 : decode prog_12_method_58_code 113 = .ok (.iaload, 1) := by decide +kernel
theorem xd_87_114 : decode prog_12_method_58_code 114 = .ok (.if_icmp .ne 24, 3) := by decide +kernel
theorem xd_87_117 : decode prog_12_method_58_code 117 = .ok (.aload_n 0, 1) := by decide +kernel
theorem xd_87_118 : decode prog_12_method_58_code 118 = .ok (.getfield 53, 3) := by decide +kernel
theorem xd_87_121 : decode prog_12_method_58_code 121 = .ok (.iload 5, 2) := by decide +kernel
theorem xd_87_123 : decode prog_12_method_58_code 123 = .ok (.iaload, 1) := by decide +kernel
theorem xd_87_124 : decode prog_12_method_58_code 124 = .ok (.aload_n 0, 1) := by decide +kernel
theorem xd_87_125 : decode prog_12_method_58_code 125 = .ok (.getfield 53, 3) := by decide +kernel
theorem xd_87_128 : decode prog_12_method_58_code 128 = .ok (.iload 6, 2) := by decide +kernel
theorem xd_87_130 : decode prog_12_method_58_code 130 = .ok (.iaload, 1) := by decide +kernel
theorem xd_87_131 : decode prog_12_method_58_code 131 = .ok (.if_icmp .ne 7, 3) := by decide +kernel
theorem xd_87_134 : decode prog_12_method_58_code 134 = .ok (.iconst 1, 1) := by decide +kernel
theorem xd_87_135 : decode prog_12_method_58_code 135 = .ok (.goto 4, 3) := by decide +kernel
theorem xd_87_138 : decode prog_12_method_58_code 138 = .ok (.iconst 0, 1) := by decide +kernel
theorem xd_87_139 : decode prog_12_method_58_code 139 = .ok (.istore_n 3, 1) := by decide +kernel
theorem xd_87_140 : decode prog_12_method_58_code 140 = .ok (.aload_n 0, 1) := by decide +kernel
theorem xd_87_141 : decode prog_12_method_58_code 141 = .ok (.getfield 50, 3) := by decide +kernel
theorem xd_87_144 : decode prog_12_method_58_code 144 = .ok (.iload 5, 2) := by decide +kernel
theorem xd_87_146 : decode prog_12_method_58_code 146 = .ok (.iaload, 1) := by decide +kernel
theorem xd_87_147 : decode prog_12_method_58_code 147 = .ok (.iconst 1, 1) := by decide +kernel
theorem xd_87_148 : decode prog_12_method_58_code 148 = .ok (.if_icmp .eq 36, 3) := by decide +kernel
theorem xd_87_151 : decode prog_12_method_58_code 151 = .ok (.aload_n 0, 1) := by decide +kernel
theorem xd_87_152 : decode prog_12_method_58_code 152 = .ok (.getfield 50, 3) := by decide +kernel
theorem xd_87_155 : decode prog_12_method_58_code 155 = .ok (.iload 5, 2) := by decide +kernel
theorem xd_87_157 : decode prog_12_method_58_code 157 = .ok (.iaload, 1) := by decide +kernel
theorem xd_87_158 : decode prog_12_method_58_code 158 = .ok (.iconst 5, 1) := by decide +kernel
theorem xd_87_159 : decode prog_12_method_58_code 159 = .ok (.if_icmp .eq 25, 3) := by decide +kernel
theorem xd_87_162 : decode prog_12_method_58_code 162 = .ok (.aload_n 0, 1) := by decide +kernel
theorem xd_87_163 : decode prog_12_method_58_code 163 = .ok (.getfield 50, 3) := by decide +kernel
theorem xd_87_166 : decode prog_12_method_58_code 166 = .ok (.iload 5, 2) := by decide +kernel
theorem xd_87_168 : decode prog_12_method_58_code 168 = .ok (.iaload, 1) := by decide +kernel
theorem xd_87_169 : decode prog_12_method_58_code 169 = .ok (.iconst 3, 1) := by decide +kernel
theorem xd_87_170 : decode prog_12_method_58_code 170 = .ok (.if_icmp .eq 14, 3) := by decide +kernel
theorem xd_87_173 : decode prog_12_method_58_code 173 = .ok (.aload_n 0, 1) := by decide +kernel
theorem xd_87_174 : decode prog_12_method_58_code 174 = .ok (.getfield 50, 3) := by decide +kernel
theorem xd_87_177 : decode prog_12_method_58_code 177 = .ok (.iload 5, 2) := by decide +kernel
theorem xd_87_179 : decode prog_12_method_58_code 179 = .ok (.iaload, 1) := by decide +kernel
theorem xd_87_180 : decode prog_12_method_58_code 180 = .ok (.iconst 4, 1) := by decide +kernel
theorem xd_87_181 : decode prog_12_method_58_code 181 = .ok (.if_icmp .ne 7, 3) := by decide +kernel
theorem xd_87_184 : decode prog_12_method_58_code 184 = .ok (.iconst 1, 1) := by decide +kernel
theorem xd_87_185 : decode prog_12_method_58_code 185 = .ok (.goto 4, 3) := by decide +kernel
theorem xd_87_188 : decode prog_12_method_58_code 188 = .ok (.iconst 0, 1) := by decide +kernel
theorem xd_87_189 : decode prog_12_method_58_code 189 = .ok (.istore 7, 2) := by decide +kernel
theorem xd_87_191 : decode prog_12_method_58_code 191 = .ok (.iload_n 3, 1) := by decide +kernel
theorem xd_87_192 : decode prog_12_method_58_code 192 = .ok (.ifCond .eq 43, 3) := by decide +kernel
theorem xd_87_195 : decode prog_12_method_58_code 195 = .ok (.iload 7, 2) := by decide +kernel
theorem xd_87_197 : decode prog_12_method_58_code 197 = .ok (.ifCond .eq 34, 3) := by decide +kernel
theorem xd_87_200 : decode prog_12_method_58_code 200 = .ok (.aload_n 0, 1) := by decide +kernel
theorem xd_87_201 : decode prog_12_method_58_code 201 = .ok (.getfield 56, 3) := by decide +kernel
theorem xd_87_204 : decode prog_12_method_58_code 204 = .ok (.bipush 20, 2) := by decide +kernel
theorem xd_87_206 : decode prog_12_method_58_code 206 = .ok (.iload 5, 2) := by decide +kernel
theorem xd_87_208 : decode prog_12_method_58_code 208 = .ok (.imul, 1) := by decide +kernel
theorem xd_87_209 : decode prog_12_method_58_code 209 = .ok (.aload_n 0, 1) := by decide +kernel
theorem xd_87_210 : decode prog_12_method_58_code 210 = .ok (.getfield 56, 3) := by decide +kernel
theorem xd_87_213 : decode prog_12_method_58_code 213 = .ok (.bipush 20, 2) := by decide +kernel
theorem xd_87_215 : decode prog_12_method_58_code 215 = .ok (.iload 6, 2) := by decide +kernel
theorem xd_87_217 : decode prog_12_method_58_code 217 = .ok (.imul, 1) := by decide +kernel
theorem xd_87_218 : decode prog_12_method_58_code 218 = .ok (.aload_n 0, 1) := by decide +kernel
theorem xd_87_219 : decode prog_12_method_58_code 219 = .ok (.getfield 53, 3) := by decide +kernel
theorem xd_87_222 : decode prog_12_method_58_code 222 = .ok (.iload 5, 2) := by decide +kernel
theorem xd_87_224 : decode prog_12_method_58_code 224 = .ok (.iaload, 1) := by decide +kernel
theorem xd_87_225 : decode prog_12_method_58_code 225 = .ok (.invokestatic 117, 3) := by decide +kernel
theorem xd_87_228 : decode prog_12_method_58_code 228 = .ok (.ifCond .eq 7, 3) := by decide +kernel
theorem xd_87_231 : decode prog_12_method_58_code 231 = .ok (.iconst 1, 1) := by decide +kernel
theorem xd_87_232 : decode prog_12_method_58_code 232 = .ok (.goto 4, 3) := by decide +kernel
theorem xd_87_235 : decode prog_12_method_58_code 235 = .ok (.iconst 0, 1) := by decide +kernel
theorem xd_87_236 : decode prog_12_method_58_code 236 = .ok (.istore_n 3, 1) := by decide +kernel
theorem xd_87_237 : decode prog_12_method_58_code 237 = .ok (.iinc 4 1, 3) := by decide +kernel
theorem xd_87_240 : decode prog_12_method_58_code 240 = .ok (.goto (-173), 3) := by decide +kernel
theorem xd_87_243 : decode prog_12_method_58_code 243 = .ok (.iload_n 3, 1) := by decide +kernel
theorem xd_87_244 : decode prog_12_method_58_code 244 = .ok (.ireturn, 1) := by decide +kernel
theorem xd_88_0 : decode prog_12_method_59_code 0 = .ok (.aload_n 0, 1) := by decide +kernel
theorem xd_88_1 : decode prog_12_method_59_code 1 = .ok (.iconst 0, 1) := by decide +kernel
theorem xd_88_2 : decode prog_12_method_59_code 2 = .ok (.putfield 69, 3) := by decide +kernel
theorem xd_88_5 : decode prog_12_method_59_code 5 = .ok (.aload_n 0, 1) := by decide +kernel
theorem xd_88_6 : decode prog_12_method_59_code 6 = .ok (.iload_n 1, 1) := by decide +kernel
theorem xd_88_7 : decode prog_12_method_59_code 7 = .ok (.ifCond .lt 12, 3) := by decide +kernel
theorem xd_88_10 : decode prog_12_method_59_code 10 = .ok (.iload_n 2, 1) := by decide +kernel
theorem xd_88_11 : decode prog_12_method_59_code 11 = .ok (.ifCond .lt 8, 3) := by decide +kernel
theorem xd_88_14 : decode prog_12_method_59_code 14 = .ok (.iload_n 2, 1) := by decide +kernel
theorem xd_88_15 : decode prog_12_method_59_code 15 = .ok (.iconst 1, 1) := by decide +kernel
theorem xd_88_16 : decode prog_12_method_59_code 16 = .ok (.if_icmp .le 7, 3) := by decide +kernel
theorem xd_88_19 : decode prog_12_method_59_code 19 = .ok (.iconst 1, 1) := by decide +kernel
theorem xd_88_20 : decode prog_12_method_59_code 20 = .ok (.goto 4, 3) := by decide +kernel
theorem xd_88_23 : decode prog_12_method_59_code 23 = .ok (.iconst 0, 1) := by decide +kernel
theorem xd_88_24 : decode prog_12_method_59_code 24 = .ok (.iconst 1, 1) := by decide +kernel
theorem xd_88_25 : decode prog_12_method_59_code 25 = .ok (.invokevirtual 75, 3) := by decide +kernel
theorem xd_88_28 : decode prog_12_method_59_code 28 = .ok (.ifCond .eq 5, 3) := by decide +kernel
theorem xd_88_31 : decode prog_12_method_59_code 31 = .ok (.iconst 0, 1) := by decide +kernel
theorem xd_88_32 : decode prog_12_method_59_code 32 = .ok (.ireturn, 1) := by decide +kernel
theorem xd_88_33 : decode prog_12_method_59_code 33 = .ok (.iload_n 1, 1) := by decide +kernel
theorem xd_88_34 : decode prog_12_method_59_code 34 = .ok (.istore_n 3, 1) := by decide +kernel
theorem xd_88_35 : decode prog_12_method_59_code 35 = .ok (.iconst 1, 1) := by decide +kernel
theorem xd_88_36 : decode prog_12_method_59_code 36 = .ok (.istore 4, 2) := by decide +kernel
theorem xd_88_38 : decode prog_12_method_59_code 38 = .ok (.iload 4, 2) := by decide +kernel
theorem xd_88_40 : decode prog_12_method_59_code 40 = .ok (.sipush 1000, 3) := by decide +kernel
theorem xd_88_43 : decode prog_12_method_59_code 43 = .ok (.if_icmp .ge 108, 3) := by decide +kernel
theorem xd_88_46 : decode prog_12_method_59_code 46 = .ok (.aload_n 0, 1) := by decide +kernel
theorem xd_88_47 : decode prog_12_method_59_code 47 = .ok (.iconst 0, 1) := by decide +kernel
theorem xd_88_48 : decode prog_12_method_59_code 48 = .ok (.iload 4, 2) := by decide +kernel
theorem xd_88_50 : decode prog_12_method_59_code 50 = .ok (.invokevirtual 143, 3) := by decide +kernel
theorem xd_88_53 : decode prog_12_method_59_code 53 = .ok (.istore 5, 2) := by decide +kernel
theorem xd_88_55 : decode prog_12_method_59_code 55 = .ok (.aload_n 0, 1) := by decide +kernel
theorem xd_88_56 : decode prog_12_method_59_code 56 = .ok (.iconst 2, 1) := by decide +kernel
theorem xd_88_57 : decode prog_12_method_59_code 57 = .ok (.iload 4, 2) := by decide +kernel
theorem xd_88_59 : decode prog_12_method_59_code 59 = .ok (.invokevirtual 143, 3) := by decide +kernel
theorem xd_88_62 : decode prog_12_method_59_code 62 = .ok (.istore 6, 2) := by decide +kernel
theorem xd_88_64 : decode prog_12_method_59_code 64 = .ok (.iload 5, 2) := by decide +kernel
theorem xd_88_66 : decode prog_12_method_59_code 66 = .ok (.iconst (-1), 1) := by decide +kernel
theorem xd_88_67 : decode prog_12_method_59_code 67 = .ok (.if_icmp .ne 13, 3) := by decide +kernel
theorem xd_88_70 : decode prog_12_method_59_code 70 = .ok (.iload 6, 2) := by decide +kernel
theorem xd_88_72 : decode prog_12_method_59_code 72 = .ok (.iconst (-1), 1) := by decide +kernel
theorem xd_88_73 : decode prog_12_method_59_code 73 = .ok (.if_icmp .ne 7, 3) := by decide +kernel
theorem xd_88_76 : decode prog_12_method_59_code 76 = .ok (.iconst 0, 1) := by decide +kernel
theorem xd_88_77 : decode prog_12_method_59_code 77 = .ok (.goto 39, 3) := by decide +kernel
theorem xd_88_80 : decode prog_12_method_59_code 80 = .ok (.iload 5, 2) := by decide +kernel
theorem xd_88_82 : decode prog_12_method_59_code 82 = .ok (.iconst (-1), 1) := by decide +kernel
theorem xd_88_83 : decode prog_12_method_59_code 83 = .ok (.if_icmp .ne 7, 3) := by decide +kernel
theorem xd_88_86 : decode prog_12_method_59_code 86 = .ok (.iconst 1, 1) := by decide +kernel
theorem xd_88_87 : decode prog_12_method_59_code 87 = .ok (.goto 29, 3) := by decide +kernel
theorem xd_88_90 : decode prog_12_method_59_code 90 = .ok (.iload 6, 2) := by decide +kernel
theorem xd_88_92 : decode prog_12_method_59_code 92 = .ok (.iconst (-1), 1) := by decide +kernel
theorem xd_88_93 : decode prog_12_method_59_code 93 = .ok (.if_icmp .ne 7, 3) := by decide +kernel
theorem xd_88_96 : decode prog_12_method_59_code 96 = .ok (.iconst 2, 1) := by decide +kernel
theorem xd_88_97 : decode prog_12_method_59_code 97 = .ok (.goto 19, 3) := by decide +kernel
theorem xd_88_100 : decode prog_12_method_59_code 100 = .ok (.aload_n 0, 1) := by decide +kernel
theorem xd_88_101 : decode prog_12_method_59_code 101 = .ok (.iload 5, 2) := by decide +kernel
theorem xd_88_103 : decode prog_12_method_59_code 103 = .ok (.iload 6, 2) := by decide +kernel
theorem xd_88_105 : decode prog_12_method_59_code 105 = .ok (.invokevirtual 215, 3) := by decide +kernel
theorem xd_88_108 : decode prog_12_method_59_code 108 = .ok (.ifCond .eq 7, 3) := by decide +kernel
theorem xd_88_111 : decode prog_12_method_59_code 111 = .ok (.iconst 0, 1) := by decide +kernel
theorem xd_88_112 : decode prog_12_method_59_code 112 = .ok (.goto 4, 3) := by decide +kernel
theorem xd_88_115 : decode prog_12_method_59_code 115 = .ok (.iconst 3, 1) := by decide +kernel
theorem xd_88_116 : decode prog_12_method_59_code 116 = .ok (.istore 7, 2) := by decide +kernel
theorem xd_88_118 : decode prog_12_method_59_code 118 = .ok (.iload 7, 2) := by decide +kernel
theorem xd_88_120 : decode prog_12_method_59_code 120 = .ok (.ifCond .ne 6, 3) := by decide +kernel
theorem xd_88_123 : decode prog_12_method_59_code 123 = .ok (.goto 22, 3) := by decide +kernel
theorem xd_88_126 : decode prog_12_method_59_code 126 = .ok (.iload_n 3, 1) := by decide +kernel
theorem xd_88_127 : decode prog_12_method_59_code 127 = .ok (.ifCond .ne 15, 3) := by decide +kernel
theorem xd_88_130 : decode prog_12_method_59_code 130 = .ok (.iload_n 2, 1) := by decide +kernel
theorem xd_88_131 : decode prog_12_method_59_code 131 = .ok (.ifCond .ne 8, 3) := by decide +kernel
theorem xd_88_134 : decode prog_12_method_59_code 134 = .ok (.iload 4, 2) := by decide +kernel
theorem xd_88_136 : decode prog_12_method_59_code 136 = .ok (.goto 5, 3) := by decide +kernel
theorem xd_88_139 : decode prog_12_method_59_code 139 = .ok (.iload 7, 2) := by decide +kernel
theorem xd_88_141 : decode prog_12_method_59_code 141 = .ok (.ireturn, 1) := by decide +kernel
theorem xd_88_142 : decode prog_12_method_59_code 142 = .ok (.iinc 3 (-1), 3) := by decide +kernel
theorem xd_88_145 : decode prog_12_method_59_code 145 = .ok (.iinc 4 1, 3) := by decide +kernel
theorem xd_88_148 : decode prog_12_method_59_code 148 = .ok (.goto (-110), 3) := by decide +kernel
theorem xd_88_151 : decode prog_12_method_59_code 151 = .ok (.iconst (-1), 1) := by decide +kernel
theorem xd_88_152 : decode prog_12_method_59_code 152 = .ok (.ireturn, 1) := by decide +kernel
theorem xd_89_0 : decode prog_12_method_60_code 0 = .ok (.aload_n 0, 1) := by decide +kernel
theorem xd_89_1 : decode prog_12_method_60_code 1 = .ok (.iconst 0, 1) := by decide +kernel
theorem xd_89_2 : decode prog_12_method_60_code 2 = .ok (.putfield 69, 3) := by decide +kernel
theorem xd_89_5 : decode prog_12_method_60_code 5 = .ok (.aload_n 0, 1) := by decide +kernel
theorem xd_89_6 : decode prog_12_method_60_code 6 = .ok (.iload_n 1, 1) := by decide +kernel
theorem xd_89_7 : decode prog_12_method_60_code 7 = .ok (.ifCond .lt 8, 3) := by decide +kernel
theorem xd_89_10 : decode prog_12_method_60_code 10 = .ok (.iload_n 1, 1) := by decide +kernel
theorem xd_89_11 : decode prog_12_method_60_code 11 = .ok (.iconst 3, 1) := by decide +kernel
theorem xd_89_12 : decode prog_12_method_60_code 12 = .ok (.if_icmp .le 7, 3) := by decide +kernel
theorem xd_89_15 : decode prog_12_method_60_code 15 = .ok (.iconst 1, 1) := by decide +kernel
theorem xd_89_16 : decode prog_12_method_60_code 16 = .ok (.goto 4, 3) := by decide +kernel
theorem xd_89_19 : decode prog_12_method_60_code 19 = .ok (.iconst 0, 1) := by decide +kernel
theorem xd_89_20 : decode prog_12_method_60_code 20 = .ok (.iconst 1, 1) := by decide +kernel
theorem xd_89_21 : decode prog_12_method_60_code 21 = .ok (.invokevirtual 75, 3) := by decide +kernel
theorem xd_89_24 : decode prog_12_method_60_code 24 = .ok (.ifCond .eq 5, 3) := by decide +kernel
theorem xd_89_27 : decode prog_12_method_60_code 27 = .ok (.iconst 0, 1) := by decide +kernel
theorem xd_89_28 : decode prog_12_method_60_code 28 = .ok (.ireturn, 1) := by decide +kernel
theorem xd_89_29 : decode prog_12_method_60_code 29 = .ok (.iload_n 1, 1) := by decide +kernel
theorem xd_89_30 : decode prog_12_method_60_code 30 = .ok (.ifCond .ne 10, 3) := by decide +kernel
theorem xd_89_33 : decode prog_12_method_60_code 33 = .ok (.aload_n 0, 1) := by decide +kernel
theorem xd_89_34 : decode prog_12_method_60_code 34 = .ok (.getfield 79, 3) := by decide +kernel
theorem xd_89_37 : decode prog_12_method_60_code 37 = .ok (.goto 37, 3) := by decide +kernel
theorem xd_89_40 : decode prog_12_method_60_code 40 = .ok (.iload_n 1, 1) := by decide +kernel
theorem xd_89_41 : decode prog_12_method_60_code 41 = .ok (.iconst 1, 1) := by decide +kernel
theorem xd_89_42 : decode prog_12_method_60_code 42 = .ok (.if_icmp .ne 12, 3) := by decide +kernel
theorem xd_89_45 : decode prog_12_method_60_code 45 = .ok (.aload_n 0, 1) := by decide +kernel
theorem xd_89_46 : decode prog_12_method_60_code 46 = .ok (.getfield 16, 3) := by decide +kernel
theorem xd_89_49 : decode prog_12_method_60_code 49 = .ok (.iconst 0, 1) := by decide +kernel
theorem xd_89_50 : decode prog_12_method_60_code 50 = .ok (.iaload, 1) := by decide +kernel
theorem xd_89_51 : decode prog_12_method_60_code 51 = .ok (.goto 23, 3) := by decide +kernel
theorem xd_89_54 : decode prog_12_method_60_code 54 = .ok (.iload_n 1, 1) := by decide +kernel
theorem xd_89_55 : decode prog_12_method_60_code 55 = .ok (.iconst 2, 1) := by decide +kernel
theorem xd_89_56 : decode prog_12_method_60_code 56 = .ok (.if_icmp .ne 12, 3) := by decide +kernel
theorem xd_89_59 : decode prog_12_method_60_code 59 = .ok (.aload_n 0, 1) := by decide +kernel
theorem xd_89_60 : decode prog_12_method_60_code 60 = .ok (.getfield 35, 3) := by decide +kernel
theorem xd_89_63 : decode prog_12_method_60_code 63 = .ok (.iconst 0, 1) := by decide +kernel
theorem xd_89_64 : decode prog_12_method_60_code 64 = .ok (.iaload, 1) := by decide +kernel
theorem xd_89_65 : decode prog_12_method_60_code 65 = .ok (.goto 9, 3) := by decide +kernel
theorem xd_89_68 : decode prog_12_method_60_code 68 = .ok (.aload_n 0, 1) := by decide +kernel
theorem xd_89_69 : decode prog_12_method_60_code 69 = .ok (.getfield 35, 3) := by decide +kernel
theorem xd_89_72 : decode prog_12_method_60_code 72 = .ok (.iconst 2, 1) := by decide +kernel
theorem xd_89_73 : decode prog_12_method_60_code 73 = .ok (.iaload, 1) := by decide +kernel
theorem xd_89_74 : decode prog_12_method_60_code 74 = .ok (.ireturn, 1) := by decide +kernel
theorem xd_90_0 : decode prog_2_method_1_code 0 = .ok (.aload_n 0, 1) := by decide +kernel
theorem xd_90_1 : decode prog_2_method_1_code 1 = .ok (.invokespecial 3, 3) := by decide +kernel
theorem xd_90_4 : decode prog_2_method_1_code 4 = .ok (.aload_n 0, 1) := by decide +kernel
theorem xd_90_5 : decode prog_2_method_1_code 5 = .ok (.bipush 40, 2) := by decide +kernel
theorem xd_90_7 : decode prog_2_method_1_code 7 = .ok (.newarray .long, 2) := by decide +kernel
theorem xd_90_9 : decode prog_2_method_1_code 9 = .ok (.putfield 9, 3) := by decide +kernel
theorem xd_90_12 : decode prog_2_method_1_code 12 = .ok (.aload_n 0, 1) := by decide +kernel
theorem xd_90_13 : decode prog_2_method_1_code 13 = .ok (.bipush 40, 2) := by decide +kernel
theorem xd_90_15 : decode prog_2_method_1_code 15 = .ok (.newarray .long, 2) := by decide +kernel
theorem xd_90_17 : decode prog_2_method_1_code 17 = .ok (.putfield 15, 3) := by decide +kernel
theorem xd_90_20 : decode prog_2_method_1_code 20 = .ok (.aload_n 0, 1) := by decide +kernel
theorem xd_90_21 : decode prog_2_method_1_code 21 = .ok (.bipush 40, 2) := by decide +kernel
theorem xd_90_23 : decode prog_2_method_1_code 23 = .ok (.newarray .int, 2) := by decide +kernel
theorem xd_90_25 : decode prog_2_method_1_code 25 = .ok (.putfield 18, 3) := by decide +kernel
theorem xd_90_28 : decode prog_2_method_1_code 28 = .ok (.aload_n 0, 1) := by decide +kernel
theorem xd_90_29 : decode prog_2_method_1_code 29 = .ok (.new 22, 3) := by decide +kernel
theorem xd_90_32 : decode prog_2_method_1_code 32 = .ok (.dup, 1) := by decide +kernel
theorem xd_90_33 : decode prog_2_method_1_code 33 = .ok (.sipush 1000, 3) := by decide +kernel
theorem xd_90_36 : decode prog_2_method_1_code 36 = .ok (.invokespecial 24, 3) := by decide +kernel
theorem xd_90_39 : decode prog_2_method_1_code 39 = .ok (.putfield 27, 3) := by decide +kernel
theorem xd_90_42 : decode prog_2_method_1_code 42 = .ok (.aload_n 0, 1) := by decide +kernel
theorem xd_90_43 : decode prog_2_method_1_code 43 = .ok (.aload_n 1, 1) := by decide +kernel
theorem xd_90_44 : decode prog_2_method_1_code 44 = .ok (.putfield 31, 3) := by decide +kernel
theorem xd_90_47 : decode prog_2_method_1_code 47 = .ok (.return_, 1) := by decide +kernel
theorem xd_91_0 : decode prog_2_method_2_code 0 = .ok (.aload_n 0, 1) := by decide +kernel
theorem xd_91_1 : decode prog_2_method_2_code 1 = .ok (.iconst 0, 1) := by decide +kernel
theorem xd_91_2 : decode prog_2_method_2_code 2 = .ok (.putfield 35, 3) := by decide +kernel
theorem xd_91_5 : decode prog_2_method_2_code 5 = .ok (.iconst 0, 1) := by decide +kernel
theorem xd_91_6 : decode prog_2_method_2_code 6 = .ok (.istore_n 1, 1) := by decide +kernel
theorem xd_91_7 : decode prog_2_method_2_code 7 = .ok (.iload_n 1, 1) := by decide +kernel
theorem xd_91_8 : decode prog_2_method_2_code 8 = .ok (.aload_n 0, 1) := by decide +kernel
theorem xd_91_9 : decode prog_2_method_2_code 9 = .ok (.getfield 31, 3) := by decide +kernel
theorem xd_91_12 : decode prog_2_method_2_code 12 = .ok (.getfield 39, 3) := by decide +kernel
theorem xd_91_15 : decode prog_2_method_2_code 15 = .ok (.if_icmp .ge 48, 3) := by decide +kernel
theorem xd_91_18 : decode prog_2_method_2_code 18 = .ok (.aload_n 0, 1) := by decide +kernel
theorem xd_91_19 : decode prog_2_method_2_code 19 = .ok (.getfield 31, 3) := by decide +kernel
theorem xd_91_22 : decode prog_2_method_2_code 22 = .ok (.iload_n 1, 1) := by decide +kernel
theorem xd_91_23 : decode prog_2_method_2_code 23 = .ok (.invokevirtual 45, 3) := by decide +kernel
theorem xd_91_26 : decode prog_2_method_2_code 26 = .ok (.istore_n 2, 1) := by decide +kernel
theorem xd_91_27 : decode prog_2_method_2_code 27 = .ok (.aload_n 0, 1) := by decide +kernel
theorem xd_91_28 : decode prog_2_method_2_code 28 = .ok (.getfield 9, 3) := by decide +kernel
theorem xd_91_31 : decode prog_2_method_2_code 31 = .ok (.iload_n 2, 1) := by decide +kernel
theorem xd_91_32 : decode prog_2_method_2_code 32 = .ok (.aload_n 0, 1) := by decide +kernel
theorem xd_91_33 : decode prog_2_method_2_code 33 = .ok (.iload_n 2, 1) := by decide +kernel
theorem xd_91_34 : decode prog_2_method_2_code 34 = .ok (.invokevirtual 49, 3) := by decide +kernel
theorem xd_91_37 : decode prog_2_method_2_code 37 = .ok (.lastore, 1) := by decide +kernel
theorem xd_91_38 : decode prog_2_method_2_code 38 = .ok (.aload_n 0, 1) := by decide +kernel
theorem xd_91_39 : decode prog_2_method_2_code 39 = .ok (.getfield 15, 3) := by decide +kernel
theorem xd_91_42 : decode prog_2_method_2_code 42 = .ok (.iload_n 2, 1) := by decide +kernel
theorem xd_91_43 : decode prog_2_method_2_code 43 = .ok (.aload_n 0, 1) := by decide +kernel
theorem xd_91_44 : decode prog_2_method_2_code 44 = .ok (.getfield 9, 3) := by decide +kernel
theorem xd_91_47 : decode prog_2_method_2_code 47 = .ok (.iload_n 2, 1) := by decide +kernel
theorem xd_91_48 : decode prog_2_method_2_code 48 = .ok (.laload, 1) := by decide +kernel
theorem xd_91_49 : decode prog_2_method_2_code 49 = .ok (.lastore, 1) := by decide +kernel
theorem xd_91_50 : decode prog_2_method_2_code 50 = .ok (.aload_n 0, 1) := by decide +kernel
theorem xd_91_51 : decode prog_2_method_2_code 51 = .ok (.getfield 18, 3) := by decide +kernel
theorem xd_91_54 : decode prog_2_method_2_code 54 = .ok (.iload_n 2, 1) := by decide +kernel
theorem xd_91_55 : decode prog_2_method_2_code 55 = .ok (.iconst (-1), 1) := by decide +kernel
theorem xd_91_56 : decode prog_2_method_2_code 56 = .ok (.iastore, 1) := by decide +kernel
theorem xd_91_57 : decode prog_2_method_2_code 57 = .ok (.iinc 1 1, 3) := by decide +kernel
theorem xd_91_60 : decode prog_2_method_2_code 60 = .ok (.goto (-53), 3) := by decide +kernel
theorem xd_91_63 : decode prog_2_method_2_code 63 = .ok (.aload_n 0, 1) := by decide +kernel
theorem xd_91_64 : decode prog_2_method_2_code 64 = .ok (.invokevirtual 53, 3) := by decide +kernel
theorem xd_91_67 : decode prog_2_method_2_code 67 = .ok (.aload_n 0, 1) := by decide +kernel
theorem xd_91_68 : decode prog_2_method_2_code 68 = .ok (.invokevirtual 56, 3) := by decide +kernel
theorem xd_91_71 : decode prog_2_method_2_code 71 = .ok (.return_, 1) := by decide +kernel
theorem xd_92_0 : decode prog_2_method_3_code 0 = .ok (.aload_n 0, 1) := by decide +kernel
theorem xd_92_1 : decode prog_2_method_3_code 1 = .ok (.iconst 0, 1) := by decide +kernel
theorem xd_92_2 : decode prog_2_method_3_code 2 = .ok (.putfield 35, 3) := by decide +kernel
theorem xd_92_5 : decode prog_2_method_3_code 5 = .ok (.return_, 1) := by decide +kernel
theorem xd_93_0 : decode prog_2_method_4_code 0 = .ok (.aload_n 0, 1) := by decide +kernel
theorem xd_93_1 : decode prog_2_method_4_code 1 = .ok (.getfield 9, 3) := by decide +kernel
theorem xd_93_4 : decode prog_2_method_4_code 4 = .ok (.iload_n 1, 1) := by decide +kernel
theorem xd_93_5 : decode prog_2_method_4_code 5 = .ok (.laload, 1) := by decide +kernel
theorem xd_93_6 : decode prog_2_method_4_code 6 = .ok (.iload_n 2, 1) := by decide +kernel
theorem xd_93_7 : decode prog_2_method_4_code 7 = .ok (.lushr, 1) := by decide +kernel
theorem xd_93_8 : decode prog_2_method_4_code 8 = .ok (.lconst 1, 1) := by decide +kernel
theorem xd_93_9 : decode prog_2_method_4_code 9 = .ok (.land, 1) := by decide +kernel
theorem xd_93_10 : decode prog_2_method_4_code 10 = .ok (.lconst 0, 1) := by decide +kernel
theorem xd_93_11 : decode prog_2_method_4_code 11 = .ok (.lcmp, 1) := by decide +kernel
theorem xd_93_12 : decode prog_2_method_4_code 12 = .ok (.ifCond .eq 7, 3) := by decide +kernel
theorem xd_93_15 : decode prog_2_method_4_code 15 = .ok (.iconst 1, 1) := by decide +kernel
theorem xd_93_16 : decode prog_2_method_4_code 16 = .ok (.goto 4, 3) := by decide +kernel
theorem xd_93_19 : decode prog_2_method_4_code 19 = .ok (.iconst 0, 1) := by decide +kernel
theorem xd_93_20 : decode prog_2_method_4_code 20 = .ok (.ireturn, 1) := by decide +kernel
theorem xd_94_0 : decode prog_2_method_5_code 0 = .ok (.aload_n 0, 1) := by decide +kernel
theorem xd_94_1 : decode prog_2_method_5_code 1 = .ok (.getfield 15, 3) := by decide +kernel
theorem xd_94_4 : decode prog_2_method_5_code 4 = .ok (.iload_n 1, 1) := by decide +kernel
theorem xd_94_5 : decode prog_2_method_5_code 5 = .ok (.laload, 1) := by decide +kernel
theorem xd_94_6 : decode prog_2_method_5_code 6 = .ok (.iload_n 1, 1) := by decide +kernel
theorem xd_94_7 : decode prog_2_method_5_code 7 = .ok (.lushr, 1) := by decide +kernel
theorem xd_94_8 : decode prog_2_method_5_code 8 = .ok (.lconst 1, 1) := by decide +kernel
theorem xd_94_9 : decode prog_2_method_5_code 9 = .ok (.land, 1) := by decide +kernel
theorem xd_94_10 : decode prog_2_method_5_code 10 = .ok (.lconst 0, 1) := by decide +kernel
theorem xd_94_11 : decode prog_2_method_5_code 11 = .ok (.lcmp, 1) := by decide +kernel
theorem xd_94_12 : decode prog_2_method_5_code 12 = .ok (.ifCond .eq 7, 3) := by decide +kernel
theorem xd_94_15 : decode prog_2_method_5_code 15 = .ok (.iconst 1, 1) := by decide +kernel
theorem xd_94_16 : decode prog_2_method_5_code 16 = .ok (.goto 4, 3) := by decide +kernel
theorem xd_94_19 : decode prog_2_method_5_code 19 = .ok (.iconst 0, 1) := by decide +kernel
theorem xd_94_20 : decode prog_2_method_5_code 20 = .ok (.ireturn, 1) := by decide +kernel
theorem xd_95_0 : decode prog_2_method_6_code 0 = .ok (.lconst 0, 1) := by decide +kernel
theorem xd_95_1 : decode prog_2_method_6_code 1 = .ok (.lstore_n 2, 1) := by decide +kernel
theorem xd_95_2 : decode prog_2_method_6_code 2 = .ok (.iconst 0, 1) := by decide +kernel
theorem xd_95_3 : decode prog_2_method_6_code 3 = .ok (.istore 4, 2) := by decide +kernel
theorem xd_95_5 : decode prog_2_method_6_code 5 = .ok (.iload 4, 2) := by decide +kernel
theorem xd_95_7 : decode prog_2_method_6_code 7 = .ok (.aload_n 0, 1) := by decide +kernel
theorem xd_95_8 : decode prog_2_method_6_code 8 = .ok (.getfield 31, 3) := by decide +kernel
theorem xd_95_11 : decode prog_2_method_6_code 11 = .ok (.getfield 59, 3) := by decide +kernel
theorem xd_95_14 : decode prog_2_method_6_code 14 = .ok (.iload_n 1, 1) := by decide +kernel
theorem xd_95_15 : decode prog_2_method_6_code 15 = .ok (.iaload, 1) := by decide +kernel
theorem xd_95_16 : decode prog_2_method_6_code 16 = .ok (.if_icmp .ge 108, 3) := by decide +kernel
theorem xd_95_19 : decode prog_2_method_6_code 19 = .ok (.iload_n 1, 1) := by decide +kernel
theorem xd_95_20 : decode prog_2_method_6_code 20 = .ok (.bipush 8, 2) := by decide +kernel
theorem xd_95_22 : decode prog_2_method_6_code 22 = .ok (.imul, 1) := by decide +kernel
theorem xd_95_23 : decode prog_2_method_6_code 23 = .ok (.iload 4, 2) := by decide +kernel
theorem xd_95_25 : decode prog_2_method_6_code 25 = .ok (.iadd, 1) := by decide +kernel
theorem xd_95_26 : decode prog_2_method_6_code 26 = .ok (.istore 5, 2) := by decide +kernel
theorem xd_95_28 : decode prog_2_method_6_code 28 = .ok (.aload_n 0, 1) := by decide +kernel
theorem xd_95_29 : decode prog_2_method_6_code 29 = .ok (.getfield 31, 3) := by decide +kernel
theorem xd_95_32 : decode prog_2_method_6_code 32 = .ok (.getfield 62, 3) := by decide +kernel
theorem xd_95_35 : decode prog_2_method_6_code 35 = .ok (.iload 5, 2) := by decide +kernel
theorem xd_95_37 : decode prog_2_method_6_code 37 = .ok (.iaload, 1) := by decide +kernel
theorem xd_95_38 : decode prog_2_method_6_code 38 = .ok (.iconst 2, 1) := by decide +kernel
theorem xd_95_39 : decode prog_2_method_6_code 39 = .ok (.if_icmp .ne 23, 3) := by decide +kernel
theorem xd_95_42 : decode prog_2_method_6_code 42 = .ok (.lload_n 2, 1) := by decide +kernel
theorem xd_95_43 : decode prog_2_method_6_code 43 = .ok (.aload_n 0, 1) := by decide +kernel
theorem xd_95_44 : decode prog_2_method_6_code 44 = .ok (.aload_n 0, 1) := by decide +kernel
theorem xd_95_45 : decode prog_2_method_6_code 45 = .ok (.getfield 31, 3) := by decide +kernel
theorem xd_95_48 : decode prog_2_method_6_code 48 = .ok (.getfield 65, 3) := by decide +kernel
theorem xd_95_51 : decode prog_2_method_6_code 51 = .ok (.iload 5, 2) := by decide +kernel
theorem xd_95_53 : decode prog_2_method_6_code 53 = .ok (.iaload, 1) := by decide +kernel
theorem xd_95_54 : decode prog_2_method_6_code 54 = .ok (.invokevirtual 68, 3) := by decide +kernel
theorem xd_95_57 : decode prog_2_method_6_code 57 = .ok (.lor, 1) := by decide +kernel
theorem xd_95_58 : decode prog_2_method_6_code 58 = .ok (.lstore_n 2, 1) := by decide +kernel
theorem xd_95_59 : decode prog_2_method_6_code 59 = .ok (.goto 59, 3) := by decide +kernel
theorem xd_95_62 : decode prog_2_method_6_code 62 = .ok (.aload_n 0, 1) := by decide +kernel
theorem xd_95_63 : decode prog_2_method_6_code 63 = .ok (.getfield 31, 3) := by decide +kernel
theorem xd_95_66 : decode prog_2_method_6_code 66 = .ok (.getfield 62, 3) := by decide +kernel
theorem xd_95_69 : decode prog_2_method_6_code 69 = .ok (.iload 5, 2) := by decide +kernel
theorem xd_95_71 : decode prog_2_method_6_code 71 = .ok (.iaload, 1) := by decide +kernel
theorem xd_95_72 : decode prog_2_method_6_code 72 = .ok (.iconst 4, 1) := by decide +kernel
theorem xd_95_73 : decode prog_2_method_6_code 73 = .ok (.if_icmp .ne 45, 3) := by decide +kernel
theorem xd_95_76 : decode prog_2_method_6_code 76 = .ok (.iconst 0, 1) := by decide +kernel
theorem xd_95_77 : decode prog_2_method_6_code 77 = .ok (.istore 6, 2) := by decide +kernel
theorem xd_95_79 : decode prog_2_method_6_code 79 = .ok (.iload 6, 2) := by decide +kernel
theorem xd_95_81 : decode prog_2_method_6_code 81 = .ok (.aload_n 0, 1) := by decide +kernel
theorem xd_95_82 : decode prog_2_method_6_code 82 = .ok (.getfield 31, 3) := by decide +kernel
theorem xd_95_85 : decode prog_2_method_6_code 85 = .ok (.getfield 65, 3) := by decide +kernel
theorem xd_95_88 : decode prog_2_method_6_code 88 = .ok (.iload 5, 2) := by decide +kernel
theorem xd_95_90 : decode prog_2_method_6_code 90 = .ok (.iaload, 1) := by decide +kernel
theorem xd_95_91 : decode prog_2_method_6_code 91 = .ok (.if_icmp .ge 27, 3) := by decide +kernel
theorem xd_95_94 : decode prog_2_method_6_code 94 = .ok (.lload_n 2, 1) := by decide +kernel
theorem xd_95_95 : decode prog_2_method_6_code 95 = .ok (.aload_n 0, 1) := by decide +kernel
theorem xd_95_96 : decode prog_2_method_6_code 96 = .ok (.aload_n 0, 1) := by decide +kernel
theorem xd_95_97 : decode prog_2_method_6_code 97 = .ok (.getfield 31, 3) := by decide +kernel
theorem xd_95_100 : decode prog_2_method_6_code 100 = .ok (.iload 5, 2) := by decide +kernel
theorem xd_95_102 : decode prog_2_method_6_code 102 = .ok (.iload 6, 2) := by decide +kernel
theorem xd_95_104 : decode prog_2_method_6_code 104 = .ok (.invokevirtual 71, 3) := by decide +kernel
theorem xd_95_107 : decode prog_2_method_6_code 107 = .ok (.invokevirtual 68, 3) := by decide +kernel
theorem xd_95_110 : decode prog_2_method_6_code 110 = .ok (.lor, 1) := by decide +kernel
theorem xd_95_111 : decode prog_2_method_6_code 111 = .ok (.lstore_n 2, 1) := by decide +kernel
theorem xd_95_112 : decode prog_2_method_6_code 112 = .ok (.iinc 6 1, 3) := by decide +kernel
theorem xd_95_115 : decode prog_2_method_6_code 115 = .ok (.goto (-36), 3) := by decide +kernel
theorem xd_95_118 : decode prog_2_method_6_code 118 = .ok (.iinc 4 1, 3) := by decide +kernel
theorem xd_95_121 : decode prog_2_method_6_code 121 = .ok (.goto (-116), 3) := by decide +kernel
theorem xd_95_124 : decode prog_2_method_6_code 124 = .ok (.lload_n 2, 1) := by decide +kernel
theorem xd_95_125 : decode prog_2_method_6_code 125 = .ok (.lreturn, 1) := by decide +kernel
theorem xd_96_0 : decode prog_2_method_7_code 0 = .ok (.aload_n 0, 1) := by decide +kernel
theorem xd_96_1 : decode prog_2_method_7_code 1 = .ok (.getfield 31, 3) := by decide +kernel
theorem xd_96_4 : decode prog_2_method_7_code 4 = .ok (.iload_n 1, 1) := by decide +kernel
theorem xd_96_5 : decode prog_2_method_7_code 5 = .ok (.invokevirtual 75, 3) := by decide +kernel
theorem xd_96_8 : decode prog_2_method_7_code 8 = .ok (.istore_n 2, 1) := by decide +kernel
theorem xd_96_9 : decode prog_2_method_7_code 9 = .ok (.iload_n 2, 1) := by decide +kernel
theorem xd_96_10 : decode prog_2_method_7_code 10 = .ok (.iconst (-1), 1) := by decide +kernel
theorem xd_96_11 : decode prog_2_method_7_code 11 = .ok (.if_icmp .ne 7, 3) := by decide +kernel
theorem xd_96_14 : decode prog_2_method_7_code 14 = .ok (.lconst 0, 1) := by decide +kernel
theorem xd_96_15 : decode prog_2_method_7_code 15 = .ok (.goto 6, 3) := by decide +kernel
theorem xd_96_18 : decode prog_2_method_7_code 18 = .ok (.lconst 1, 1) := by decide +kernel
theorem xd_96_19 : decode prog_2_method_7_code 19 = .ok (.iload_n 2, 1) := by decide +kernel
theorem xd_96_20 : decode prog_2_method_7_code 20 = .ok (.lshl, 1) := by decide +kernel
theorem xd_96_21 : decode prog_2_method_7_code 21 = .ok (.lreturn, 1) := by decide +kernel
theorem xd_97_0 : decode prog_2_method_8_code 0 = .ok (.iconst 0, 1) := by decide +kernel
theorem xd_97_1 : decode prog_2_method_8_code 1 = .ok (.istore_n 1, 1) := by decide +kernel
theorem xd_97_2 : decode prog_2_method_8_code 2 = .ok (.iload_n 1, 1) := by decide +kernel
theorem xd_97_3 : decode prog_2_method_8_code 3 = .ok (.aload_n 0, 1) := by decide +kernel
theorem xd_97_4 : decode prog_2_method_8_code 4 = .ok (.getfield 31, 3) := by decide +kernel
theorem xd_97_7 : decode prog_2_method_8_code 7 = .ok (.getfield 39, 3) := by decide +kernel
theorem xd_97_10 : decode prog_2_method_8_code 10 = .ok (.if_icmp .ge 79, 3) := by decide +kernel
theorem xd_97_13 : decode prog_2_method_8_code 13 = .ok (.aload_n 0, 1) := by decide +kernel
theorem xd_97_14 : decode prog_2_method_8_code 14 = .ok (.getfield 31, 3) := by decide +kernel
theorem xd_97_17 : decode prog_2_method_8_code 17 = .ok (.iload_n 1, 1) := by decide +kernel
theorem xd_97_18 : decode prog_2_method_8_code 18 = .ok (.invokevirtual 45, 3) := by decide +kernel
theorem xd_97_21 : decode prog_2_method_8_code 21 = .ok (.istore_n 2, 1) := by decide +kernel
theorem xd_97_22 : decode prog_2_method_8_code 22 = .ok (.iconst 0, 1) := by decide +kernel
theorem xd_97_23 : decode prog_2_method_8_code 23 = .ok (.istore_n 3, 1) := by decide +kernel
theorem xd_97_24 : decode prog_2_method_8_code 24 = .ok (.iload_n 3, 1) := by decide +kernel
theorem xd_97_25 : decode prog_2_method_8_code 25 = .ok (.aload_n 0, 1) := by decide +kernel
theorem xd_97_26 : decode prog_2_method_8_code 26 = .ok (.getfield 31, 3) := by decide +kernel
theorem xd_97_29 : decode prog_2_method_8_code 29 = .ok (.getfield 39, 3) := by decide +kernel
theorem xd_97_32 : decode prog_2_method_8_code 32 = .ok (.if_icmp .ge 51, 3) := by decide +kernel
theorem xd_97_35 : decode prog_2_method_8_code 35 = .ok (.aload_n 0, 1) := by decide +kernel
theorem xd_97_36 : decode prog_2_method_8_code 36 = .ok (.getfield 31, 3) := by decide +kernel
theorem xd_97_39 : decode prog_2_method_8_code 39 = .ok (.iload_n 3, 1) := by decide +kernel
theorem xd_97_40 : decode prog_2_method_8_code 40 = .ok (.invokevirtual 45, 3) := by decide +kernel
theorem xd_97_43 : decode prog_2_method_8_code 43 = .ok (.istore 4, 2) := by decide +kernel
theorem xd_97_45 : decode prog_2_method_8_code 45 = .ok (.aload_n 0, 1) := by decide +kernel
theorem xd_97_46 : decode prog_2_method_8_code 46 = .ok (.getfield 15, 3) := by decide +kernel
theorem xd_97_49 : decode prog_2_method_8_code 49 = .ok (.iload 4, 2) := by decide +kernel
theorem xd_97_51 : decode prog_2_method_8_code 51 = .ok (.laload, 1) := by decide +kernel
theorem xd_97_52 : decode prog_2_method_8_code 52 = .ok (.iload_n 2, 1) := by decide +kernel
theorem xd_97_53 : decode prog_2_method_8_code 53 = .ok (.lushr, 1) := by decide +kernel
theorem xd_97_54 : decode prog_2_method_8_code 54 = .ok (.lconst 1, 1) := by decide +kernel
theorem xd_97_55 : decode prog_2_method_8_code 55 = .ok (.land, 1) := by decide +kernel
theorem xd_97_56 : decode prog_2_method_8_code 56 = .ok (.lconst 0, 1) := by decide +kernel
theorem xd_97_57 : decode prog_2_method_8_code 57 = .ok (.lcmp, 1) := by decide +kernel
theorem xd_97_58 : decode prog_2_method_8_code 58 = .ok (.ifCond .eq 19, 3) := by decide +kernel
theorem xd_97_61 : decode prog_2_method_8_code 61 = .ok (.aload_n 0, 1) := by decide +kernel
theorem xd_97_62 : decode prog_2_method_8_code 62 = .ok (.getfield 15, 3) := by decide +kernel
theorem xd_97_65 : decode prog_2_method_8_code 65 = .ok (.iload 4, 2) := by decide +kernel
theorem xd_97_67 : decode prog_2_method_8_code 67 = .ok (.dup2, 1) := by decide +kernel
theorem xd_97_68 : decode prog_2_method_8_code 68 = .ok (.laload, 1) := by decide +kernel
theorem xd_97_69 : decode prog_2_method_8_code 69 = .ok (.aload_n 0, 1) := by decide +kernel
theorem xd_97_70 : decode prog_2_method_8_code 70 = .ok (.getfield 15, 3) := by decide +kernel
theorem xd_97_73 : decode prog_2_method_8_code 73 = .ok (.iload_n 2, 1) := by decide +kernel
theorem xd_97_74 : decode prog_2_method_8_code 74 = .ok (.laload, 1) := by decide +kernel
theorem xd_97_75 : decode prog_2_method_8_code 75 = .ok (.lor, 1) := by decide +kernel
theorem xd_97_76 : decode prog_2_method_8_code 76 = .ok (.lastore, 1) := by decide +kernel
theorem xd_97_77 : decode prog_2_method_8_code 77 = .ok (.iinc 3 1, 3) := by decide +kernel
theorem xd_97_80 : decode prog_2_method_8_code 80 = .ok (.goto (-56), 3) := by decide +kernel
theorem xd_97_83 : decode prog_2_method_8_code 83 = .ok (.iinc 1 1, 3) := by decide +kernel
theorem xd_97_86 : decode prog_2_method_8_code 86 = .ok (.goto (-84), 3) := by decide +kernel
theorem xd_97_89 : decode prog_2_method_8_code 89 = .ok (.return_, 1) := by decide +kernel
theorem xd_98_0 : decode prog_2_method_9_code 0 = .ok (.lconst 0, 1) := by decide +kernel
theorem xd_98_1 : decode prog_2_method_9_code 1 = .ok (.lstore_n 1, 1) := by decide +kernel
theorem xd_98_2 : decode prog_2_method_9_code 2 = .ok (.iconst 1, 1) := by decide +kernel
theorem xd_98_3 : decode prog_2_method_9_code 3 = .ok (.istore_n 3, 1) := by decide +kernel
theorem xd_98_4 : decode prog_2_method_9_code 4 = .ok (.iconst 0, 1) := by decide +kernel
theorem xd_98_5 : decode prog_2_method_9_code 5 = .ok (.istore 4, 2) := by decide +kernel
theorem xd_98_7 : decode prog_2_method_9_code 7 = .ok (.iload 4, 2) := by decide +kernel
theorem xd_98_9 : decode prog_2_method_9_code 9 = .ok (.bipush 40, 2) := by decide +kernel
theorem xd_98_11 : decode prog_2_method_9_code 11 = .ok (.if_icmp .ge 105, 3) := by decide +kernel
theorem xd_98_14 : decode prog_2_method_9_code 14 = .ok (.iload_n 3, 1) := by decide +kernel
theorem xd_98_15 : decode prog_2_method_9_code 15 = .ok (.ifCond .eq 101, 3) := by decide +kernel
theorem xd_98_18 : decode prog_2_method_9_code 18 = .ok (.iconst 0, 1) := by decide +kernel
theorem xd_98_19 : decode prog_2_method_9_code 19 = .ok (.istore_n 3, 1) := by decide +kernel
theorem xd_98_20 : decode prog_2_method_9_code 20 = .ok (.iconst 0, 1) := by decide +kernel
theorem xd_98_21 : decode prog_2_method_9_code 21 = .ok (.istore 5, 2) := by decide +kernel
theorem xd_98_23 : decode prog_2_method_9_code 23 = .ok (.iload 5, 2) := by decide +kernel
theorem xd_98_25 : decode prog_2_method_9_code 25 = .ok (.aload_n 0, 1) := by decide +kernel
theorem xd_98_26 : decode prog_2_method_9_code 26 = .ok (.getfield 31, 3) := by decide +kernel
theorem xd_98_29 : decode prog_2_method_9_code 29 = .ok (.getfield 39, 3) := by decide +kernel
theorem xd_98_32 : decode prog_2_method_9_code 32 = .ok (.if_icmp .ge 78, 3) := by decide +kernel
theorem xd_98_35 : decode prog_2_method_9_code 35 = .ok (.aload_n 0, 1) := by decide +kernel
theorem xd_98_36 : decode prog_2_method_9_code 36 = .ok (.getfield 31, 3) := by decide +kernel
theorem xd_98_39 : decode prog_2_method_9_code 39 = .ok (.iload 5, 2) := by decide +kernel
theorem xd_98_41 : decode prog_2_method_9_code 41 = .ok (.invokevirtual 45, 3) := by decide +kernel
theorem xd_98_44 : decode prog_2_method_9_code 44 = .ok (.istore 6, 2) := by decide +kernel
theorem xd_98_46 : decode prog_2_method_9_code 46 = .ok (.aload_n 0, 1) := by decide +kernel
theorem xd_98_47 : decode prog_2_method_9_code 47 = .ok (.getfield 18, 3) := by decide +kernel
theorem xd_98_50 : decode prog_2_method_9_code 50 = .ok (.iload 6, 2) := by decide +kernel
theorem xd_98_52 : decode prog_2_method_9_code 52 = .ok (.iaload, 1) := by decide +kernel
theorem xd_98_53 : decode prog_2_method_9_code 53 = .ok (.iconst (-1), 1) := by decide +kernel
theorem xd_98_54 : decode prog_2_method_9_code 54 = .ok (.if_icmp .ne 50, 3) := by decide +kernel
theorem xd_98_57 : decode prog_2_method_9_code 57 = .ok (.aload_n 0, 1) := by decide +kernel
theorem xd_98_58 : decode prog_2_method_9_code 58 = .ok (.getfield 9, 3) := by decide +kernel
theorem xd_98_61 : decode prog_2_method_9_code 61 = .ok (.iload 6, 2) := by decide +kernel
theorem xd_98_63 : decode prog_2_method_9_code 63 = .ok (.laload, 1) := by decide +kernel
theorem xd_98_64 : decode prog_2_method_9_code 64 = .ok (.lload_n 1, 1) := by decide +kernel
theorem xd_98_65 : decode prog_2_method_9_code 65 = .ok (.ldc2_w 78, 3) := by decide +kernel
theorem xd_98_68 : decode prog_2_method_9_code 68 = .ok (.lxor, 1) := by decide +kernel
theorem xd_98_69 : decode prog_2_method_9_code 69 = .ok (.land, 1) := by decide +kernel
theorem xd_98_70 : decode prog_2_method_9_code 70 = .ok (.lconst 0, 1) := by decide +kernel
theorem xd_98_71 : decode prog_2_method_9_code 71 = .ok (.lcmp, 1) := by decide +kernel
theorem xd_98_72 : decode prog_2_method_9_code 72 = .ok (.ifCond .ne 32, 3) := by decide +kernel
theorem xd_98_75 : decode prog_2_method_9_code 75 = .ok (.aload_n 0, 1) := by decide +kernel
theorem xd_98_76 : decode prog_2_method_9_code 76 = .ok (.getfield 18, 3) := by decide +kernel
theorem xd_98_79 : decode prog_2_method_9_code 79 = .ok (.iload 6, 2) := by decide +kernel
theorem xd_98_81 : decode prog_2_method_9_code 81 = .ok (.iconst 1, 1) := by decide +kernel
theorem xd_98_82 : decode prog_2_method_9_code 82 = .ok (.aload_n 0, 1) := by decide +kernel
theorem xd_98_83 : decode prog_2_method_9_code 83 = .ok (.aload_n 0, 1) := by decide +kernel
theorem xd_98_84 : decode prog_2_method_9_code 84 = .ok (.getfield 9, 3) := by decide +kernel
theorem xd_98_87 : decode prog_2_method_9_code 87 = .ok (.iload 6, 2) := by decide +kernel
theorem xd_98_89 : decode prog_2_method_9_code 89 = .ok (.laload, 1) := by decide +kernel
theorem xd_98_90 : decode prog_2_method_9_code 90 = .ok (.invokevirtual 80, 3) := by decide +kernel
theorem xd_98_93 : decode prog_2_method_9_code 93 = .ok (.iadd, 1) := by decide +kernel
theorem xd_98_94 : decode prog_2_method_9_code 94 = .ok (.iastore, 1) := by decide +kernel
theorem xd_98_95 : decode prog_2_method_9_code 95 = .ok (.lload_n 1, 1) := by decide +kernel
theorem xd_98_96 : decode prog_2_method_9_code 96 = .ok (.lconst 1, 1) := by decide +kernel
theorem xd_98_97 : decode prog_2_method_9_code 97 = .ok (.iload 6, 2) := by decide +kernel
theorem xd_98_99 : decode prog_2_method_9_code 99 = .ok (.lshl, 1) := by decide +kernel
theorem xd_98_100 : decode prog_2_method_9_code 100 = .ok (.lor, 1) := by decide +kernel
theorem xd_98_101 : decode prog_2_method_9_code 101 = .ok (.lstore_n 1, 1) := by decide +kernel
theorem xd_98_102 : decode prog_2_method_9_code 102 = .ok (.iconst 1, 1) := by decide +kernel
theorem xd_98_103 : decode prog_2_method_9_code 103 = .ok (.istore_n 3, 1) := by decide +kernel
theorem xd_98_104 : decode prog_2_method_9_code 104 = .ok (.iinc 5 1, 3) := by decide +kernel
theorem xd_98_107 : decode prog_2_method_9_code 107 = .ok (.goto (-84), 3) := by decide +kernel
theorem xd_98_110 : decode prog_2_method_9_code 110 = .ok (.iinc 4 1, 3) := by decide +kernel
theorem xd_98_113 : decode prog_2_method_9_code 113 = .ok (.goto (-106), 3) := by decide +kernel
theorem xd_98_116 : decode prog_2_method_9_code 116 = .ok (.return_, 1) := by decide +kernel
theorem xd_99_0 : decode prog_2_method_10_code 0 = .ok (.iconst (-1), 1) := by decide +kernel
theorem xd_99_1 : decode prog_2_method_10_code 1 = .ok (.istore_n 3, 1) := by decide +kernel
theorem xd_99_2 : decode prog_2_method_10_code 2 = .ok (.iconst 0, 1) := by decide +kernel
theorem xd_99_3 : decode prog_2_method_10_code 3 = .ok (.istore 4, 2) := by decide +kernel
theorem xd_99_5 : decode prog_2_method_10_code 5 = .ok (.iload 4, 2) := by decide +kernel
theorem xd_99_7 : decode prog_2_method_10_code 7 = .ok (.bipush 40, 2) := by decide +kernel
theorem xd_99_9 : decode prog_2_method_10_code 9 = .ok (.if_icmp .ge 32, 3) := by decide +kernel
theorem xd_99_12 : decode prog_2_method_10_code 12 = .ok (.lload_n 1, 1) := by decide +kernel
theorem xd_99_13 : decode prog_2_method_10_code 13 = .ok (.iload 4, 2) := by decide +kernel
theorem xd_99_15 : decode prog_2_method_10_code 15 = .ok (.lushr, 1) := by decide +kernel
theorem xd_99_16 : decode prog_2_method_10_code 16 = .ok (.lconst 1, 1) := by decide +kernel
theorem xd_99_17 : decode prog_2_method_10_code 17 = .ok (.land, 1) := by decide +kernel
theorem xd_99_18 : decode prog_2_method_10_code 18 = .ok (.lconst 0, 1) := by decide +kernel
theorem xd_99_19 : decode prog_2_method_10_code 19 = .ok (.lcmp, 1) := by decide +kernel
theorem xd_99_20 : decode prog_2_method_10_code 20 = .ok (.ifCond .eq 15, 3) := by decide +kernel
theorem xd_99_23 : decode prog_2_method_10_code 23 = .ok (.iload_n 3, 1) := by decide +kernel
theorem xd_99_24 : decode prog_2_method_10_code 24 = .ok (.aload_n 0, 1) := by decide +kernel
theorem xd_99_25 : decode prog_2_method_10_code 25 = .ok (.getfield 18, 3) := by decide +kernel
theorem xd_99_28 : decode prog_2_method_10_code 28 = .ok (.iload 4, 2) := by decide +kernel
theorem xd_99_30 : decode prog_2_method_10_code 30 = .ok (.iaload, 1) := by decide +kernel
theorem xd_99_31 : decode prog_2_method_10_code 31 = .ok (.invokestatic 84, 3) := by decide +kernel
theorem xd_99_34 : decode prog_2_method_10_code 34 = .ok (.istore_n 3, 1) := by decide +kernel
theorem xd_99_35 : decode prog_2_method_10_code 35 = .ok (.iinc 4 1, 3) := by decide +kernel
theorem xd_99_38 : decode prog_2_method_10_code 38 = .ok (.goto (-33), 3) := by decide +kernel
theorem xd_99_41 : decode prog_2_method_10_code 41 = .ok (.iload_n 3, 1) := by decide +kernel
theorem xd_99_42 : decode prog_2_method_10_code 42 = .ok (.ireturn, 1) := by decide +kernel
theorem xd_100_0 : decode prog_2_method_11_code 0 = .ok (.aload_n 0, 1) := by decide +kernel
theorem xd_100_1 : decode prog_2_method_11_code 1 = .ok (.getfield 35, 3) := by decide +kernel
theorem xd_100_4 : decode prog_2_method_11_code 4 = .ok (.ifCond .eq 4, 3) := by decide +kernel
theorem xd_100_7 : decode prog_2_method_11_code 7 = .ok (.return_, 1) := by decide +kernel
theorem xd_100_8 : decode prog_2_method_11_code 8 = .ok (.iconst (-1), 1) := by decide +kernel
theorem xd_100_9 : decode prog_2_method_11_code 9 = .ok (.istore_n 1, 1) := by decide +kernel
theorem xd_100_10 : decode prog_2_method_11_code 10 = .ok (.iconst 0, 1) := by decide +kernel
theorem xd_100_11 : decode prog_2_method_11_code 11 = .ok (.istore_n 2, 1) := by decide +kernel
theorem xd_100_12 : decode prog_2_method_11_code 12 = .ok (.iload_n 2, 1) := by decide +kernel
theorem xd_100_13 : decode prog_2_method_11_code 13 = .ok (.aload_n 0, 1) := by decide +kernel
theorem xd_100_14 : decode prog_2_method_11_code 14 = .ok (.getfield 31, 3) := by decide +kernel
theorem xd_100_17 : decode prog_2_method_11_code 17 = .ok (.getfield 39, 3) := by decide +kernel
theorem xd_100_20 : decode prog_2_method_11_code 20 = .ok (.if_icmp .ge 54, 3) := by decide +kernel
theorem xd_100_23 : decode prog_2_method_11_code 23 = .ok (.aload_n 0, 1) := by decide +kernel
theorem xd_100_24 : decode prog_2_method_11_code 24 = .ok (.getfield 31, 3) := by decide +kernel
theorem xd_100_27 : decode prog_2_method_11_code 27 = .ok (.iload_n 2, 1) := by decide +kernel
theorem xd_100_28 : decode prog_2_method_11_code 28 = .ok (.invokevirtual 45, 3) := by decide +kernel
theorem xd_100_31 : decode prog_2_method_11_code 31 = .ok (.istore_n 3, 1) := by decide +kernel
theorem xd_100_32 : decode prog_2_method_11_code 32 = .ok (.aload_n 0, 1) := by decide +kernel
theorem xd_100_33 : decode prog_2_method_11_code 33 = .ok (.getfield 27, 3) := by decide +kernel
theorem xd_100_36 : decode prog_2_method_11_code 36 = .ok (.aload_n 0, 1) := by decide +kernel
theorem xd_100_37 : decode prog_2_method_11_code 37 = .ok (.getfield 31, 3) := by decide +kernel
theorem xd_100_40 : decode prog_2_method_11_code 40 = .ok (.getfield 89, 3) := by decide +kernel
theorem xd_100_43 : decode prog_2_method_11_code 43 = .ok (.iload_n 3, 1) := by decide +kernel
theorem xd_100_44 : decode prog_2_method_11_code 44 = .ok (.iaload, 1) := by decide +kernel
theorem xd_100_45 : decode prog_2_method_11_code 45 = .ok (.aload_n 0, 1) := by decide +kernel
theorem xd_100_46 : decode prog_2_method_11_code 46 = .ok (.getfield 31, 3) := by decide +kernel
theorem xd_100_49 : decode prog_2_method_11_code 49 = .ok (.getfield 89, 3) := by decide +kernel
theorem xd_100_52 : decode prog_2_method_11_code 52 = .ok (.iload_n 3, 1) := by decide +kernel
theorem xd_100_53 : decode prog_2_method_11_code 53 = .ok (.iaload, 1) := by decide +kernel
theorem xd_100_54 : decode prog_2_method_11_code 54 = .ok (.invokevirtual 92, 3) := by decide +kernel
theorem xd_100_57 : decode prog_2_method_11_code 57 = .ok (.iload_n 1, 1) := by decide +kernel
theorem xd_100_58 : decode prog_2_method_11_code 58 = .ok (.aload_n 0, 1) := by decide +kernel
theorem xd_100_59 : decode prog_2_method_11_code 59 = .ok (.getfield 18, 3) := by decide +kernel
theorem xd_100_62 : decode prog_2_method_11_code 62 = .ok (.iload_n 3, 1) := by decide +kernel
theorem xd_100_63 : decode prog_2_method_11_code 63 = .ok (.iaload, 1) := by decide +kernel
theorem xd_100_64 : decode prog_2_method_11_code 64 = .ok (.invokestatic 84, 3) := by decide +kernel
theorem xd_100_67 : decode prog_2_method_11_code 67 = .ok (.istore_n 1, 1) := by decide +kernel
theorem xd_100_68 : decode prog_2_method_11_code 68 = .ok (.iinc 2 1, 3) := by decide +kernel
theorem xd_100_71 : decode prog_2_method_11_code 71 = .ok (.goto (-59), 3) := by decide +kernel
theorem xd_100_74 : decode prog_2_method_11_code 74 = .ok (.iconst 0, 1) := by decide +kernel
theorem xd_100_75 : decode prog_2_method_11_code 75 = .ok (.istore_n 2, 1) := by decide +kernel
theorem xd_100_76 : decode prog_2_method_11_code 76 = .ok (.iload_n 2, 1) := by decide +kernel
theorem xd_100_77 : decode prog_2_method_11_code 77 = .ok (.iload_n 1, 1) := by decide +kernel
theorem xd_100_78 : decode prog_2_method_11_code 78 = .ok (.if_icmp .gt 73, 3) := by decide +kernel
theorem xd_100_81 : decode prog_2_method_11_code 81 = .ok (.iconst 0, 1) := by decide +kernel
theorem xd_100_82 : decode prog_2_method_11_code 82 = .ok (.istore_n 3, 1) := by decide +kernel
theorem xd_100_83 : decode prog_2_method_11_code 83 = .ok (.iload_n 3, 1) := by decide +kernel
theorem xd_100_84 : decode prog_2_method_11_code 84 = .ok (.aload_n 0, 1) := by decide +kernel
theorem xd_100_85 : decode prog_2_method_11_code 85 = .ok (.getfield 31, 3) := by decide +kernel
theorem xd_100_88 : decode prog_2_method_11_code 88 = .ok (.getfield 39, 3) := by decide +kernel
theorem xd_100_91 : decode prog_2_method_11_code 91 = .ok (.if_icmp .ge 54, 3) := by decide +kernel
theorem xd_100_94 : decode prog_2_method_11_code 94 = .ok (.aload_n 0, 1) := by decide +kernel
theorem xd_100_95 : decode prog_2_method_11_code 95 = .ok (.getfield 31, 3) := by decide +kernel
theorem xd_100_98 : decode prog_2_method_11_code 98 = .ok (.iload_n 3, 1) := by decide +kernel
theorem xd_100_99 : decode prog_2_method_11_code 99 = .ok (.invokevirtual 45, 3) := by decide +kernel
theorem xd_100_102 : decode prog_2_method_11_code 102 = .ok (.istore 4, 2) := by decide +kernel
theorem xd_100_104 : decode prog_2_method_11_code 104 = .ok (.aload_n 0, 1) := by decide +kernel
theorem xd_100_105 : decode prog_2_method_11_code 105 = .ok (.getfield 18, 3) := by decide +kernel
theorem xd_100_108 : decode prog_2_method_11_code 108 = .ok (.iload 4, 2) := by decide +kernel
theorem xd_100_110 : decode prog_2_method_11_code 110 = .ok (.iaload, 1) := by decide +kernel
theorem xd_100_111 : decode prog_2_method_11_code 111 = .ok (.iload_n 2, 1) := by decide +kernel
theorem xd_100_112 : decode prog_2_method_11_code 112 = .ok (.if_icmp .ne 27, 3) := by decide +kernel
theorem xd_100_115 : decode prog_2_method_11_code 115 = .ok (.aload_n 0, 1) := by decide +kernel
theorem xd_100_116 : decode prog_2_method_11_code 116 = .ok (.getfield 27, 3) := by decide +kernel
theorem xd_100_119 : decode prog_2_method_11_code 119 = .ok (.aload_n 0, 1) := by decide +kernel
theorem xd_100_120 : decode prog_2_method_11_code 120 = .ok (.getfield 31, 3) := by decide +kernel
theorem xd_100_123 : decode prog_2_method_11_code 123 = .ok (.getfield 89, 3) := by decide +kernel
theorem xd_100_126 : decode prog_2_method_11_code 126 = .ok (.iload 4, 2) := by decide +kernel
theorem xd_100_128 : decode prog_2_method_11_code 128 = .ok (.iaload, 1) := by decide +kernel
theorem xd_100_129 : decode prog_2_method_11_code 129 = .ok (.aload_n 0, 1) := by decide +kernel
theorem xd_100_130 : decode prog_2_method_11_code 130 = .ok (.iload 4, 2) := by decide +kernel
theorem xd_100_132 : decode prog_2_method_11_code 132 = .ok (.iload_n 3, 1) := by decide +kernel
theorem xd_100_133 : decode prog_2_method_11_code 133 = .ok (.invokevirtual 96, 3) := by decide +kernel
theorem xd_100_136 : decode prog_2_method_11_code 136 = .ok (.invokevirtual 92, 3) := by decide +kernel
theorem xd_100_139 : decode prog_2_method_11_code 139 = .ok (.iinc 3 1, 3) := by decide +kernel
theorem xd_100_142 : decode prog_2_method_11_code 142 = .ok (.goto (-59), 3) := by decide +kernel
theorem xd_100_145 : decode prog_2_method_11_code 145 = .ok (.iinc 2 1, 3) := by decide +kernel
theorem xd_100_148 : decode prog_2_method_11_code 148 = .ok (.goto (-72), 3) := by decide +kernel
theorem xd_100_151 : decode prog_2_method_11_code 151 = .ok (.aload_n 0, 1) := by decide +kernel
theorem xd_100_152 : decode prog_2_method_11_code 152 = .ok (.iconst 1, 1) := by decide +kernel
theorem xd_100_153 : decode prog_2_method_11_code 153 = .ok (.putfield 35, 3) := by decide +kernel
theorem xd_100_156 : decode prog_2_method_11_code 156 = .ok (.return_, 1) := by decide +kernel
theorem xd_101_0 : decode prog_2_method_12_code 0 = .ok (.iconst 0, 1) := by decide +kernel
theorem xd_101_1 : decode prog_2_method_12_code 1 = .ok (.istore_n 3, 1) := by decide +kernel
theorem xd_101_2 : decode prog_2_method_12_code 2 = .ok (.iload_n 3, 1) := by decide +kernel
theorem xd_101_3 : decode prog_2_method_12_code 3 = .ok (.iload_n 2, 1) := by decide +kernel
theorem xd_101_4 : decode prog_2_method_12_code 4 = .ok (.if_icmp .ge 67, 3) := by decide +kernel
theorem xd_101_7 : decode prog_2_method_12_code 7 = .ok (.aload_n 0, 1) := by decide +kernel
theorem xd_101_8 : decode prog_2_method_12_code 8 = .ok (.getfield 31, 3) := by decide +kernel
theorem xd_101_11 : decode prog_2_method_12_code 11 = .ok (.iload_n 3, 1) := by decide +kernel
theorem xd_101_12 : decode prog_2_method_12_code 12 = .ok (.invokevirtual 45, 3) := by decide +kernel
theorem xd_101_15 : decode prog_2_method_12_code 15 = .ok (.istore 4, 2) := by decide +kernel
theorem xd_101_17 : decode prog_2_method_12_code 17 = .ok (.aload_n 0, 1) := by decide +kernel
theorem xd_101_18 : decode prog_2_method_12_code 18 = .ok (.getfield 18, 3) := by decide +kernel
theorem xd_101_21 : decode prog_2_method_12_code 21 = .ok (.iload 4, 2) := by decide +kernel
theorem xd_101_23 : decode prog_2_method_12_code 23 = .ok (.iaload, 1) := by decide +kernel
theorem xd_101_24 : decode prog_2_method_12_code 24 = .ok (.aload_n 0, 1) := by decide +kernel
theorem xd_101_25 : decode prog_2_method_12_code 25 = .ok (.getfield 18, 3) := by decide +kernel
theorem xd_101_28 : decode prog_2_method_12_code 28 = .ok (.iload_n 1, 1) := by decide +kernel
theorem xd_101_29 : decode prog_2_method_12_code 29 = .ok (.iaload, 1) := by decide +kernel
theorem xd_101_30 : decode prog_2_method_12_code 30 = .ok (.if_icmp .ne 35, 3) := by decide +kernel
theorem xd_101_33 : decode prog_2_method_12_code 33 = .ok (.aload_n 0, 1) := by decide +kernel
theorem xd_101_34 : decode prog_2_method_12_code 34 = .ok (.getfield 31, 3) := by decide +kernel
theorem xd_101_37 : decode prog_2_method_12_code 37 = .ok (.iload_n 1, 1) := by decide +kernel
theorem xd_101_38 : decode prog_2_method_12_code 38 = .ok (.aload_n 0, 1) := by decide +kernel
theorem xd_101_39 : decode prog_2_method_12_code 39 = .ok (.getfield 31, 3) := by decide +kernel
theorem xd_101_42 : decode prog_2_method_12_code 42 = .ok (.iload 4, 2) := by decide +kernel
theorem xd_101_44 : decode prog_2_method_12_code 44 = .ok (.aload_n 0, 1) := by decide +kernel
theorem xd_101_45 : decode prog_2_method_12_code 45 = .ok (.getfield 27, 3) := by decide +kernel
theorem xd_101_48 : decode prog_2_method_12_code 48 = .ok (.invokevirtual 99, 3) := by decide +kernel
theorem xd_101_51 : decode prog_2_method_12_code 51 = .ok (.ifCond .eq 14, 3) := by decide +kernel
theorem xd_101_54 : decode prog_2_method_12_code 54 = .ok (.aload_n 0, 1) := by decide +kernel
theorem xd_101_55 : decode prog_2_method_12_code 55 = .ok (.getfield 31, 3) := by decide +kernel
theorem xd_101_58 : decode prog_2_method_12_code 58 = .ok (.getfield 89, 3) := by decide +kernel
theorem xd_101_61 : decode prog_2_method_12_code 61 = .ok (.iload 4, 2) := by decide +kernel
theorem xd_101_63 : decode prog_2_method_12_code 63 = .ok (.iaload, 1) := by decide +kernel
theorem xd_101_64 : decode prog_2_method_12_code 64 = .ok (.ireturn, 1) := by decide +kernel
theorem xd_101_65 : decode prog_2_method_12_code 65 = .ok (.iinc 3 1, 3) := by decide +kernel
theorem xd_101_68 : decode prog_2_method_12_code 68 = .ok (.goto (-66), 3) := by decide +kernel
theorem xd_101_71 : decode prog_2_method_12_code 71 = .ok (.aload_n 0, 1) := by decide +kernel
theorem xd_101_72 : decode prog_2_method_12_code 72 = .ok (.getfield 31, 3) := by decide +kernel
theorem xd_101_75 : decode prog_2_method_12_code 75 = .ok (.getfield 89, 3) := by decide +kernel
theorem xd_101_78 : decode prog_2_method_12_code 78 = .ok (.iload_n 1, 1) := by decide +kernel
theorem xd_101_79 : decode prog_2_method_12_code 79 = .ok (.iaload, 1) := by decide +kernel
theorem xd_101_80 : decode prog_2_method_12_code 80 = .ok (.ireturn, 1) := by decide +kernel
theorem xd_102_0 : decode prog_3_method_1_code 0 = .ok (.aload_n 0, 1) := by decide +kernel
theorem xd_102_1 : decode prog_3_method_1_code 1 = .ok (.invokespecial 3, 3) := by decide +kernel
theorem xd_102_4 : decode prog_3_method_1_code 4 = .ok (.aload_n 0, 1) := by decide +kernel
theorem xd_102_5 : decode prog_3_method_1_code 5 = .ok (.bipush 12, 2) := by decide +kernel
theorem xd_102_7 : decode prog_3_method_1_code 7 = .ok (.newarray .long, 2) := by decide +kernel
theorem xd_102_9 : decode prog_3_method_1_code 9 = .ok (.putfield 9, 3) := by decide +kernel
theorem xd_102_12 : decode prog_3_method_1_code 12 = .ok (.aload_n 0, 1) := by decide +kernel
theorem xd_102_13 : decode prog_3_method_1_code 13 = .ok (.bipush 12, 2) := by decide +kernel
theorem xd_102_15 : decode prog_3_method_1_code 15 = .ok (.newarray .int, 2) := by decide +kernel
theorem xd_102_17 : decode prog_3_method_1_code 17 = .ok (.putfield 15, 3) := by decide +kernel
theorem xd_102_20 : decode prog_3_method_1_code 20 = .ok (.aload_n 0, 1) := by decide +kernel
theorem xd_102_21 : decode prog_3_method_1_code 21 = .ok (.bipush 96, 2) := by decide +kernel
theorem xd_102_23 : decode prog_3_method_1_code 23 = .ok (.newarray .int, 2) := by decide +kernel
theorem xd_102_25 : decode prog_3_method_1_code 25 = .ok (.putfield 19, 3) := by decide +kernel
theorem xd_102_28 : decode prog_3_method_1_code 28 = .ok (.aload_n 0, 1) := by decide +kernel
theorem xd_102_29 : decode prog_3_method_1_code 29 = .ok (.bipush 96, 2) := by decide +kernel
theorem xd_102_31 : decode prog_3_method_1_code 31 = .ok (.newarray .boolean, 2) := by decide +kernel
theorem xd_102_33 : decode prog_3_method_1_code 33 = .ok (.putfield 22, 3) := by decide +kernel
theorem xd_102_36 : decode prog_3_method_1_code 36 = .ok (.return_, 1) := by decide +kernel
theorem xd_103_0 : decode prog_3_method_2_code 0 = .ok (.iconst 0, 1) := by decide +kernel
theorem xd_103_1 : decode prog_3_method_2_code 1 = .ok (.istore_n 3, 1) := by decide +kernel
theorem xd_103_2 : decode prog_3_method_2_code 2 = .ok (.iload_n 3, 1) := by decide +kernel
theorem xd_103_3 : decode prog_3_method_2_code 3 = .ok (.aload_n 0, 1) := by decide +kernel
theorem xd_103_4 : decode prog_3_method_2_code 4 = .ok (.getfield 26, 3) := by decide +kernel
theorem xd_103_7 : decode prog_3_method_2_code 7 = .ok (.if_icmp .ge 22, 3) := by decide +kernel
theorem xd_103_10 : decode prog_3_method_2_code 10 = .ok (.aload_n 0, 1) := by decide +kernel
theorem xd_103_11 : decode prog_3_method_2_code 11 = .ok (.getfield 9, 3) := by decide +kernel
theorem xd_103_14 : decode prog_3_method_2_code 14 = .ok (.iload_n 3, 1) := by decide +kernel
theorem xd_103_15 : decode prog_3_method_2_code 15 = .ok (.laload, 1) := by decide +kernel
theorem xd_103_16 : decode prog_3_method_2_code 16 = .ok (.lload_n 1, 1) := by decide +kernel
theorem xd_103_17 : decode prog_3_method_2_code 17 = .ok (.lcmp, 1) := by decide +kernel
theorem xd_103_18 : decode prog_3_method_2_code 18 = .ok (.ifCond .ne 5, 3) := by decide +kernel
theorem xd_103_21 : decode prog_3_method_2_code 21 = .ok (.iload_n 3, 1) := by decide +kernel
theorem xd_103_22 : decode prog_3_method_2_code 22 = .ok (.ireturn, 1) := by decide +kernel
theorem xd_103_23 : decode prog_3_method_2_code 23 = .ok (.iinc 3 1, 3) := by decide +kernel
theorem xd_103_26 : decode prog_3_method_2_code 26 = .ok (.goto (-24), 3) := by decide +kernel
theorem xd_103_29 : decode prog_3_method_2_code 29 = .ok (.iconst (-1), 1) := by decide +kernel
theorem xd_103_30 : decode prog_3_method_2_code 30 = .ok (.ireturn, 1) := by decide +kernel
theorem xd_104_0 : decode prog_3_method_3_code 0 = .ok (.aload_n 0, 1) := by decide +kernel
theorem xd_104_1 : decode prog_3_method_3_code 1 = .ok (.getfield 26, 3) := by decide +kernel
theorem xd_104_4 : decode prog_3_method_3_code 4 = .ok (.bipush 12, 2) := by decide +kernel
theorem xd_104_6 : decode prog_3_method_3_code 6 = .ok (.if_icmp .ge 33, 3) := by decide +kernel
theorem xd_104_9 : decode prog_3_method_3_code 9 = .ok (.aload_n 0, 1) := by decide +kernel
theorem xd_104_10 : decode prog_3_method_3_code 10 = .ok (.getfield 9, 3) := by decide +kernel
theorem xd_104_13 : decode prog_3_method_3_code 13 = .ok (.aload_n 0, 1) := by decide +kernel
theorem xd_104_14 : decode prog_3_method_3_code 14 = .ok (.getfield 26, 3) := by decide +kernel
theorem xd_104_17 : decode prog_3_method_3_code 17 = .ok (.lload_n 1, 1) := by decide +kernel
theorem xd_104_18 : decode prog_3_method_3_code 18 = .ok (.lastore, 1) := by decide +kernel
theorem xd_104_19 : decode prog_3_method_3_code 19 = .ok (.aload_n 0, 1) := by decide +kernel
theorem xd_104_20 : decode prog_3_method_3_code 20 = .ok (.getfield 15, 3) := by decide +kernel
theorem xd_104_23 : decode prog_3_method_3_code 23 = .ok (.aload_n 0, 1) := by decide +kernel
theorem xd_104_24 : decode prog_3_method_3_code 24 = .ok (.getfield 26, 3) := by decide +kernel
theorem xd_104_27 : decode prog_3_method_3_code 27 = .ok (.iconst 0, 1) := by decide +kernel
theorem xd_104_28 : decode prog_3_method_3_code 28 = .ok (.iastore, 1) := by decide +kernel
theorem xd_104_29 : decode prog_3_method_3_code 29 = .ok (.aload_n 0, 1) := by decide +kernel
theorem xd_104_30 : decode prog_3_method_3_code 30 = .ok (.dup, 1) := by decide +kernel
theorem xd_104_31 : decode prog_3_method_3_code 31 = .ok (.getfield 26, 3) := by decide +kernel
theorem xd_104_34 : decode prog_3_method_3_code 34 = .ok (.iconst 1, 1) := by decide +kernel
theorem xd_104_35 : decode prog_3_method_3_code 35 = .ok (.iadd, 1) := by decide +kernel
theorem xd_104_36 : decode prog_3_method_3_code 36 = .ok (.putfield 26, 3) := by decide +kernel
theorem xd_104_39 : decode prog_3_method_3_code 39 = .ok (.return_, 1) := by decide +kernel
theorem xd_105_0 : decode prog_3_method_4_code 0 = .ok (.aload_n 0, 1) := by decide +kernel
theorem xd_105_1 : decode prog_3_method_4_code 1 = .ok (.getfield 26, 3) := by decide +kernel
theorem xd_105_4 : decode prog_3_method_4_code 4 = .ok (.iconst 1, 1) := by decide +kernel
theorem xd_105_5 : decode prog_3_method_4_code 5 = .ok (.isub, 1) := by decide +kernel
theorem xd_105_6 : decode prog_3_method_4_code 6 = .ok (.istore_n 3, 1) := by decide +kernel
theorem xd_105_7 : decode prog_3_method_4_code 7 = .ok (.iload_n 3, 1) := by decide +kernel
theorem xd_105_8 : decode prog_3_method_4_code 8 = .ok (.ifCond .lt 53, 3) := by decide +kernel
theorem xd_105_11 : decode prog_3_method_4_code 11 = .ok (.aload_n 0, 1) := by decide +kernel
theorem xd_105_12 : decode prog_3_method_4_code 12 = .ok (.getfield 15, 3) := by decide +kernel
theorem xd_105_15 : decode prog_3_method_4_code 15 = .ok (.iload_n 3, 1) := by decide +kernel
theorem xd_105_16 : decode prog_3_method_4_code 16 = .ok (.iaload, 1) := by decide +kernel
theorem xd_105_17 : decode prog_3_method_4_code 17 = .ok (.bipush 8, 2) := by decide +kernel
theorem xd_105_19 : decode prog_3_method_4_code 19 = .ok (.if_icmp .ge 42, 3) := by decide +kernel
theorem xd_105_22 : decode prog_3_method_4_code 22 = .ok (.iload_n 3, 1) := by decide +kernel
theorem xd_105_23 : decode prog_3_method_4_code 23 = .ok (.bipush 8, 2) := by decide +kernel
theorem xd_105_25 : decode prog_3_method_4_code 25 = .ok (.imul, 1) := by decide +kernel
theorem xd_105_26 : decode prog_3_method_4_code 26 = .ok (.aload_n 0, 1) := by decide +kernel
theorem xd_105_27 : decode prog_3_method_4_code 27 = .ok (.getfield 15, 3) := by decide +kernel
theorem xd_105_30 : decode prog_3_method_4_code 30 = .ok (.iload_n 3, 1) := by decide +kernel
theorem xd_105_31 : decode prog_3_method_4_code 31 = .ok (.iaload, 1) := by decide +kernel
theorem xd_105_32 : decode prog_3_method_4_code 32 = .ok (.iadd, 1) := by decide +kernel
theorem xd_105_33 : decode prog_3_method_4_code 33 = .ok (.istore 4, 2) := by decide +kernel
theorem xd_105_35 : decode prog_3_method_4_code 35 = .ok (.aload_n 0, 1) := by decide +kernel
theorem xd_105_36 : decode prog_3_method_4_code 36 = .ok (.getfield 19, 3) := by decide +kernel
theorem xd_105_39 : decode prog_3_method_4_code 39 = .ok (.iload 4, 2) := by decide +kernel
theorem xd_105_41 : decode prog_3_method_4_code 41 = .ok (.iload_n 1, 1) := by decide +kernel
theorem xd_105_42 : decode prog_3_method_4_code 42 = .ok (.iastore, 1) := by decide +kernel
theorem xd_105_43 : decode prog_3_method_4_code 43 = .ok (.aload_n 0, 1) := by decide +kernel
theorem xd_105_44 : decode prog_3_method_4_code 44 = .ok (.getfield 22, 3) := by decide +kernel
theorem xd_105_47 : decode prog_3_method_4_code 47 = .ok (.iload 4, 2) := by decide +kernel
theorem xd_105_49 : decode prog_3_method_4_code 49 = .ok (.iload_n 2, 1) := by decide +kernel
theorem xd_105_50 : decode prog_3_method_4_code 50 = .ok (.bastore, 1) := by decide +kernel
theorem xd_105_51 : decode prog_3_method_4_code 51 = .ok (.aload_n 0, 1) := by decide +kernel
theorem xd_105_52 : decode prog_3_method_4_code 52 = .ok (.getfield 15, 3) := by decide +kernel
theorem xd_105_55 : decode prog_3_method_4_code 55 = .ok (.iload_n 3, 1) := by decide +kernel
theorem xd_105_56 : decode prog_3_method_4_code 56 = .ok (.dup2, 1) := by decide +kernel
theorem xd_105_57 : decode prog_3_method_4_code 57 = .ok (.iaload, 1) := by decide +kernel
theorem xd_105_58 : decode prog_3_method_4_code 58 = .ok (.iconst 1, 1) := by decide +kernel
theorem xd_105_59 : decode prog_3_method_4_code 59 = .ok (.iadd, 1) := by decide +kernel
theorem xd_105_60 : decode prog_3_method_4_code 60 = .ok (.iastore, 1) := by decide +kernel
theorem xd_105_61 : decode prog_3_method_4_code 61 = .ok (.return_, 1) := by decide +kernel
theorem xd_106_0 : decode prog_3_method_5_code 0 = .ok (.iload_n 1, 1) := by decide +kernel
theorem xd_106_1 : decode prog_3_method_5_code 1 = .ok (.bipush 8, 2) := by decide +kernel
theorem xd_106_3 : decode prog_3_method_5_code 3 = .ok (.imul, 1) := by decide +kernel
theorem xd_106_4 : decode prog_3_method_5_code 4 = .ok (.iload_n 2, 1) := by decide +kernel
theorem xd_106_5 : decode prog_3_method_5_code 5 = .ok (.iadd, 1) := by decide +kernel
theorem xd_106_6 : decode prog_3_method_5_code 6 = .ok (.istore 5, 2) := by decide +kernel
theorem xd_106_8 : decode prog_3_method_5_code 8 = .ok (.iload_n 3, 1) := by decide +kernel
theorem xd_106_9 : decode prog_3_method_5_code 9 = .ok (.bipush 6, 2) := by decide +kernel
theorem xd_106_11 : decode prog_3_method_5_code 11 = .ok (.if_icmp .ne 11, 3) := by decide +kernel
theorem xd_106_14 : decode prog_3_method_5_code 14 = .ok (.aload_n 0, 1) := by decide +kernel
theorem xd_106_15 : decode prog_3_method_5_code 15 = .ok (.getfield 22, 3) := by decide +kernel
theorem xd_106_18 : decode prog_3_method_5_code 18 = .ok (.iload 5, 2) := by decide +kernel
theorem xd_106_20 : decode prog_3_method_5_code 20 = .ok (.baload, 1) := by decide +kernel
theorem xd_106_21 : decode prog_3_method_5_code 21 = .ok (.ireturn, 1) := by decide +kernel
theorem xd_106_22 : decode prog_3_method_5_code 22 = .ok (.iload_n 3, 1) := by decide +kernel
theorem xd_106_23 : decode prog_3_method_5_code 23 = .ok (.aload_n 0, 1) := by decide +kernel
theorem xd_106_24 : decode prog_3_method_5_code 24 = .ok (.getfield 19, 3) := by decide +kernel
theorem xd_106_27 : decode prog_3_method_5_code 27 = .ok (.iload 5, 2) := by decide +kernel
theorem xd_106_29 : decode prog_3_method_5_code 29 = .ok (.iaload, 1) := by decide +kernel
theorem xd_106_30 : decode prog_3_method_5_code 30 = .ok (.if_icmp .eq 24, 3) := by decide +kernel
theorem xd_106_33 : decode prog_3_method_5_code 33 = .ok (.iload_n 3, 1) := by decide +kernel
theorem xd_106_34 : decode prog_3_method_5_code 34 = .ok (.iconst 3, 1) := by decide +kernel
theorem xd_106_35 : decode prog_3_method_5_code 35 = .ok (.if_icmp .ne 23, 3) := by decide +kernel
theorem xd_106_38 : decode prog_3_method_5_code 38 = .ok (.iload 4, 2) := by decide +kernel
theorem xd_106_40 : decode prog_3_method_5_code 40 = .ok (.ifCond .ne 18, 3) := by decide +kernel
theorem xd_106_43 : decode prog_3_method_5_code 43 = .ok (.aload_n 0, 1) := by decide +kernel
theorem xd_106_44 : decode prog_3_method_5_code 44 = .ok (.getfield 19, 3) := by decide +kernel
theorem xd_106_47 : decode prog_3_method_5_code 47 = .ok (.iload 5, 2) := by decide +kernel
theorem xd_106_49 : decode prog_3_method_5_code 49 = .ok (.iaload, 1) := by decide +kernel
theorem xd_106_50 : decode prog_3_method_5_code 50 = .ok (.iconst 4, 1) := by decide +kernel
theorem xd_106_51 : decode prog_3_method_5_code 51 = .ok (.if_icmp .ne 7, 3) := by decide +kernel
theorem xd_106_54 : decode prog_3_method_5_code 54 = .ok (.iconst 1, 1) := by decide +kernel
theorem xd_106_55 : decode prog_3_method_5_code 55 = .ok (.goto 4, 3) := by decide +kernel
theorem xd_106_58 : decode prog_3_method_5_code 58 = .ok (.iconst 0, 1) := by decide +kernel
theorem xd_106_59 : decode prog_3_method_5_code 59 = .ok (.ireturn, 1) := by decide +kernel
theorem xd_107_0 : decode prog_3_method_6_code 0 = .ok (.aload_n 0, 1) := by decide +kernel
theorem xd_107_1 : decode prog_3_method_6_code 1 = .ok (.aload_n 1, 1) := by decide +kernel
theorem xd_107_2 : decode prog_3_method_6_code 2 = .ok (.getfield 26, 3) := by decide +kernel
theorem xd_107_5 : decode prog_3_method_6_code 5 = .ok (.putfield 26, 3) := by decide +kernel
theorem xd_107_8 : decode prog_3_method_6_code 8 = .ok (.aload_n 1, 1) := by decide +kernel
theorem xd_107_9 : decode prog_3_method_6_code 9 = .ok (.getfield 9, 3) := by decide +kernel
theorem xd_107_12 : decode prog_3_method_6_code 12 = .ok (.iconst 0, 1) := by decide +kernel
theorem xd_107_13 : decode prog_3_method_6_code 13 = .ok (.aload_n 0, 1) := by decide +kernel
theorem xd_107_14 : decode prog_3_method_6_code 14 = .ok (.getfield 9, 3) := by decide +kernel
theorem xd_107_17 : decode prog_3_method_6_code 17 = .ok (.iconst 0, 1) := by decide +kernel
theorem xd_107_18 : decode prog_3_method_6_code 18 = .ok (.bipush 12, 2) := by decide +kernel
theorem xd_107_20 : decode prog_3_method_6_code 20 = .ok (.invokestatic 30, 3) := by decide +kernel
theorem xd_107_23 : decode prog_3_method_6_code 23 = .ok (.aload_n 1, 1) := by decide +kernel
theorem xd_107_24 : decode prog_3_method_6_code 24 = .ok (.getfield 15, 3) := by decide +kernel
theorem xd_107_27 : decode prog_3_method_6_code 27 = .ok (.iconst 0, 1) := by decide +kernel
theorem xd_107_28 : decode prog_3_method_6_code 28 = .ok (.aload_n 0, 1) := by decide +kernel
theorem xd_107_29 : decode prog_3_method_6_code 29 = .ok (.getfield 15, 3) := by decide +kernel
theorem xd_107_32 : decode prog_3_method_6_code 32 = .ok (.iconst 0, 1) := by decide +kernel
theorem xd_107_33 : decode prog_3_method_6_code 33 = .ok (.bipush 12, 2) := by decide +kernel
theorem xd_107_35 : decode prog_3_method_6_code 35 = .ok (.invokestatic 30, 3) := by decide +kernel
theorem xd_107_38 : decode prog_3_method_6_code 38 = .ok (.iconst 0, 1) := by decide +kernel
theorem xd_107_39 : decode prog_3_method_6_code 39 = .ok (.istore_n 2, 1) := by decide +kernel
theorem xd_107_40 : decode prog_3_method_6_code 40 = .ok (.iload_n 2, 1) := by decide +kernel
theorem xd_107_41 : decode prog_3_method_6_code 41 = .ok (.aload_n 0, 1) := by decide +kernel
theorem xd_107_42 : decode prog_3_method_6_code 42 = .ok (.getfield 26, 3) := by decide +kernel
theorem xd_107_45 : decode prog_3_method_6_code 45 = .ok (.bipush 8, 2) := by decide +kernel
theorem xd_107_47 : decode prog_3_method_6_code 47 = .ok (.imul, 1) := by decide +kernel
theorem xd_107_48 : decode prog_3_method_6_code 48 = .ok (.if_icmp .ge 33, 3) := by decide +kernel
theorem xd_107_51 : decode prog_3_method_6_code 51 = .ok (.aload_n 0, 1) := by decide +kernel
theorem xd_107_52 : decode prog_3_method_6_code 52 = .ok (.getfield 19, 3) := by decide +kernel
theorem xd_107_55 : decode prog_3_method_6_code 55 = .ok (.iload_n 2, 1) := by decide +kernel
theorem xd_107_56 : decode prog_3_method_6_code 56 = .ok (.aload_n 1, 1) := by decide +kernel
theorem xd_107_57 : decode prog_3_method_6_code 57 = .ok (.getfield 19, 3) := by decide +kernel
theorem xd_107_60 : decode prog_3_method_6_code 60 = .ok (.iload_n 2, 1) := by decide +kernel
theorem xd_107_61 : decode prog_3_method_6_code 61 = .ok (.iaload, 1) := by decide +kernel
theorem xd_107_62 : decode prog_3_method_6_code 62 = .ok (.iastore, 1) := by decide +kernel
theorem xd_107_63 : decode prog_3_method_6_code 63 = .ok (.aload_n 0, 1) := by decide +kernel
theorem xd_107_64 : decode prog_3_method_6_code 64 = .ok (.getfield 22, 3) := by decide +kernel
theorem xd_107_67 : decode prog_3_method_6_code 67 = .ok (.iload_n 2, 1) := by decide +kernel
theorem xd_107_68 : decode prog_3_method_6_code 68 = .ok (.aload_n 1, 1) := by decide +kernel
theorem xd_107_69 : decode prog_3_method_6_code 69 = .ok (.getfield 22, 3) := by decide +kernel
theorem xd_107_72 : decode prog_3_method_6_code 72 = .ok (.iload_n 2, 1) := by decide +kernel
theorem xd_107_73 : decode prog_3_method_6_code 73 = .ok (.baload, 1) := by decide +kernel
theorem xd_107_74 : decode prog_3_method_6_code 74 = .ok (.bastore, 1) := by decide +kernel
theorem xd_107_75 : decode prog_3_method_6_code 75 = .ok (.iinc 2 1, 3) := by decide +kernel
theorem xd_107_78 : decode prog_3_method_6_code 78 = .ok (.goto (-38), 3) := by decide +kernel
theorem xd_107_81 : decode prog_3_method_6_code 81 = .ok (.return_, 1) := by decide +kernel
theorem xd_108_0 : decode prog_4_method_1_code 0 = .ok (.aload_n 0, 1) := by decide +kernel
theorem xd_108_1 : decode prog_4_method_1_code 1 = .ok (.invokespecial 1, 3) := by decide +kernel
theorem xd_108_4 : decode prog_4_method_1_code 4 = .ok (.aload_n 0, 1) := by decide +kernel
theorem xd_108_5 : decode prog_4_method_1_code 5 = .ok (.iload_n 1, 1) := by decide +kernel
theorem xd_108_6 : decode prog_4_method_1_code 6 = .ok (.ifCond .ge 7, 3) := by decide +kernel
theorem xd_108_9 : decode prog_4_method_1_code 9 = .ok (.iconst 0, 1) := by decide +kernel
theorem xd_108_10 : decode prog_4_method_1_code 10 = .ok (.goto 4, 3) := by decide +kernel
theorem xd_108_13 : decode prog_4_method_1_code 13 = .ok (.iload_n 1, 1) := by decide +kernel
theorem xd_108_14 : decode prog_4_method_1_code 14 = .ok (.newarray .int, 2) := by decide +kernel
theorem xd_108_16 : decode prog_4_method_1_code 16 = .ok (.putfield 7, 3) := by decide +kernel
theorem xd_108_19 : decode prog_4_method_1_code 19 = .ok (.return_, 1) := by decide +kernel
theorem xd_109_0 : decode prog_4_method_2_code 0 = .ok (.iload_n 1, 1) := by decide +kernel
theorem xd_109_1 : decode prog_4_method_2_code 1 = .ok (.ifCond .lt 21, 3) := by decide +kernel
theorem xd_109_4 : decode prog_4_method_2_code 4 = .ok (.iload_n 1, 1) := by decide +kernel
theorem xd_109_5 : decode prog_4_method_2_code 5 = .ok (.aload_n 0, 1) := by decide +kernel
theorem xd_109_6 : decode prog_4_method_2_code 6 = .ok (.getfield 7, 3) := by decide +kernel
theorem xd_109_9 : decode prog_4_method_2_code 9 = .ok (.arraylength, 1) := by decide +kernel
theorem xd_109_10 : decode prog_4_method_2_code 10 = .ok (.if_icmp .ge 12, 3) := by decide +kernel
theorem xd_109_13 : decode prog_4_method_2_code 13 = .ok (.aload_n 0, 1) := by decide +kernel
theorem xd_109_14 : decode prog_4_method_2_code 14 = .ok (.getfield 7, 3) := by decide +kernel
theorem xd_109_17 : decode prog_4_method_2_code 17 = .ok (.iload_n 1, 1) := by decide +kernel
theorem xd_109_18 : decode prog_4_method_2_code 18 = .ok (.iaload, 1) := by decide +kernel
theorem xd_109_19 : decode prog_4_method_2_code 19 = .ok (.goto 4, 3) := by decide +kernel
theorem xd_109_22 : decode prog_4_method_2_code 22 = .ok (.iload_n 1, 1) := by decide +kernel
theorem xd_109_23 : decode prog_4_method_2_code 23 = .ok (.ireturn, 1) := by decide +kernel
theorem xd_110_0 : decode prog_4_method_3_code 0 = .ok (.iload_n 1, 1) := by decide +kernel
theorem xd_110_1 : decode prog_4_method_3_code 1 = .ok (.ifCond .lt 19, 3) := by decide +kernel
theorem xd_110_4 : decode prog_4_method_3_code 4 = .ok (.iload_n 1, 1) := by decide +kernel
theorem xd_110_5 : decode prog_4_method_3_code 5 = .ok (.aload_n 0, 1) := by decide +kernel
theorem xd_110_6 : decode prog_4_method_3_code 6 = .ok (.getfield 7, 3) := by decide +kernel
theorem xd_110_9 : decode prog_4_method_3_code 9 = .ok (.arraylength, 1) := by decide +kernel
theorem xd_110_10 : decode prog_4_method_3_code 10 = .ok (.if_icmp .ge 10, 3) := by decide +kernel
theorem xd_110_13 : decode prog_4_method_3_code 13 = .ok (.aload_n 0, 1) := by decide +kernel
theorem xd_110_14 : decode prog_4_method_3_code 14 = .ok (.getfield 7, 3) := by decide +kernel
theorem xd_110_17 : decode prog_4_method_3_code 17 = .ok (.iload_n 1, 1) := by decide +kernel
theorem xd_110_18 : decode prog_4_method_3_code 18 = .ok (.iload_n 2, 1) := by decide +kernel
theorem xd_110_19 : decode prog_4_method_3_code 19 = .ok (.iastore, 1) := by decide +kernel
theorem xd_110_20 : decode prog_4_method_3_code 20 = .ok (.return_, 1) := by decide +kernel
theorem xd_111_0 : decode prog_5_method_1_code 0 = .ok (.aload_n 0, 1) := by decide +kernel
theorem xd_111_1 : decode prog_5_method_1_code 1 = .ok (.invokespecial 3, 3) := by decide +kernel
theorem xd_111_4 : decode prog_5_method_1_code 4 = .ok (.aload_n 0, 1) := by decide +kernel
theorem xd_111_5 : decode prog_5_method_1_code 5 = .ok (.bipush 40, 2) := by decide +kernel
theorem xd_111_7 : decode prog_5_method_1_code 7 = .ok (.newarray .int, 2) := by decide +kernel
theorem xd_111_9 : decode prog_5_method_1_code 9 = .ok (.putfield 9, 3) := by decide +kernel
theorem xd_111_12 : decode prog_5_method_1_code 12 = .ok (.aload_n 0, 1) := by decide +kernel
theorem xd_111_13 : decode prog_5_method_1_code 13 = .ok (.bipush 40, 2) := by decide +kernel
theorem xd_111_15 : decode prog_5_method_1_code 15 = .ok (.newarray .long, 2) := by decide +kernel
theorem xd_111_17 : decode prog_5_method_1_code 17 = .ok (.putfield 15, 3) := by decide +kernel
theorem xd_111_20 : decode prog_5_method_1_code 20 = .ok (.aload_n 0, 1) := by decide +kernel
theorem xd_111_21 : decode prog_5_method_1_code 21 = .ok (.bipush 40, 2) := by decide +kernel
theorem xd_111_23 : decode prog_5_method_1_code 23 = .ok (.newarray .int, 2) := by decide +kernel
theorem xd_111_25 : decode prog_5_method_1_code 25 = .ok (.putfield 19, 3) := by decide +kernel
theorem xd_111_28 : decode prog_5_method_1_code 28 = .ok (.aload_n 0, 1) := by decide +kernel
theorem xd_111_29 : decode prog_5_method_1_code 29 = .ok (.bipush 40, 2) := by decide +kernel
theorem xd_111_31 : decode prog_5_method_1_code 31 = .ok (.newarray .int, 2) := by decide +kernel
theorem xd_111_33 : decode prog_5_method_1_code 33 = .ok (.putfield 22, 3) := by decide +kernel
theorem xd_111_36 : decode prog_5_method_1_code 36 = .ok (.aload_n 0, 1) := by decide +kernel
theorem xd_111_37 : decode prog_5_method_1_code 37 = .ok (.sipush 320, 3) := by decide +kernel
theorem xd_111_40 : decode prog_5_method_1_code 40 = .ok (.newarray .int, 2) := by decide +kernel
theorem xd_111_42 : decode prog_5_method_1_code 42 = .ok (.putfield 25, 3) := by decide +kernel
theorem xd_111_45 : decode prog_5_method_1_code 45 = .ok (.aload_n 0, 1) := by decide +kernel
theorem xd_111_46 : decode prog_5_method_1_code 46 = .ok (.sipush 320, 3) := by decide +kernel
theorem xd_111_49 : decode prog_5_method_1_code 49 = .ok (.newarray .int, 2) := by decide +kernel
theorem xd_111_51 : decode prog_5_method_1_code 51 = .ok (.putfield 28, 3) := by decide +kernel
theorem xd_111_54 : decode prog_5_method_1_code 54 = .ok (.aload_n 0, 1) := by decide +kernel
theorem xd_111_55 : decode prog_5_method_1_code 55 = .ok (.sipush 320, 3) := by decide +kernel
theorem xd_111_58 : decode prog_5_method_1_code 58 = .ok (.newarray .int, 2) := by decide +kernel
theorem xd_111_60 : decode prog_5_method_1_code 60 = .ok (.putfield 31, 3) := by decide +kernel
theorem xd_111_63 : decode prog_5_method_1_code 63 = .ok (.aload_n 0, 1) := by decide +kernel
theorem xd_111_64 : decode prog_5_method_1_code 64 = .ok (.sipush 1200, 3) := by decide +kernel
theorem xd_111_67 : decode prog_5_method_1_code 67 = .ok (.newarray .int, 2) := by decide +kernel
theorem xd_111_69 : decode prog_5_method_1_code 69 = .ok (.putfield 34, 3) := by decide +kernel
theorem xd_111_72 : decode prog_5_method_1_code 72 = .ok (.return_, 1) := by decide +kernel
theorem xd_112_0 : decode prog_5_method_2_code 0 = .ok (.aload_n 0, 1) := by decide +kernel
theorem xd_112_1 : decode prog_5_method_2_code 1 = .ok (.iconst 0, 1) := by decide +kernel
theorem xd_112_2 : decode prog_5_method_2_code 2 = .ok (.putfield 37, 3) := by decide +kernel
theorem xd_112_5 : decode prog_5_method_2_code 5 = .ok (.aload_n 0, 1) := by decide +kernel
theorem xd_112_6 : decode prog_5_method_2_code 6 = .ok (.iconst 0, 1) := by decide +kernel
theorem xd_112_7 : decode prog_5_method_2_code 7 = .ok (.putfield 41, 3) := by decide +kernel
theorem xd_112_10 : decode prog_5_method_2_code 10 = .ok (.aload_n 0, 1) := by decide +kernel
theorem xd_112_11 : decode prog_5_method_2_code 11 = .ok (.iconst 0, 1) := by decide +kernel
theorem xd_112_12 : decode prog_5_method_2_code 12 = .ok (.putfield 44, 3) := by decide +kernel
theorem xd_112_15 : decode prog_5_method_2_code 15 = .ok (.return_, 1) := by decide +kernel
theorem xd_113_0 : decode prog_5_method_3_code 0 = .ok (.iload_n 1, 1) := by decide +kernel
theorem xd_113_1 : decode prog_5_method_3_code 1 = .ok (.ifCond .lt 20, 3) := by decide +kernel
theorem xd_113_4 : decode prog_5_method_3_code 4 = .ok (.iload_n 1, 1) := by decide +kernel
theorem xd_113_5 : decode prog_5_method_3_code 5 = .ok (.aload_n 0, 1) := by decide +kernel
theorem xd_113_6 : decode prog_5_method_3_code 6 = .ok (.getfield 41, 3) := by decide +kernel
theorem xd_113_9 : decode prog_5_method_3_code 9 = .ok (.if_icmp .ge 12, 3) := by decide +kernel
theorem xd_113_12 : decode prog_5_method_3_code 12 = .ok (.aload_n 0, 1) := by decide +kernel
theorem xd_113_13 : decode prog_5_method_3_code 13 = .ok (.getfield 22, 3) := by decide +kernel
theorem xd_113_16 : decode prog_5_method_3_code 16 = .ok (.iload_n 1, 1) := by decide +kernel
theorem xd_113_17 : decode prog_5_method_3_code 17 = .ok (.iaload, 1) := by decide +kernel
theorem xd_113_18 : decode prog_5_method_3_code 18 = .ok (.goto 4, 3) := by decide +kernel
theorem xd_113_21 : decode prog_5_method_3_code 21 = .ok (.iconst (-1), 1) := by decide +kernel
theorem xd_113_22 : decode prog_5_method_3_code 22 = .ok (.ireturn, 1) := by decide +kernel
theorem xd_114_0 : decode prog_5_method_4_code 0 = .ok (.iconst 0, 1) := by decide +kernel
theorem xd_114_1 : decode prog_5_method_4_code 1 = .ok (.istore_n 2, 1) := by decide +kernel
theorem xd_114_2 : decode prog_5_method_4_code 2 = .ok (.iload_n 2, 1) := by decide +kernel
theorem xd_114_3 : decode prog_5_method_4_code 3 = .ok (.aload_n 0, 1) := by decide +kernel
theorem xd_114_4 : decode prog_5_method_4_code 4 = .ok (.getfield 41, 3) := by decide +kernel
theorem xd_114_7 : decode prog_5_method_4_code 7 = .ok (.if_icmp .ge 31, 3) := by decide +kernel
theorem xd_114_10 : decode prog_5_method_4_code 10 = .ok (.aload_n 0, 1) := by decide +kernel
theorem xd_114_11 : decode prog_5_method_4_code 11 = .ok (.getfield 9, 3) := by decide +kernel
theorem xd_114_14 : decode prog_5_method_4_code 14 = .ok (.aload_n 0, 1) := by decide +kernel
theorem xd_114_15 : decode prog_5_method_4_code 15 = .ok (.getfield 22, 3) := by decide +kernel
theorem xd_114_18 : decode prog_5_method_4_code 18 = .ok (.iload_n 2, 1) := by decide +kernel
theorem xd_114_19 : decode prog_5_method_4_code 19 = .ok (.iaload, 1) := by decide +kernel
theorem xd_114_20 : decode prog_5_method_4_code 20 = .ok (.iaload, 1) := by decide +kernel
theorem xd_114_21 : decode prog_5_method_4_code 21 = .ok (.iload_n 1, 1) := by decide +kernel
theorem xd_114_22 : decode prog_5_method_4_code 22 = .ok (.if_icmp .ne 10, 3) := by decide +kernel
theorem xd_114_25 : decode prog_5_method_4_code 25 = .ok (.aload_n 0, 1) := by decide +kernel
theorem xd_114_26 : decode prog_5_method_4_code 26 = .ok (.getfield 22, 3) := by decide +kernel
theorem xd_114_29 : decode prog_5_method_4_code 29 = .ok (.iload_n 2, 1) := by decide +kernel
theorem xd_114_30 : decode prog_5_method_4_code 30 = .ok (.iaload, 1) := by decide +kernel
theorem xd_114_31 : decode prog_5_method_4_code 31 = .ok (.ireturn, 1) := by decide +kernel
theorem xd_114_32 : decode prog_5_method_4_code 32 = .ok (.iinc 2 1, 3) := by decide +kernel
theorem xd_114_35 : decode prog_5_method_4_code 35 = .ok (.goto (-33), 3) := by decide +kernel
theorem xd_114_38 : decode prog_5_method_4_code 38 = .ok (.iconst (-1), 1) := by decide +kernel
theorem xd_114_39 : decode prog_5_method_4_code 39 = .ok (.ireturn, 1) := by decide +kernel
theorem xd_115_0 : decode prog_5_method_5_code 0 = .ok (.aload_n 0, 1) := by decide +kernel
theorem xd_115_1 : decode prog_5_method_5_code 1 = .ok (.getfield 37, 3) := by decide +kernel
theorem xd_115_4 : decode prog_5_method_5_code 4 = .ok (.bipush 40, 2) := by decide +kernel
theorem xd_115_6 : decode prog_5_method_5_code 6 = .ok (.if_icmp .lt 4, 3) := by decide +kernel
theorem xd_115_9 : decode prog_5_method_5_code 9 = .ok (.return_, 1) := by decide +kernel
theorem xd_115_10 : decode prog_5_method_5_code 10 = .ok (.aload_n 0, 1) := by decide +kernel
theorem xd_115_11 : decode prog_5_method_5_code 11 = .ok (.getfield 41, 3) := by decide +kernel
theorem xd_115_14 : decode prog_5_method_5_code 14 = .ok (.istore 4, 2) := by decide +kernel
theorem xd_115_16 : decode prog_5_method_5_code 16 = .ok (.iload 4, 2) := by decide +kernel
theorem xd_115_18 : decode prog_5_method_5_code 18 = .ok (.ifCond .le 43, 3) := by decide +kernel
theorem xd_115_21 : decode prog_5_method_5_code 21 = .ok (.aload_n 0, 1) := by decide +kernel
theorem xd_115_22 : decode prog_5_method_5_code 22 = .ok (.getfield 9, 3) := by decide +kernel
theorem xd_115_25 : decode prog_5_method_5_code 25 = .ok (.aload_n 0, 1) := by decide +kernel
theorem xd_115_26 : decode prog_5_method_5_code 26 = .ok (.getfield 22, 3) := by decide +kernel
theorem xd_115_29 : decode prog_5_method_5_code 29 = .ok (.iload 4, 2) := by decide +kernel
theorem xd_115_31 : decode prog_5_method_5_code 31 = .ok (.iconst 1, 1) := by decide +kernel
theorem xd_115_32 : decode prog_5_method_5_code 32 = .ok (.isub, 1) := by decide +kernel
theorem xd_115_33 : decode prog_5_method_5_code 33 = .ok (.iaload, 1) := by decide +kernel
theorem xd_115_34 : decode prog_5_method_5_code 34 = .ok (.iaload, 1) := by decide +kernel
theorem xd_115_35 : decode prog_5_method_5_code 35 = .ok (.iload_n 1, 1) := by decide +kernel
theorem xd_115_36 : decode prog_5_method_5_code 36 = .ok (.if_icmp .le 25, 3) := by decide +kernel
theorem xd_115_39 : decode prog_5_method_5_code 39 = .ok (.aload_n 0, 1) := by decide +kernel
theorem xd_115_40 : decode prog_5_method_5_code 40 = .ok (.getfield 22, 3) := by decide +kernel
theorem xd_115_43 : decode prog_5_method_5_code 43 = .ok (.iload 4, 2) := by decide +kernel
theorem xd_115_45 : decode prog_5_method_5_code 45 = .ok (.aload_n 0, 1) := by decide +kernel
theorem xd_115_46 : decode prog_5_method_5_code 46 = .ok (.getfield 22, 3) := by decide +kernel
theorem xd_115_49 : decode prog_5_method_5_code 49 = .ok (.iload 4, 2) := by decide +kernel
theorem xd_115_51 : decode prog_5_method_5_code 51 = .ok (.iconst 1, 1) := by decide +kernel
theorem xd_115_52 : decode prog_5_method_5_code 52 = .ok (.isub, 1) := by decide +kernel
theorem xd_115_53 : decode prog_5_method_5_code 53 = .ok (.iaload, 1) := by decide +kernel
theorem xd_115_54 : decode prog_5_method_5_code 54 = .ok (.iastore, 1) := by decide +kernel
theorem xd_115_55 : decode prog_5_method_5_code 55 = .ok (.iinc 4 (-1), 3) := by decide +kernel
theorem xd_115_58 : decode prog_5_method_5_code 58 = .ok (.goto (-42), 3) := by decide +kernel
theorem xd_115_61 : decode prog_5_method_5_code 61 = .ok (.aload_n 0, 1) := by decide +kernel
theorem xd_115_62 : decode prog_5_method_5_code 62 = .ok (.getfield 22, 3) := by decide +kernel
theorem xd_115_65 : decode prog_5_method_5_code 65 = .ok (.iload 4, 2) := by decide +kernel
theorem xd_115_67 : decode prog_5_method_5_code 67 = .ok (.aload_n 0, 1) := by decide +kernel
theorem xd_115_68 : decode prog_5_method_5_code 68 = .ok (.getfield 37, 3) := by decide +kernel
theorem xd_115_71 : decode prog_5_method_5_code 71 = .ok (.iastore, 1) := by decide +kernel
theorem xd_115_72 : decode prog_5_method_5_code 72 = .ok (.aload_n 0, 1) := by decide +kernel
theorem xd_115_73 : decode prog_5_method_5_code 73 = .ok (.getfield 9, 3) := by decide +kernel
theorem xd_115_76 : decode prog_5_method_5_code 76 = .ok (.aload_n 0, 1) := by decide +kernel
theorem xd_115_77 : decode prog_5_method_5_code 77 = .ok (.getfield 37, 3) := by decide +kernel
theorem xd_115_80 : decode prog_5_method_5_code 80 = .ok (.iload_n 1, 1) := by decide +kernel
theorem xd_115_81 : decode prog_5_method_5_code 81 = .ok (.iastore, 1) := by decide +kernel
theorem xd_115_82 : decode prog_5_method_5_code 82 = .ok (.aload_n 0, 1) := by decide +kernel
theorem xd_115_83 : decode prog_5_method_5_code 83 = .ok (.getfield 15, 3) := by decide +kernel
theorem xd_115_86 : decode prog_5_method_5_code 86 = .ok (.aload_n 0, 1) := by decide +kernel
theorem xd_115_87 : decode prog_5_method_5_code 87 = .ok (.getfield 37, 3) := by decide +kernel
theorem xd_115_90 : decode prog_5_method_5_code 90 = .ok (.lload_n 2, 1) := by decide +kernel
theorem xd_115_91 : decode prog_5_method_5_code 91 = .ok (.lastore, 1) := by decide +kernel
theorem xd_115_92 : decode prog_5_method_5_code 92 = .ok (.aload_n 0, 1) := by decide +kernel
theorem xd_115_93 : decode prog_5_method_5_code 93 = .ok (.getfield 19, 3) := by decide +kernel
theorem xd_115_96 : decode prog_5_method_5_code 96 = .ok (.aload_n 0, 1) := by decide +kernel
theorem xd_115_97 : decode prog_5_method_5_code 97 = .ok (.getfield 37, 3) := by decide +kernel
theorem xd_115_100 : decode prog_5_method_5_code 100 = .ok (.iconst 0, 1) := by decide +kernel
theorem xd_115_101 : decode prog_5_method_5_code 101 = .ok (.iastore, 1) := by decide +kernel
theorem xd_115_102 : decode prog_5_method_5_code 102 = .ok (.aload_n 0, 1) := by decide +kernel
theorem xd_115_103 : decode prog_5_method_5_code 103 = .ok (.dup, 1) := by decide +kernel
theorem xd_115_104 : decode prog_5_method_5_code 104 = .ok (.getfield 37, 3) := by decide +kernel
theorem xd_115_107 : decode prog_5_method_5_code 107 = .ok (.iconst 1, 1) := by decide +kernel
theorem xd_115_108 : decode prog_5_method_5_code 108 = .ok (.iadd, 1) := by decide +kernel
theorem xd_115_109 : decode prog_5_method_5_code 109 = .ok (.putfield 37, 3) := by decide +kernel
theorem xd_115_112 : decode prog_5_method_5_code 112 = .ok (.aload_n 0, 1) := by decide +kernel
theorem xd_115_113 : decode prog_5_method_5_code 113 = .ok (.dup, 1) := by decide +kernel
theorem xd_115_114 : decode prog_5_method_5_code 114 = .ok (.getfield 41, 3) := by decide +kernel
theorem xd_115_117 : decode prog_5_method_5_code 117 = .ok (.iconst 1, 1) := by decide +kernel
theorem xd_115_118 : decode prog_5_method_5_code 118 = .ok (.iadd, 1) := by decide +kernel
theorem xd_115_119 : decode prog_5_method_5_code 119 = .ok (.putfield 41, 3) := by decide +kernel
theorem xd_115_122 : decode prog_5_method_5_code 122 = .ok (.return_, 1) := by decide +kernel
theorem xd_116_0 : decode prog_5_method_6_code 0 = .ok (.aload_n 0, 1) := by decide +kernel
theorem xd_116_1 : decode prog_5_method_6_code 1 = .ok (.getfield 37, 3) := by decide +kernel
theorem xd_116_4 : decode prog_5_method_6_code 4 = .ok (.iconst 1, 1) := by decide +kernel
theorem xd_116_5 : decode prog_5_method_6_code 5 = .ok (.isub, 1) := by decide +kernel
theorem xd_116_6 : decode prog_5_method_6_code 6 = .ok (.istore_n 1, 1) := by decide +kernel
theorem xd_116_7 : decode prog_5_method_6_code 7 = .ok (.iload_n 1, 1) := by decide +kernel
theorem xd_116_8 : decode prog_5_method_6_code 8 = .ok (.ifCond .lt 14, 3) := by decide +kernel
theorem xd_116_11 : decode prog_5_method_6_code 11 = .ok (.aload_n 0, 1) := by decide +kernel
theorem xd_116_12 : decode prog_5_method_6_code 12 = .ok (.getfield 19, 3) := by decide +kernel
theorem xd_116_15 : decode prog_5_method_6_code 15 = .ok (.iload_n 1, 1) := by decide +kernel
theorem xd_116_16 : decode prog_5_method_6_code 16 = .ok (.iaload, 1) := by decide +kernel
theorem xd_116_17 : decode prog_5_method_6_code 17 = .ok (.bipush 8, 2) := by decide +kernel
theorem xd_116_19 : decode prog_5_method_6_code 19 = .ok (.if_icmp .lt 5, 3) := by decide +kernel
theorem xd_116_22 : decode prog_5_method_6_code 22 = .ok (.iconst (-1), 1) := by decide +kernel
theorem xd_116_23 : decode prog_5_method_6_code 23 = .ok (.ireturn, 1) := by decide +kernel
theorem xd_116_24 : decode prog_5_method_6_code 24 = .ok (.aload_n 0, 1) := by decide +kernel
theorem xd_116_25 : decode prog_5_method_6_code 25 = .ok (.getfield 19, 3) := by decide +kernel
theorem xd_116_28 : decode prog_5_method_6_code 28 = .ok (.iload_n 1, 1) := by decide +kernel
theorem xd_116_29 : decode prog_5_method_6_code 29 = .ok (.dup2, 1) := by decide +kernel
theorem xd_116_30 : decode prog_5_method_6_code 30 = .ok (.iaload, 1) := by decide +kernel
theorem xd_116_31 : decode prog_5_method_6_code 31 = .ok (.iconst 1, 1) := by decide +kernel
theorem xd_116_32 : decode prog_5_method_6_code 32 = .ok (.iadd, 1) := by decide +kernel
theorem xd_116_33 : decode prog_5_method_6_code 33 = .ok (.iastore, 1) := by decide +kernel
theorem xd_116_34 : decode prog_5_method_6_code 34 = .ok (.iload_n 1, 1) := by decide +kernel
theorem xd_116_35 : decode prog_5_method_6_code 35 = .ok (.bipush 8, 2) := by decide +kernel
theorem xd_116_37 : decode prog_5_method_6_code 37 = .ok (.imul, 1) := by decide +kernel
theorem xd_116_38 : decode prog_5_method_6_code 38 = .ok (.aload_n 0, 1) := by decide +kernel
theorem xd_116_39 : decode prog_5_method_6_code 39 = .ok (.getfield 19, 3) := by decide +kernel
theorem xd_116_42 : decode prog_5_method_6_code 42 = .ok (.iload_n 1, 1) := by decide +kernel
theorem xd_116_43 : decode prog_5_method_6_code 43 = .ok (.iaload, 1) := by decide +kernel
theorem xd_116_44 : decode prog_5_method_6_code 44 = .ok (.iadd, 1) := by decide +kernel
theorem xd_116_45 : decode prog_5_method_6_code 45 = .ok (.iconst 1, 1) := by decide +kernel
theorem xd_116_46 : decode prog_5_method_6_code 46 = .ok (.isub, 1) := by decide +kernel
theorem xd_116_47 : decode prog_5_method_6_code 47 = .ok (.ireturn, 1) := by decide +kernel
theorem xd_117_0 : decode prog_5_method_7_code 0 = .ok (.aload_n 0, 1) := by decide +kernel
theorem xd_117_1 : decode prog_5_method_7_code 1 = .ok (.getfield 25, 3) := by decide +kernel
theorem xd_117_4 : decode prog_5_method_7_code 4 = .ok (.iload_n 1, 1) := by decide +kernel
theorem xd_117_5 : decode prog_5_method_7_code 5 = .ok (.iload_n 2, 1) := by decide +kernel
theorem xd_117_6 : decode prog_5_method_7_code 6 = .ok (.iastore, 1) := by decide +kernel
theorem xd_117_7 : decode prog_5_method_7_code 7 = .ok (.aload_n 0, 1) := by decide +kernel
theorem xd_117_8 : decode prog_5_method_7_code 8 = .ok (.getfield 28, 3) := by decide +kernel
theorem xd_117_11 : decode prog_5_method_7_code 11 = .ok (.iload_n 1, 1) := by decide +kernel
theorem xd_117_12 : decode prog_5_method_7_code 12 = .ok (.iload_n 3, 1) := by decide +kernel
theorem xd_117_13 : decode prog_5_method_7_code 13 = .ok (.iastore, 1) := by decide +kernel
theorem xd_117_14 : decode prog_5_method_7_code 14 = .ok (.aload_n 0, 1) := by decide +kernel
theorem xd_117_15 : decode prog_5_method_7_code 15 = .ok (.getfield 31, 3) := by decide +kernel
theorem xd_117_18 : decode prog_5_method_7_code 18 = .ok (.iload_n 1, 1) := by decide +kernel
theorem xd_117_19 : decode prog_5_method_7_code 19 = .ok (.aload_n 0, 1) := by decide +kernel
theorem xd_117_20 : decode prog_5_method_7_code 20 = .ok (.getfield 44, 3) := by decide +kernel
theorem xd_117_23 : decode prog_5_method_7_code 23 = .ok (.iastore, 1) := by decide +kernel
theorem xd_117_24 : decode prog_5_method_7_code 24 = .ok (.return_, 1) := by decide +kernel
theorem xd_118_0 : decode prog_5_method_8_code 0 = .ok (.aload_n 0, 1) := by decide +kernel
theorem xd_118_1 : decode prog_5_method_8_code 1 = .ok (.getfield 44, 3) := by decide +kernel
theorem xd_118_4 : decode prog_5_method_8_code 4 = .ok (.aload_n 0, 1) := by decide +kernel
theorem xd_118_5 : decode prog_5_method_8_code 5 = .ok (.getfield 34, 3) := by decide +kernel
theorem xd_118_8 : decode prog_5_method_8_code 8 = .ok (.arraylength, 1) := by decide +kernel
theorem xd_118_9 : decode prog_5_method_8_code 9 = .ok (.if_icmp .ge 33, 3) := by decide +kernel
theorem xd_118_12 : decode prog_5_method_8_code 12 = .ok (.aload_n 0, 1) := by decide +kernel
theorem xd_118_13 : decode prog_5_method_8_code 13 = .ok (.getfield 34, 3) := by decide +kernel
theorem xd_118_16 : decode prog_5_method_8_code 16 = .ok (.aload_n 0, 1) := by decide +kernel
theorem xd_118_17 : decode prog_5_method_8_code 17 = .ok (.getfield 44, 3) := by decide +kernel
theorem xd_118_20 : decode prog_5_method_8_code 20 = .ok (.iload_n 2, 1) := by decide +kernel
theorem xd_118_21 : decode prog_5_method_8_code 21 = .ok (.iastore, 1) := by decide +kernel
theorem xd_118_22 : decode prog_5_method_8_code 22 = .ok (.aload_n 0, 1) := by decide +kernel
theorem xd_118_23 : decode prog_5_method_8_code 23 = .ok (.dup, 1) := by decide +kernel
theorem xd_118_24 : decode prog_5_method_8_code 24 = .ok (.getfield 44, 3) := by decide +kernel
theorem xd_118_27 : decode prog_5_method_8_code 27 = .ok (.iconst 1, 1) := by decide +kernel
theorem xd_118_28 : decode prog_5_method_8_code 28 = .ok (.iadd, 1) := by decide +kernel
theorem xd_118_29 : decode prog_5_method_8_code 29 = .ok (.putfield 44, 3) := by decide +kernel
theorem xd_118_32 : decode prog_5_method_8_code 32 = .ok (.aload_n 0, 1) := by decide +kernel
theorem xd_118_33 : decode prog_5_method_8_code 33 = .ok (.getfield 28, 3) := by decide +kernel
theorem xd_118_36 : decode prog_5_method_8_code 36 = .ok (.iload_n 1, 1) := by decide +kernel
theorem xd_118_37 : decode prog_5_method_8_code 37 = .ok (.dup2, 1) := by decide +kernel
theorem xd_118_38 : decode prog_5_method_8_code 38 = .ok (.iaload, 1) := by decide +kernel
theorem xd_118_39 : decode prog_5_method_8_code 39 = .ok (.iconst 1, 1) := by decide +kernel
theorem xd_118_40 : decode prog_5_method_8_code 40 = .ok (.iadd, 1) := by decide +kernel
theorem xd_118_41 : decode prog_5_method_8_code 41 = .ok (.iastore, 1) := by decide +kernel
theorem xd_118_42 : decode prog_5_method_8_code 42 = .ok (.return_, 1) := by decide +kernel
theorem xd_119_0 : decode prog_5_method_9_code 0 = .ok (.aload_n 0, 1) := by decide +kernel
theorem xd_119_1 : decode prog_5_method_9_code 1 = .ok (.getfield 25, 3) := by decide +kernel
theorem xd_119_4 : decode prog_5_method_9_code 4 = .ok (.iload_n 1, 1) := by decide +kernel
theorem xd_119_5 : decode prog_5_method_9_code 5 = .ok (.iaload, 1) := by decide +kernel
theorem xd_119_6 : decode prog_5_method_9_code 6 = .ok (.istore_n 2, 1) := by decide +kernel
theorem xd_119_7 : decode prog_5_method_9_code 7 = .ok (.iload_n 2, 1) := by decide +kernel
theorem xd_119_8 : decode prog_5_method_9_code 8 = .ok (.ifCond .eq 14, 3) := by decide +kernel
theorem xd_119_11 : decode prog_5_method_9_code 11 = .ok (.iload_n 2, 1) := by decide +kernel
theorem xd_119_12 : decode prog_5_method_9_code 12 = .ok (.iconst 2, 1) := by decide +kernel
theorem xd_119_13 : decode prog_5_method_9_code 13 = .ok (.if_icmp .eq 9, 3) := by decide +kernel
theorem xd_119_16 : decode prog_5_method_9_code 16 = .ok (.iload_n 2, 1) := by decide +kernel
theorem xd_119_17 : decode prog_5_method_9_code 17 = .ok (.bipush 6, 2) := by decide +kernel
theorem xd_119_19 : decode prog_5_method_9_code 19 = .ok (.if_icmp .ne 7, 3) := by decide +kernel
theorem xd_119_22 : decode prog_5_method_9_code 22 = .ok (.iconst 0, 1) := by decide +kernel
theorem xd_119_23 : decode prog_5_method_9_code 23 = .ok (.goto 9, 3) := by decide +kernel
theorem xd_119_26 : decode prog_5_method_9_code 26 = .ok (.aload_n 0, 1) := by decide +kernel
theorem xd_119_27 : decode prog_5_method_9_code 27 = .ok (.getfield 28, 3) := by decide +kernel
theorem xd_119_30 : decode prog_5_method_9_code 30 = .ok (.iload_n 1, 1) := by decide +kernel
theorem xd_119_31 : decode prog_5_method_9_code 31 = .ok (.iaload, 1) := by decide +kernel
theorem xd_119_32 : decode prog_5_method_9_code 32 = .ok (.ireturn, 1) := by decide +kernel
theorem xd_120_0 : decode prog_5_method_10_code 0 = .ok (.aload_n 0, 1) := by decide +kernel
theorem xd_120_1 : decode prog_5_method_10_code 1 = .ok (.getfield 31, 3) := by decide +kernel
theorem xd_120_4 : decode prog_5_method_10_code 4 = .ok (.iload_n 1, 1) := by decide +kernel
theorem xd_120_5 : decode prog_5_method_10_code 5 = .ok (.iaload, 1) := by decide +kernel
theorem xd_120_6 : decode prog_5_method_10_code 6 = .ok (.iload_n 2, 1) := by decide +kernel
theorem xd_120_7 : decode prog_5_method_10_code 7 = .ok (.iadd, 1) := by decide +kernel
theorem xd_120_8 : decode prog_5_method_10_code 8 = .ok (.istore_n 3, 1) := by decide +kernel
theorem xd_120_9 : decode prog_5_method_10_code 9 = .ok (.iload_n 3, 1) := by decide +kernel
theorem xd_120_10 : decode prog_5_method_10_code 10 = .ok (.ifCond .lt 20, 3) := by decide +kernel
theorem xd_120_13 : decode prog_5_method_10_code 13 = .ok (.iload_n 3, 1) := by decide +kernel
theorem xd_120_14 : decode prog_5_method_10_code 14 = .ok (.aload_n 0, 1) := by decide +kernel
theorem xd_120_15 : decode prog_5_method_10_code 15 = .ok (.getfield 44, 3) := by decide +kernel
theorem xd_120_18 : decode prog_5_method_10_code 18 = .ok (.if_icmp .ge 12, 3) := by decide +kernel
theorem xd_120_21 : decode prog_5_method_10_code 21 = .ok (.aload_n 0, 1) := by decide +kernel
theorem xd_120_22 : decode prog_5_method_10_code 22 = .ok (.getfield 34, 3) := by decide +kernel
theorem xd_120_25 : decode prog_5_method_10_code 25 = .ok (.iload_n 3, 1) := by decide +kernel
theorem xd_120_26 : decode prog_5_method_10_code 26 = .ok (.iaload, 1) := by decide +kernel
theorem xd_120_27 : decode prog_5_method_10_code 27 = .ok (.goto 4, 3) := by decide +kernel
theorem xd_120_30 : decode prog_5_method_10_code 30 = .ok (.iconst 0, 1) := by decide +kernel
theorem xd_120_31 : decode prog_5_method_10_code 31 = .ok (.ireturn, 1) := by decide +kernel
theorem xd_121_0 : decode prog_5_method_11_code 0 = .ok (.iconst 0, 1) := by decide +kernel
theorem xd_121_1 : decode prog_5_method_11_code 1 = .ok (.istore_n 2, 1) := by decide +kernel
theorem xd_121_2 : decode prog_5_method_11_code 2 = .ok (.iconst 0, 1) := by decide +kernel
theorem xd_121_3 : decode prog_5_method_11_code 3 = .ok (.istore_n 3, 1) := by decide +kernel
theorem xd_121_4 : decode prog_5_method_11_code 4 = .ok (.iload_n 3, 1) := by decide +kernel
theorem xd_121_5 : decode prog_5_method_11_code 5 = .ok (.aload_n 0, 1) := by decide +kernel
theorem xd_121_6 : decode prog_5_method_11_code 6 = .ok (.getfield 19, 3) := by decide +kernel
theorem xd_121_9 : decode prog_5_method_11_code 9 = .ok (.iload_n 1, 1) := by decide +kernel
theorem xd_121_10 : decode prog_5_method_11_code 10 = .ok (.iaload, 1) := by decide +kernel
theorem xd_121_11 : decode prog_5_method_11_code 11 = .ok (.if_icmp .ge 55, 3) := by decide +kernel
theorem xd_121_14 : decode prog_5_method_11_code 14 = .ok (.iload_n 1, 1) := by decide +kernel
theorem xd_121_15 : decode prog_5_method_11_code 15 = .ok (.bipush 8, 2) := by decide +kernel
theorem xd_121_17 : decode prog_5_method_11_code 17 = .ok (.imul, 1) := by decide +kernel
theorem xd_121_18 : decode prog_5_method_11_code 18 = .ok (.iload_n 3, 1) := by decide +kernel
theorem xd_121_19 : decode prog_5_method_11_code 19 = .ok (.iadd, 1) := by decide +kernel
theorem xd_121_20 : decode prog_5_method_11_code 20 = .ok (.istore 4, 2) := by decide +kernel
theorem xd_121_22 : decode prog_5_method_11_code 22 = .ok (.aload_n 0, 1) := by decide +kernel
theorem xd_121_23 : decode prog_5_method_11_code 23 = .ok (.getfield 25, 3) := by decide +kernel
theorem xd_121_26 : decode prog_5_method_11_code 26 = .ok (.iload 4, 2) := by decide +kernel
theorem xd_121_28 : decode prog_5_method_11_code 28 = .ok (.iaload, 1) := by decide +kernel
theorem xd_121_29 : decode prog_5_method_11_code 29 = .ok (.iconst 2, 1) := by decide +kernel
theorem xd_121_30 : decode prog_5_method_11_code 30 = .ok (.if_icmp .ne 9, 3) := by decide +kernel
theorem xd_121_33 : decode prog_5_method_11_code 33 = .ok (.iinc 2 1, 3) := by decide +kernel
theorem xd_121_36 : decode prog_5_method_11_code 36 = .ok (.goto 24, 3) := by decide +kernel
theorem xd_121_39 : decode prog_5_method_11_code 39 = .ok (.aload_n 0, 1) := by decide +kernel
theorem xd_121_40 : decode prog_5_method_11_code 40 = .ok (.getfield 25, 3) := by decide +kernel
theorem xd_121_43 : decode prog_5_method_11_code 43 = .ok (.iload 4, 2) := by decide +kernel
theorem xd_121_45 : decode prog_5_method_11_code 45 = .ok (.iaload, 1) := by decide +kernel
theorem xd_121_46 : decode prog_5_method_11_code 46 = .ok (.iconst 4, 1) := by decide +kernel
theorem xd_121_47 : decode prog_5_method_11_code 47 = .ok (.if_icmp .ne 13, 3) := by decide +kernel
theorem xd_121_50 : decode prog_5_method_11_code 50 = .ok (.iload_n 2, 1) := by decide +kernel
theorem xd_121_51 : decode prog_5_method_11_code 51 = .ok (.aload_n 0, 1) := by decide +kernel
theorem xd_121_52 : decode prog_5_method_11_code 52 = .ok (.getfield 28, 3) := by decide +kernel
theorem xd_121_55 : decode prog_5_method_11_code 55 = .ok (.iload 4, 2) := by decide +kernel
theorem xd_121_57 : decode prog_5_method_11_code 57 = .ok (.iaload, 1) := by decide +kernel
theorem xd_121_58 : decode prog_5_method_11_code 58 = .ok (.iadd, 1) := by decide +kernel
theorem xd_121_59 : decode prog_5_method_11_code 59 = .ok (.istore_n 2, 1) := by decide +kernel
theorem xd_121_60 : decode prog_5_method_11_code 60 = .ok (.iinc 3 1, 3) := by decide +kernel
theorem xd_121_63 : decode prog_5_method_11_code 63 = .ok (.goto (-59), 3) := by decide +kernel
theorem xd_121_66 : decode prog_5_method_11_code 66 = .ok (.iload_n 2, 1) := by decide +kernel
theorem xd_121_67 : decode prog_5_method_11_code 67 = .ok (.ireturn, 1) := by decide +kernel
theorem xd_122_0 : decode prog_5_method_12_code 0 = .ok (.iconst 0, 1) := by decide +kernel
theorem xd_122_1 : decode prog_5_method_12_code 1 = .ok (.istore_n 1, 1) := by decide +kernel
theorem xd_122_2 : decode prog_5_method_12_code 2 = .ok (.iload_n 1, 1) := by decide +kernel
theorem xd_122_3 : decode prog_5_method_12_code 3 = .ok (.aload_n 0, 1) := by decide +kernel
theorem xd_122_4 : decode prog_5_method_12_code 4 = .ok (.getfield 37, 3) := by decide +kernel
theorem xd_122_7 : decode prog_5_method_12_code 7 = .ok (.if_icmp .ge 47, 3) := by decide +kernel
theorem xd_122_10 : decode prog_5_method_12_code 10 = .ok (.iconst 0, 1) := by decide +kernel
theorem xd_122_11 : decode prog_5_method_12_code 11 = .ok (.istore_n 2, 1) := by decide +kernel
theorem xd_122_12 : decode prog_5_method_12_code 12 = .ok (.iload_n 2, 1) := by decide +kernel
theorem xd_122_13 : decode prog_5_method_12_code 13 = .ok (.aload_n 0, 1) := by decide +kernel
theorem xd_122_14 : decode prog_5_method_12_code 14 = .ok (.getfield 19, 3) := by decide +kernel
theorem xd_122_17 : decode prog_5_method_12_code 17 = .ok (.iload_n 1, 1) := by decide +kernel
theorem xd_122_18 : decode prog_5_method_12_code 18 = .ok (.iaload, 1) := by decide +kernel
theorem xd_122_19 : decode prog_5_method_12_code 19 = .ok (.if_icmp .ge 29, 3) := by decide +kernel
theorem xd_122_22 : decode prog_5_method_12_code 22 = .ok (.aload_n 0, 1) := by decide +kernel
theorem xd_122_23 : decode prog_5_method_12_code 23 = .ok (.iload_n 1, 1) := by decide +kernel
theorem xd_122_24 : decode prog_5_method_12_code 24 = .ok (.bipush 8, 2) := by decide +kernel
theorem xd_122_26 : decode prog_5_method_12_code 26 = .ok (.imul, 1) := by decide +kernel
theorem xd_122_27 : decode prog_5_method_12_code 27 = .ok (.iload_n 2, 1) := by decide +kernel
theorem xd_122_28 : decode prog_5_method_12_code 28 = .ok (.iadd, 1) := by decide +kernel
theorem xd_122_29 : decode prog_5_method_12_code 29 = .ok (.invokevirtual 47, 3) := by decide +kernel
theorem xd_122_32 : decode prog_5_method_12_code 32 = .ok (.ifCond .eq 10, 3) := by decide +kernel
theorem xd_122_35 : decode prog_5_method_12_code 35 = .ok (.aload_n 0, 1) := by decide +kernel
theorem xd_122_36 : decode prog_5_method_12_code 36 = .ok (.getfield 9, 3) := by decide +kernel
theorem xd_122_39 : decode prog_5_method_12_code 39 = .ok (.iload_n 1, 1) := by decide +kernel
theorem xd_122_40 : decode prog_5_method_12_code 40 = .ok (.iaload, 1) := by decide +kernel
theorem xd_122_41 : decode prog_5_method_12_code 41 = .ok (.ireturn, 1) := by decide +kernel
theorem xd_122_42 : decode prog_5_method_12_code 42 = .ok (.iinc 2 1, 3) := by decide +kernel
theorem xd_122_45 : decode prog_5_method_12_code 45 = .ok (.goto (-33), 3) := by decide +kernel
theorem xd_122_48 : decode prog_5_method_12_code 48 = .ok (.iinc 1 1, 3) := by decide +kernel
theorem xd_122_51 : decode prog_5_method_12_code 51 = .ok (.goto (-49), 3) := by decide +kernel
theorem xd_122_54 : decode prog_5_method_12_code 54 = .ok (.iconst (-1), 1) := by decide +kernel
theorem xd_122_55 : decode prog_5_method_12_code 55 = .ok (.ireturn, 1) := by decide +kernel
theorem xd_123_0 : decode prog_5_method_13_code 0 = .ok (.aload_n 0, 1) := by decide +kernel
theorem xd_123_1 : decode prog_5_method_13_code 1 = .ok (.getfield 25, 3) := by decide +kernel
theorem xd_123_4 : decode prog_5_method_13_code 4 = .ok (.iload_n 1, 1) := by decide +kernel
theorem xd_123_5 : decode prog_5_method_13_code 5 = .ok (.iaload, 1) := by decide +kernel
theorem xd_123_6 : decode prog_5_method_13_code 6 = .ok (.iconst 2, 1) := by decide +kernel
theorem xd_123_7 : decode prog_5_method_13_code 7 = .ok (.if_icmp .ne 23, 3) := by decide +kernel
theorem xd_123_10 : decode prog_5_method_13_code 10 = .ok (.aload_n 0, 1) := by decide +kernel
theorem xd_123_11 : decode prog_5_method_13_code 11 = .ok (.aload_n 0, 1) := by decide +kernel
theorem xd_123_12 : decode prog_5_method_13_code 12 = .ok (.getfield 28, 3) := by decide +kernel
theorem xd_123_15 : decode prog_5_method_13_code 15 = .ok (.iload_n 1, 1) := by decide +kernel
theorem xd_123_16 : decode prog_5_method_13_code 16 = .ok (.iaload, 1) := by decide +kernel
theorem xd_123_17 : decode prog_5_method_13_code 17 = .ok (.invokevirtual 51, 3) := by decide +kernel
theorem xd_123_20 : decode prog_5_method_13_code 20 = .ok (.iconst (-1), 1) := by decide +kernel
theorem xd_123_21 : decode prog_5_method_13_code 21 = .ok (.if_icmp .ne 7, 3) := by decide +kernel
theorem xd_123_24 : decode prog_5_method_13_code 24 = .ok (.iconst 1, 1) := by decide +kernel
theorem xd_123_25 : decode prog_5_method_13_code 25 = .ok (.goto 4, 3) := by decide +kernel
theorem xd_123_28 : decode prog_5_method_13_code 28 = .ok (.iconst 0, 1) := by decide +kernel
theorem xd_123_29 : decode prog_5_method_13_code 29 = .ok (.ireturn, 1) := by decide +kernel
theorem xd_123_30 : decode prog_5_method_13_code 30 = .ok (.aload_n 0, 1) := by decide +kernel
theorem xd_123_31 : decode prog_5_method_13_code 31 = .ok (.getfield 25, 3) := by decide +kernel
theorem xd_123_34 : decode prog_5_method_13_code 34 = .ok (.iload_n 1, 1) := by decide +kernel
theorem xd_123_35 : decode prog_5_method_13_code 35 = .ok (.iaload, 1) := by decide +kernel
theorem xd_123_36 : decode prog_5_method_13_code 36 = .ok (.iconst 4, 1) := by decide +kernel
theorem xd_123_37 : decode prog_5_method_13_code 37 = .ok (.if_icmp .ne 37, 3) := by decide +kernel
theorem xd_123_40 : decode prog_5_method_13_code 40 = .ok (.iconst 0, 1) := by decide +kernel
theorem xd_123_41 : decode prog_5_method_13_code 41 = .ok (.istore_n 2, 1) := by decide +kernel
theorem xd_123_42 : decode prog_5_method_13_code 42 = .ok (.iload_n 2, 1) := by decide +kernel
theorem xd_123_43 : decode prog_5_method_13_code 43 = .ok (.aload_n 0, 1) := by decide +kernel
theorem xd_123_44 : decode prog_5_method_13_code 44 = .ok (.getfield 28, 3) := by decide +kernel
theorem xd_123_47 : decode prog_5_method_13_code 47 = .ok (.iload_n 1, 1) := by decide +kernel
theorem xd_123_48 : decode prog_5_method_13_code 48 = .ok (.iaload, 1) := by decide +kernel
theorem xd_123_49 : decode prog_5_method_13_code 49 = .ok (.if_icmp .ge 25, 3) := by decide +kernel
theorem xd_123_52 : decode prog_5_method_13_code 52 = .ok (.aload_n 0, 1) := by decide +kernel
theorem xd_123_53 : decode prog_5_method_13_code 53 = .ok (.aload_n 0, 1) := by decide +kernel
theorem xd_123_54 : decode prog_5_method_13_code 54 = .ok (.iload_n 1, 1) := by decide +kernel
theorem xd_123_55 : decode prog_5_method_13_code 55 = .ok (.iload_n 2, 1) := by decide +kernel
theorem xd_123_56 : decode prog_5_method_13_code 56 = .ok (.invokevirtual 55, 3) := by decide +kernel
theorem xd_123_59 : decode prog_5_method_13_code 59 = .ok (.invokevirtual 51, 3) := by decide +kernel
theorem xd_123_62 : decode prog_5_method_13_code 62 = .ok (.iconst (-1), 1) := by decide +kernel
theorem xd_123_63 : decode prog_5_method_13_code 63 = .ok (.if_icmp .ne 5, 3) := by decide +kernel
theorem xd_123_66 : decode prog_5_method_13_code 66 = .ok (.iconst 1, 1) := by decide +kernel
theorem xd_123_67 : decode prog_5_method_13_code 67 = .ok (.ireturn, 1) := by decide +kernel
theorem xd_123_68 : decode prog_5_method_13_code 68 = .ok (.iinc 2 1, 3) := by decide +kernel
theorem xd_123_71 : decode prog_5_method_13_code 71 = .ok (.goto (-29), 3) := by decide +kernel
theorem xd_123_74 : decode prog_5_method_13_code 74 = .ok (.iconst 0, 1) := by decide +kernel
theorem xd_123_75 : decode prog_5_method_13_code 75 = .ok (.ireturn, 1) := by decide +kernel
theorem xd_124_0 : decode prog_5_method_14_code 0 = .ok (.aload_n 0, 1) := by decide +kernel
theorem xd_124_1 : decode prog_5_method_14_code 1 = .ok (.getfield 19, 3) := by decide +kernel
theorem xd_124_4 : decode prog_5_method_14_code 4 = .ok (.iload_n 1, 1) := by decide +kernel
theorem xd_124_5 : decode prog_5_method_14_code 5 = .ok (.iaload, 1) := by decide +kernel
theorem xd_124_6 : decode prog_5_method_14_code 6 = .ok (.iconst 3, 1) := by decide +kernel
theorem xd_124_7 : decode prog_5_method_14_code 7 = .ok (.if_icmp .gt 5, 3) := by decide +kernel
theorem xd_124_10 : decode prog_5_method_14_code 10 = .ok (.iconst 0, 1) := by decide +kernel
theorem xd_124_11 : decode prog_5_method_14_code 11 = .ok (.ireturn, 1) := by decide +kernel
theorem xd_124_12 : decode prog_5_method_14_code 12 = .ok (.iload_n 1, 1) := by decide +kernel
theorem xd_124_13 : decode prog_5_method_14_code 13 = .ok (.bipush 8, 2) := by decide +kernel
theorem xd_124_15 : decode prog_5_method_14_code 15 = .ok (.imul, 1) := by decide +kernel
theorem xd_124_16 : decode prog_5_method_14_code 16 = .ok (.istore_n 2, 1) := by decide +kernel
theorem xd_124_17 : decode prog_5_method_14_code 17 = .ok (.iconst 0, 1) := by decide +kernel
theorem xd_124_18 : decode prog_5_method_14_code 18 = .ok (.istore_n 3, 1) := by decide +kernel
theorem xd_124_19 : decode prog_5_method_14_code 19 = .ok (.iload_n 3, 1) := by decide +kernel
theorem xd_124_20 : decode prog_5_method_14_code 20 = .ok (.iconst 3, 1) := by decide +kernel
theorem xd_124_21 : decode prog_5_method_14_code 21 = .ok (.if_icmp .ge 22, 3) := by decide +kernel
theorem xd_124_24 : decode prog_5_method_14_code 24 = .ok (.aload_n 0, 1) := by decide +kernel
theorem xd_124_25 : decode prog_5_method_14_code 25 = .ok (.getfield 25, 3) := by decide +kernel
theorem xd_124_28 : decode prog_5_method_14_code 28 = .ok (.iload_n 2, 1) := by decide +kernel
theorem xd_124_29 : decode prog_5_method_14_code 29 = .ok (.iload_n 3, 1) := by decide +kernel
theorem xd_124_30 : decode prog_5_method_14_code 30 = .ok (.iadd, 1) := by decide +kernel
theorem xd_124_31 : decode prog_5_method_14_code 31 = .ok (.iaload, 1) := by decide +kernel
theorem xd_124_32 : decode prog_5_method_14_code 32 = .ok (.ifCond .eq 5, 3) := by decide +kernel
theorem xd_124_35 : decode prog_5_method_14_code 35 = .ok (.iconst 0, 1) := by decide +kernel
theorem xd_124_36 : decode prog_5_method_14_code 36 = .ok (.ireturn, 1) := by decide +kernel
theorem xd_124_37 : decode prog_5_method_14_code 37 = .ok (.iinc 3 1, 3) := by decide +kernel
theorem xd_124_40 : decode prog_5_method_14_code 40 = .ok (.goto (-21), 3) := by decide +kernel
theorem xd_124_43 : decode prog_5_method_14_code 43 = .ok (.aload_n 0, 1) := by decide +kernel
theorem xd_124_44 : decode prog_5_method_14_code 44 = .ok (.getfield 25, 3) := by decide +kernel
theorem xd_124_47 : decode prog_5_method_14_code 47 = .ok (.iload_n 2, 1) := by decide +kernel
theorem xd_124_48 : decode prog_5_method_14_code 48 = .ok (.iconst 3, 1) := by decide +kernel
theorem xd_124_49 : decode prog_5_method_14_code 49 = .ok (.iadd, 1) := by decide +kernel
theorem xd_124_50 : decode prog_5_method_14_code 50 = .ok (.iaload, 1) := by decide +kernel
theorem xd_124_51 : decode prog_5_method_14_code 51 = .ok (.iconst 2, 1) := by decide +kernel
theorem xd_124_52 : decode prog_5_method_14_code 52 = .ok (.if_icmp .eq 16, 3) := by decide +kernel
theorem xd_124_55 : decode prog_5_method_14_code 55 = .ok (.aload_n 0, 1) := by decide +kernel
theorem xd_124_56 : decode prog_5_method_14_code 56 = .ok (.getfield 25, 3) := by decide +kernel
theorem xd_124_59 : decode prog_5_method_14_code 59 = .ok (.iload_n 2, 1) := by decide +kernel
theorem xd_124_60 : decode prog_5_method_14_code 60 = .ok (.iconst 3, 1) := by decide +kernel
theorem xd_124_61 : decode prog_5_method_14_code 61 = .ok (.iadd, 1) := by decide +kernel
theorem xd_124_62 : decode prog_5_method_14_code 62 = .ok (.iaload, 1) := by decide +kernel
theorem xd_124_63 : decode prog_5_method_14_code 63 = .ok (.bipush 6, 2) := by decide +kernel
theorem xd_124_65 : decode prog_5_method_14_code 65 = .ok (.if_icmp .ne 7, 3) := by decide +kernel
theorem xd_124_68 : decode prog_5_method_14_code 68 = .ok (.iconst 1, 1) := by decide +kernel
theorem xd_124_69 : decode prog_5_method_14_code 69 = .ok (.goto 4, 3) := by decide +kernel
theorem xd_124_72 : decode prog_5_method_14_code 72 = .ok (.iconst 0, 1) := by decide +kernel
theorem xd_124_73 : decode prog_5_method_14_code 73 = .ok (.ireturn, 1) := by decide +kernel
theorem xd_125_0 : decode prog_5_method_15_code 0 = .ok (.iload_n 1, 1) := by decide +kernel
theorem xd_125_1 : decode prog_5_method_15_code 1 = .ok (.bipush 8, 2) := by decide +kernel
theorem xd_125_3 : decode prog_5_method_15_code 3 = .ok (.imul, 1) := by decide +kernel
theorem xd_125_4 : decode prog_5_method_15_code 4 = .ok (.iconst 3, 1) := by decide +kernel
theorem xd_125_5 : decode prog_5_method_15_code 5 = .ok (.iadd, 1) := by decide +kernel
theorem xd_125_6 : decode prog_5_method_15_code 6 = .ok (.istore_n 2, 1) := by decide +kernel
theorem xd_125_7 : decode prog_5_method_15_code 7 = .ok (.aload_n 0, 1) := by decide +kernel
theorem xd_125_8 : decode prog_5_method_15_code 8 = .ok (.getfield 25, 3) := by decide +kernel
theorem xd_125_11 : decode prog_5_method_15_code 11 = .ok (.iload_n 2, 1) := by decide +kernel
theorem xd_125_12 : decode prog_5_method_15_code 12 = .ok (.iaload, 1) := by decide +kernel
theorem xd_125_13 : decode prog_5_method_15_code 13 = .ok (.iconst 2, 1) := by decide +kernel
theorem xd_125_14 : decode prog_5_method_15_code 14 = .ok (.if_icmp .eq 5, 3) := by decide +kernel
theorem xd_125_17 : decode prog_5_method_15_code 17 = .ok (.iconst (-1), 1) := by decide +kernel
theorem xd_125_18 : decode prog_5_method_15_code 18 = .ok (.ireturn, 1) := by decide +kernel
theorem xd_125_19 : decode prog_5_method_15_code 19 = .ok (.aload_n 0, 1) := by decide +kernel
theorem xd_125_20 : decode prog_5_method_15_code 20 = .ok (.aload_n 0, 1) := by decide +kernel
theorem xd_125_21 : decode prog_5_method_15_code 21 = .ok (.getfield 28, 3) := by decide +kernel
theorem xd_125_24 : decode prog_5_method_15_code 24 = .ok (.iload_n 2, 1) := by decide +kernel
theorem xd_125_25 : decode prog_5_method_15_code 25 = .ok (.iaload, 1) := by decide +kernel
theorem xd_125_26 : decode prog_5_method_15_code 26 = .ok (.invokevirtual 51, 3) := by decide +kernel
theorem xd_125_29 : decode prog_5_method_15_code 29 = .ok (.istore_n 3, 1) := by decide +kernel
theorem xd_125_30 : decode prog_5_method_15_code 30 = .ok (.iload_n 3, 1) := by decide +kernel
theorem xd_125_31 : decode prog_5_method_15_code 31 = .ok (.iconst (-1), 1) := by decide +kernel
theorem xd_125_32 : decode prog_5_method_15_code 32 = .ok (.if_icmp .eq 15, 3) := by decide +kernel
theorem xd_125_35 : decode prog_5_method_15_code 35 = .ok (.aload_n 0, 1) := by decide +kernel
theorem xd_125_36 : decode prog_5_method_15_code 36 = .ok (.iload_n 3, 1) := by decide +kernel
theorem xd_125_37 : decode prog_5_method_15_code 37 = .ok (.invokevirtual 59, 3) := by decide +kernel
theorem xd_125_40 : decode prog_5_method_15_code 40 = .ok (.ifCond .eq 7, 3) := by decide +kernel
theorem xd_125_43 : decode prog_5_method_15_code 43 = .ok (.iload_n 3, 1) := by decide +kernel
theorem xd_125_44 : decode prog_5_method_15_code 44 = .ok (.goto 4, 3) := by decide +kernel
theorem xd_125_47 : decode prog_5_method_15_code 47 = .ok (.iconst (-1), 1) := by decide +kernel
theorem xd_125_48 : decode prog_5_method_15_code 48 = .ok (.ireturn, 1) := by decide +kernel
theorem xd_126_0 : decode prog_5_method_16_code 0 = .ok (.aload_n 0, 1) := by decide +kernel
theorem xd_126_1 : decode prog_5_method_16_code 1 = .ok (.getfield 15, 3) := by decide +kernel
theorem xd_126_4 : decode prog_5_method_16_code 4 = .ok (.iload_n 1, 1) := by decide +kernel
theorem xd_126_5 : decode prog_5_method_16_code 5 = .ok (.laload, 1) := by decide +kernel
theorem xd_126_6 : decode prog_5_method_16_code 6 = .ok (.aload_n 2, 1) := by decide +kernel
theorem xd_126_7 : decode prog_5_method_16_code 7 = .ok (.getfield 15, 3) := by decide +kernel
theorem xd_126_10 : decode prog_5_method_16_code 10 = .ok (.iload_n 3, 1) := by decide +kernel
theorem xd_126_11 : decode prog_5_method_16_code 11 = .ok (.laload, 1) := by decide +kernel
theorem xd_126_12 : decode prog_5_method_16_code 12 = .ok (.lcmp, 1) := by decide +kernel
theorem xd_126_13 : decode prog_5_method_16_code 13 = .ok (.ifCond .ne 18, 3) := by decide +kernel
theorem xd_126_16 : decode prog_5_method_16_code 16 = .ok (.aload_n 0, 1) := by decide +kernel
theorem xd_126_17 : decode prog_5_method_16_code 17 = .ok (.getfield 19, 3) := by decide +kernel
theorem xd_126_20 : decode prog_5_method_16_code 20 = .ok (.iload_n 1, 1) := by decide +kernel
theorem xd_126_21 : decode prog_5_method_16_code 21 = .ok (.iaload, 1) := by decide +kernel
theorem xd_126_22 : decode prog_5_method_16_code 22 = .ok (.aload_n 2, 1) := by decide +kernel
theorem xd_126_23 : decode prog_5_method_16_code 23 = .ok (.getfield 19, 3) := by decide +kernel
theorem xd_126_26 : decode prog_5_method_16_code 26 = .ok (.iload_n 3, 1) := by decide +kernel
theorem xd_126_27 : decode prog_5_method_16_code 27 = .ok (.iaload, 1) := by decide +kernel
theorem xd_126_28 : decode prog_5_method_16_code 28 = .ok (.if_icmp .eq 5, 3) := by decide +kernel
theorem xd_126_31 : decode prog_5_method_16_code 31 = .ok (.iconst 0, 1) := by decide +kernel
theorem xd_126_32 : decode prog_5_method_16_code 32 = .ok (.ireturn, 1) := by decide +kernel
theorem xd_126_33 : decode prog_5_method_16_code 33 = .ok (.iconst 0, 1) := by decide +kernel
theorem xd_126_34 : decode prog_5_method_16_code 34 = .ok (.istore 5, 2) := by decide +kernel
theorem xd_126_36 : decode prog_5_method_16_code 36 = .ok (.iload 5, 2) := by decide +kernel
theorem xd_126_38 : decode prog_5_method_16_code 38 = .ok (.aload_n 0, 1) := by decide +kernel
theorem xd_126_39 : decode prog_5_method_16_code 39 = .ok (.getfield 19, 3) := by decide +kernel
theorem xd_126_42 : decode prog_5_method_16_code 42 = .ok (.iload_n 1, 1) := by decide +kernel
theorem xd_126_43 : decode prog_5_method_16_code 43 = .ok (.iaload, 1) := by decide +kernel
theorem xd_126_44 : decode prog_5_method_16_code 44 = .ok (.if_icmp .ge 39, 3) := by decide +kernel
theorem xd_126_47 : decode prog_5_method_16_code 47 = .ok (.iload_n 1, 1) := by decide +kernel
theorem xd_126_48 : decode prog_5_method_16_code 48 = .ok (.bipush 8, 2) := by decide +kernel
theorem xd_126_50 : decode prog_5_method_16_code 50 = .ok (.imul, 1) := by decide +kernel
theorem xd_126_51 : decode prog_5_method_16_code 51 = .ok (.iload 5, 2) := by decide +kernel
theorem xd_126_53 : decode prog_5_method_16_code 53 = .ok (.iadd, 1) := by decide +kernel
theorem xd_126_54 : decode prog_5_method_16_code 54 = .ok (.istore 6, 2) := by decide +kernel
theorem xd_126_56 : decode prog_5_method_16_code 56 = .ok (.aload_n 0, 1) := by decide +kernel
theorem xd_126_57 : decode prog_5_method_16_code 57 = .ok (.iload 6, 2) := by decide +kernel
theorem xd_126_59 : decode prog_5_method_16_code 59 = .ok (.aload_n 2, 1) := by decide +kernel
theorem xd_126_60 : decode prog_5_method_16_code 60 = .ok (.iload_n 3, 1) := by decide +kernel
theorem xd_126_61 : decode prog_5_method_16_code 61 = .ok (.bipush 8, 2) := by decide +kernel
theorem xd_126_63 : decode prog_5_method_16_code 63 = .ok (.imul, 1) := by decide +kernel
theorem xd_126_64 : decode prog_5_method_16_code 64 = .ok (.iload 5, 2) := by decide +kernel
theorem xd_126_66 : decode prog_5_method_16_code 66 = .ok (.iadd, 1) := by decide +kernel
theorem xd_126_67 : decode prog_5_method_16_code 67 = .ok (.aload 4, 2) := by decide +kernel
theorem xd_126_69 : decode prog_5_method_16_code 69 = .ok (.invokevirtual 62, 3) := by decide +kernel
theorem xd_126_72 : decode prog_5_method_16_code 72 = .ok (.ifCond .ne 5, 3) := by decide +kernel
theorem xd_126_75 : decode prog_5_method_16_code 75 = .ok (.iconst 0, 1) := by decide +kernel
theorem xd_126_76 : decode prog_5_method_16_code 76 = .ok (.ireturn, 1) := by decide +kernel
theorem xd_126_77 : decode prog_5_method_16_code 77 = .ok (.iinc 5 1, 3) := by decide +kernel
theorem xd_126_80 : decode prog_5_method_16_code 80 = .ok (.goto (-44), 3) := by decide +kernel
theorem xd_126_83 : decode prog_5_method_16_code 83 = .ok (.iconst 1, 1) := by decide +kernel
theorem xd_126_84 : decode prog_5_method_16_code 84 = .ok (.ireturn, 1) := by decide +kernel
theorem xd_127_0 : decode prog_5_method_17_code 0 = .ok (.aload_n 0, 1) := by decide +kernel
theorem xd_127_1 : decode prog_5_method_17_code 1 = .ok (.getfield 25, 3) := by decide +kernel
theorem xd_127_4 : decode prog_5_method_17_code 4 = .ok (.iload_n 1, 1) := by decide +kernel
theorem xd_127_5 : decode prog_5_method_17_code 5 = .ok (.iaload, 1) := by decide +kernel
theorem xd_127_6 : decode prog_5_method_17_code 6 = .ok (.aload_n 2, 1) := by decide +kernel
theorem xd_127_7 : decode prog_5_method_17_code 7 = .ok (.getfield 25, 3) := by decide +kernel
theorem xd_127_10 : decode prog_5_method_17_code 10 = .ok (.iload_n 3, 1) := by decide +kernel
theorem xd_127_11 : decode prog_5_method_17_code 11 = .ok (.iaload, 1) := by decide +kernel
theorem xd_127_12 : decode prog_5_method_17_code 12 = .ok (.if_icmp .eq 5, 3) := by decide +kernel
theorem xd_127_15 : decode prog_5_method_17_code 15 = .ok (.iconst 0, 1) := by decide +kernel
theorem xd_127_16 : decode prog_5_method_17_code 16 = .ok (.ireturn, 1) := by decide +kernel
theorem xd_127_17 : decode prog_5_method_17_code 17 = .ok (.aload_n 0, 1) := by decide +kernel
theorem xd_127_18 : decode prog_5_method_17_code 18 = .ok (.getfield 25, 3) := by decide +kernel
theorem xd_127_21 : decode prog_5_method_17_code 21 = .ok (.iload_n 1, 1) := by decide +kernel
theorem xd_127_22 : decode prog_5_method_17_code 22 = .ok (.iaload, 1) := by decide +kernel
theorem xd_127_23 : decode prog_5_method_17_code 23 = .ok (.iconst 2, 1) := by decide +kernel
theorem xd_127_24 : decode prog_5_method_17_code 24 = .ok (.if_icmp .ne 34, 3) := by decide +kernel
theorem xd_127_27 : decode prog_5_method_17_code 27 = .ok (.aload 4, 2) := by decide +kernel
theorem xd_127_29 : decode prog_5_method_17_code 29 = .ok (.aload_n 0, 1) := by decide +kernel
theorem xd_127_30 : decode prog_5_method_17_code 30 = .ok (.getfield 28, 3) := by decide +kernel
theorem xd_127_33 : decode prog_5_method_17_code 33 = .ok (.iload_n 1, 1) := by decide +kernel
theorem xd_127_34 : decode prog_5_method_17_code 34 = .ok (.iaload, 1) := by decide +kernel
theorem xd_127_35 : decode prog_5_method_17_code 35 = .ok (.invokevirtual 66, 3) := by decide +kernel
theorem xd_127_38 : decode prog_5_method_17_code 38 = .ok (.aload 4, 2) := by decide +kernel
theorem xd_127_40 : decode prog_5_method_17_code 40 = .ok (.aload_n 2, 1) := by decide +kernel
theorem xd_127_41 : decode prog_5_method_17_code 41 = .ok (.getfield 28, 3) := by decide +kernel
theorem xd_127_44 : decode prog_5_method_17_code 44 = .ok (.iload_n 3, 1) := by decide +kernel
theorem xd_127_45 : decode prog_5_method_17_code 45 = .ok (.iaload, 1) := by decide +kernel
theorem xd_127_46 : decode prog_5_method_17_code 46 = .ok (.invokevirtual 66, 3) := by decide +kernel
theorem xd_127_49 : decode prog_5_method_17_code 49 = .ok (.if_icmp .ne 7, 3) := by decide +kernel
theorem xd_127_52 : decode prog_5_method_17_code 52 = .ok (.iconst 1, 1) := by decide +kernel
theorem xd_127_53 : decode prog_5_method_17_code 53 = .ok (.goto 4, 3) := by decide +kernel
theorem xd_127_56 : decode prog_5_method_17_code 56 = .ok (.iconst 0, 1) := by decide +kernel
theorem xd_127_57 : decode prog_5_method_17_code 57 = .ok (.ireturn, 1) := by decide +kernel
theorem xd_127_58 : decode prog_5_method_17_code 58 = .ok (.aload_n 0, 1) := by decide +kernel
theorem xd_127_59 : decode prog_5_method_17_code 59 = .ok (.getfield 28, 3) := by decide +kernel
theorem xd_127_62 : decode prog_5_method_17_code 62 = .ok (.iload_n 1, 1) := by decide +kernel
theorem xd_127_63 : decode prog_5_method_17_code 63 = .ok (.iaload, 1) := by decide +kernel
theorem xd_127_64 : decode prog_5_method_17_code 64 = .ok (.aload_n 2, 1) := by decide +kernel
theorem xd_127_65 : decode prog_5_method_17_code 65 = .ok (.getfield 28, 3) := by decide +kernel
theorem xd_127_68 : decode prog_5_method_17_code 68 = .ok (.iload_n 3, 1) := by decide +kernel
theorem xd_127_69 : decode prog_5_method_17_code 69 = .ok (.iaload, 1) := by decide +kernel
theorem xd_127_70 : decode prog_5_method_17_code 70 = .ok (.if_icmp .eq 5, 3) := by decide +kernel
theorem xd_127_73 : decode prog_5_method_17_code 73 = .ok (.iconst 0, 1) := by decide +kernel
theorem xd_127_74 : decode prog_5_method_17_code 74 = .ok (.ireturn, 1) := by decide +kernel
theorem xd_127_75 : decode prog_5_method_17_code 75 = .ok (.aload_n 0, 1) := by decide +kernel
theorem xd_127_76 : decode prog_5_method_17_code 76 = .ok (.getfield 25, 3) := by decide +kernel
theorem xd_127_79 : decode prog_5_method_17_code 79 = .ok (.iload_n 1, 1) := by decide +kernel
theorem xd_127_80 : decode prog_5_method_17_code 80 = .ok (.iaload, 1) := by decide +kernel
theorem xd_127_81 : decode prog_5_method_17_code 81 = .ok (.iconst 4, 1) := by decide +kernel
theorem xd_127_82 : decode prog_5_method_17_code 82 = .ok (.if_icmp .ne 7, 3) := by decide +kernel
theorem xd_127_85 : decode prog_5_method_17_code 85 = .ok (.iconst 1, 1) := by decide +kernel
theorem xd_127_86 : decode prog_5_method_17_code 86 = .ok (.goto 4, 3) := by decide +kernel
theorem xd_127_89 : decode prog_5_method_17_code 89 = .ok (.iconst 0, 1) := by decide +kernel
theorem xd_127_90 : decode prog_5_method_17_code 90 = .ok (.istore 5, 2) := by decide +kernel
theorem xd_127_92 : decode prog_5_method_17_code 92 = .ok (.iconst 0, 1) := by decide +kernel
theorem xd_127_93 : decode prog_5_method_17_code 93 = .ok (.istore 6, 2) := by decide +kernel
theorem xd_127_95 : decode prog_5_method_17_code 95 = .ok (.iload 6, 2) := by decide +kernel
theorem xd_127_97 : decode prog_5_method_17_code 97 = .ok (.aload_n 0, 1) := by decide +kernel
theorem xd_127_98 : decode prog_5_method_17_code 98 = .ok (.iload_n 1, 1) := by decide +kernel
theorem xd_127_99 : decode prog_5_method_17_code 99 = .ok (.invokevirtual 71, 3) := by decide +kernel
theorem xd_127_102 : decode prog_5_method_17_code 102 = .ok (.if_icmp .ge 61, 3) := by decide +kernel
theorem xd_127_105 : decode prog_5_method_17_code 105 = .ok (.aload_n 0, 1) := by decide +kernel
theorem xd_127_106 : decode prog_5_method_17_code 106 = .ok (.iload_n 1, 1) := by decide +kernel
theorem xd_127_107 : decode prog_5_method_17_code 107 = .ok (.iload 6, 2) := by decide +kernel
theorem xd_127_109 : decode prog_5_method_17_code 109 = .ok (.invokevirtual 55, 3) := by decide +kernel
theorem xd_127_112 : decode prog_5_method_17_code 112 = .ok (.istore 7, 2) := by decide +kernel
theorem xd_127_114 : decode prog_5_method_17_code 114 = .ok (.aload_n 2, 1) := by decide +kernel
theorem xd_127_115 : decode prog_5_method_17_code 115 = .ok (.iload_n 3, 1) := by decide +kernel
theorem xd_127_116 : decode prog_5_method_17_code 116 = .ok (.iload 6, 2) := by decide +kernel
theorem xd_127_118 : decode prog_5_method_17_code 118 = .ok (.invokevirtual 55, 3) := by decide +kernel
theorem xd_127_121 : decode prog_5_method_17_code 121 = .ok (.istore 8, 2) := by decide +kernel
theorem xd_127_123 : decode prog_5_method_17_code 123 = .ok (.iload 5, 2) := by decide +kernel
theorem xd_127_125 : decode prog_5_method_17_code 125 = .ok (.ifCond .eq 23, 3) := by decide +kernel
theorem xd_127_128 : decode prog_5_method_17_code 128 = .ok (.aload 4, 2) := by decide +kernel
theorem xd_127_130 : decode prog_5_method_17_code 130 = .ok (.iload 7, 2) := by decide +kernel
theorem xd_127_132 : decode prog_5_method_17_code 132 = .ok (.invokevirtual 66, 3) := by decide +kernel
theorem xd_127_135 : decode prog_5_method_17_code 135 = .ok (.aload 4, 2) := by decide +kernel
theorem xd_127_137 : decode prog_5_method_17_code 137 = .ok (.iload 8, 2) := by decide +kernel
theorem xd_127_139 : decode prog_5_method_17_code 139 = .ok (.invokevirtual 66, 3) := by decide +kernel
theorem xd_127_142 : decode prog_5_method_17_code 142 = .ok (.if_icmp .eq 15, 3) := by decide +kernel
theorem xd_127_145 : decode prog_5_method_17_code 145 = .ok (.goto 10, 3) := by decide +kernel
theorem xd_127_148 : decode prog_5_method_17_code 148 = .ok (.iload 7, 2) := by decide +kernel
theorem xd_127_150 : decode prog_5_method_17_code 150 = .ok (.iload 8, 2) := by decide +kernel
theorem xd_127_152 : decode prog_5_method_17_code 152 = .ok (.if_icmp .eq 5, 3) := by decide +kernel
theorem xd_127_155 : decode prog_5_method_17_code 155 = .ok (.iconst 0, 1) := by decide +kernel
theorem xd_127_156 : decode prog_5_method_17_code 156 = .ok (.ireturn, 1) := by decide +kernel
theorem xd_127_157 : decode prog_5_method_17_code 157 = .ok (.iinc 6 1, 3) := by decide +kernel
theorem xd_127_160 : decode prog_5_method_17_code 160 = .ok (.goto (-65), 3) := by decide +kernel
theorem xd_127_163 : decode prog_5_method_17_code 163 = .ok (.iconst 1, 1) := by decide +kernel
theorem xd_127_164 : decode prog_5_method_17_code 164 = .ok (.ireturn, 1) := by decide +kernel
theorem xd_128_0 : decode prog_5_method_18_code 0 = .ok (.iconst 0, 1) := by decide +kernel
theorem xd_128_1 : decode prog_5_method_18_code 1 = .ok (.istore_n 2, 1) := by decide +kernel
theorem xd_128_2 : decode prog_5_method_18_code 2 = .ok (.iconst 0, 1) := by decide +kernel
theorem xd_128_3 : decode prog_5_method_18_code 3 = .ok (.istore_n 3, 1) := by decide +kernel
theorem xd_128_4 : decode prog_5_method_18_code 4 = .ok (.iload_n 3, 1) := by decide +kernel
theorem xd_128_5 : decode prog_5_method_18_code 5 = .ok (.aload_n 0, 1) := by decide +kernel
theorem xd_128_6 : decode prog_5_method_18_code 6 = .ok (.getfield 41, 3) := by decide +kernel
theorem xd_128_9 : decode prog_5_method_18_code 9 = .ok (.if_icmp .ge 56, 3) := by decide +kernel
theorem xd_128_12 : decode prog_5_method_18_code 12 = .ok (.aload_n 0, 1) := by decide +kernel
theorem xd_128_13 : decode prog_5_method_18_code 13 = .ok (.getfield 22, 3) := by decide +kernel
theorem xd_128_16 : decode prog_5_method_18_code 16 = .ok (.iload_n 3, 1) := by decide +kernel
theorem xd_128_17 : decode prog_5_method_18_code 17 = .ok (.iaload, 1) := by decide +kernel
theorem xd_128_18 : decode prog_5_method_18_code 18 = .ok (.istore 4, 2) := by decide +kernel
theorem xd_128_20 : decode prog_5_method_18_code 20 = .ok (.aload_n 1, 1) := by decide +kernel
theorem xd_128_21 : decode prog_5_method_18_code 21 = .ok (.aload_n 0, 1) := by decide +kernel
theorem xd_128_22 : decode prog_5_method_18_code 22 = .ok (.getfield 9, 3) := by decide +kernel
theorem xd_128_25 : decode prog_5_method_18_code 25 = .ok (.iload 4, 2) := by decide +kernel
theorem xd_128_27 : decode prog_5_method_18_code 27 = .ok (.iaload, 1) := by decide +kernel
theorem xd_128_28 : decode prog_5_method_18_code 28 = .ok (.invokevirtual 66, 3) := by decide +kernel
theorem xd_128_31 : decode prog_5_method_18_code 31 = .ok (.aload_n 0, 1) := by decide +kernel
theorem xd_128_32 : decode prog_5_method_18_code 32 = .ok (.getfield 9, 3) := by decide +kernel
theorem xd_128_35 : decode prog_5_method_18_code 35 = .ok (.iload 4, 2) := by decide +kernel
theorem xd_128_37 : decode prog_5_method_18_code 37 = .ok (.iaload, 1) := by decide +kernel
theorem xd_128_38 : decode prog_5_method_18_code 38 = .ok (.if_icmp .ne 21, 3) := by decide +kernel
theorem xd_128_41 : decode prog_5_method_18_code 41 = .ok (.aload_n 0, 1) := by decide +kernel
theorem xd_128_42 : decode prog_5_method_18_code 42 = .ok (.iload 4, 2) := by decide +kernel
theorem xd_128_44 : decode prog_5_method_18_code 44 = .ok (.aload_n 1, 1) := by decide +kernel
theorem xd_128_45 : decode prog_5_method_18_code 45 = .ok (.invokevirtual 74, 3) := by decide +kernel
theorem xd_128_48 : decode prog_5_method_18_code 48 = .ok (.aload_n 0, 1) := by decide +kernel
theorem xd_128_49 : decode prog_5_method_18_code 49 = .ok (.getfield 22, 3) := by decide +kernel
theorem xd_128_52 : decode prog_5_method_18_code 52 = .ok (.iload_n 2, 1) := by decide +kernel
theorem xd_128_53 : decode prog_5_method_18_code 53 = .ok (.iload 4, 2) := by decide +kernel
theorem xd_128_55 : decode prog_5_method_18_code 55 = .ok (.iastore, 1) := by decide +kernel
theorem xd_128_56 : decode prog_5_method_18_code 56 = .ok (.iinc 2 1, 3) := by decide +kernel
theorem xd_128_59 : decode prog_5_method_18_code 59 = .ok (.iinc 3 1, 3) := by decide +kernel
theorem xd_128_62 : decode prog_5_method_18_code 62 = .ok (.goto (-58), 3) := by decide +kernel
theorem xd_128_65 : decode prog_5_method_18_code 65 = .ok (.aload_n 0, 1) := by decide +kernel
theorem xd_128_66 : decode prog_5_method_18_code 66 = .ok (.iload_n 2, 1) := by decide +kernel
theorem xd_128_67 : decode prog_5_method_18_code 67 = .ok (.putfield 41, 3) := by decide +kernel
theorem xd_128_70 : decode prog_5_method_18_code 70 = .ok (.return_, 1) := by decide +kernel
theorem xd_129_0 : decode prog_5_method_19_code 0 = .ok (.iconst 0, 1) := by decide +kernel
theorem xd_129_1 : decode prog_5_method_19_code 1 = .ok (.istore_n 3, 1) := by decide +kernel
theorem xd_129_2 : decode prog_5_method_19_code 2 = .ok (.iload_n 3, 1) := by decide +kernel
theorem xd_129_3 : decode prog_5_method_19_code 3 = .ok (.aload_n 0, 1) := by decide +kernel
theorem xd_129_4 : decode prog_5_method_19_code 4 = .ok (.getfield 19, 3) := by decide +kernel
theorem xd_129_7 : decode prog_5_method_19_code 7 = .ok (.iload_n 1, 1) := by decide +kernel
theorem xd_129_8 : decode prog_5_method_19_code 8 = .ok (.iaload, 1) := by decide +kernel
theorem xd_129_9 : decode prog_5_method_19_code 9 = .ok (.if_icmp .ge 67, 3) := by decide +kernel
theorem xd_129_12 : decode prog_5_method_19_code 12 = .ok (.iload_n 1, 1) := by decide +kernel
theorem xd_129_13 : decode prog_5_method_19_code 13 = .ok (.bipush 8, 2) := by decide +kernel
theorem xd_129_15 : decode prog_5_method_19_code 15 = .ok (.imul, 1) := by decide +kernel
theorem xd_129_16 : decode prog_5_method_19_code 16 = .ok (.iload_n 3, 1) := by decide +kernel
theorem xd_129_17 : decode prog_5_method_19_code 17 = .ok (.iadd, 1) := by decide +kernel
theorem xd_129_18 : decode prog_5_method_19_code 18 = .ok (.istore 4, 2) := by decide +kernel
theorem xd_129_20 : decode prog_5_method_19_code 20 = .ok (.aload_n 0, 1) := by decide +kernel
theorem xd_129_21 : decode prog_5_method_19_code 21 = .ok (.getfield 25, 3) := by decide +kernel
theorem xd_129_24 : decode prog_5_method_19_code 24 = .ok (.iload 4, 2) := by decide +kernel
theorem xd_129_26 : decode prog_5_method_19_code 26 = .ok (.iaload, 1) := by decide +kernel
theorem xd_129_27 : decode prog_5_method_19_code 27 = .ok (.iconst 2, 1) := by decide +kernel
theorem xd_129_28 : decode prog_5_method_19_code 28 = .ok (.if_icmp .ne 24, 3) := by decide +kernel
theorem xd_129_31 : decode prog_5_method_19_code 31 = .ok (.aload_n 0, 1) := by decide +kernel
theorem xd_129_32 : decode prog_5_method_19_code 32 = .ok (.getfield 28, 3) := by decide +kernel
theorem xd_129_35 : decode prog_5_method_19_code 35 = .ok (.iload 4, 2) := by decide +kernel
theorem xd_129_37 : decode prog_5_method_19_code 37 = .ok (.aload_n 2, 1) := by decide +kernel
theorem xd_129_38 : decode prog_5_method_19_code 38 = .ok (.aload_n 0, 1) := by decide +kernel
theorem xd_129_39 : decode prog_5_method_19_code 39 = .ok (.getfield 28, 3) := by decide +kernel
theorem xd_129_42 : decode prog_5_method_19_code 42 = .ok (.iload 4, 2) := by decide +kernel
theorem xd_129_44 : decode prog_5_method_19_code 44 = .ok (.iaload, 1) := by decide +kernel
theorem xd_129_45 : decode prog_5_method_19_code 45 = .ok (.invokevirtual 66, 3) := by decide +kernel
theorem xd_129_48 : decode prog_5_method_19_code 48 = .ok (.iastore, 1) := by decide +kernel
theorem xd_129_49 : decode prog_5_method_19_code 49 = .ok (.goto 21, 3) := by decide +kernel
theorem xd_129_52 : decode prog_5_method_19_code 52 = .ok (.aload_n 0, 1) := by decide +kernel
theorem xd_129_53 : decode prog_5_method_19_code 53 = .ok (.getfield 25, 3) := by decide +kernel
theorem xd_129_56 : decode prog_5_method_19_code 56 = .ok (.iload 4, 2) := by decide +kernel
theorem xd_129_58 : decode prog_5_method_19_code 58 = .ok (.iaload, 1) := by decide +kernel
theorem xd_129_59 : decode prog_5_method_19_code 59 = .ok (.iconst 4, 1) := by decide +kernel
theorem xd_129_60 : decode prog_5_method_19_code 60 = .ok (.if_icmp .ne 10, 3) := by decide +kernel
theorem xd_129_63 : decode prog_5_method_19_code 63 = .ok (.aload_n 0, 1) := by decide +kernel
theorem xd_129_64 : decode prog_5_method_19_code 64 = .ok (.iload 4, 2) := by decide +kernel
theorem xd_129_66 : decode prog_5_method_19_code 66 = .ok (.aload_n 2, 1) := by decide +kernel
theorem xd_129_67 : decode prog_5_method_19_code 67 = .ok (.invokevirtual 78, 3) := by decide +kernel
theorem xd_129_70 : decode prog_5_method_19_code 70 = .ok (.iinc 3 1, 3) := by decide +kernel
theorem xd_129_73 : decode prog_5_method_19_code 73 = .ok (.goto (-71), 3) := by decide +kernel
theorem xd_129_76 : decode prog_5_method_19_code 76 = .ok (.return_, 1) := by decide +kernel
theorem xd_130_0 : decode prog_5_method_20_code 0 = .ok (.aload_n 0, 1) := by decide +kernel
theorem xd_130_1 : decode prog_5_method_20_code 1 = .ok (.getfield 31, 3) := by decide +kernel
theorem xd_130_4 : decode prog_5_method_20_code 4 = .ok (.iload_n 1, 1) := by decide +kernel
theorem xd_130_5 : decode prog_5_method_20_code 5 = .ok (.iaload, 1) := by decide +kernel
theorem xd_130_6 : decode prog_5_method_20_code 6 = .ok (.istore_n 3, 1) := by decide +kernel
theorem xd_130_7 : decode prog_5_method_20_code 7 = .ok (.iload_n 3, 1) := by decide +kernel
theorem xd_130_8 : decode prog_5_method_20_code 8 = .ok (.aload_n 0, 1) := by decide +kernel
theorem xd_130_9 : decode prog_5_method_20_code 9 = .ok (.getfield 31, 3) := by decide +kernel
theorem xd_130_12 : decode prog_5_method_20_code 12 = .ok (.iload_n 1, 1) := by decide +kernel
theorem xd_130_13 : decode prog_5_method_20_code 13 = .ok (.iaload, 1) := by decide +kernel
theorem xd_130_14 : decode prog_5_method_20_code 14 = .ok (.aload_n 0, 1) := by decide +kernel
theorem xd_130_15 : decode prog_5_method_20_code 15 = .ok (.getfield 28, 3) := by decide +kernel
theorem xd_130_18 : decode prog_5_method_20_code 18 = .ok (.iload_n 1, 1) := by decide +kernel
theorem xd_130_19 : decode prog_5_method_20_code 19 = .ok (.iaload, 1) := by decide +kernel
theorem xd_130_20 : decode prog_5_method_20_code 20 = .ok (.iadd, 1) := by decide +kernel
theorem xd_130_21 : decode prog_5_method_20_code 21 = .ok (.if_icmp .ge 33, 3) := by decide +kernel
theorem xd_130_24 : decode prog_5_method_20_code 24 = .ok (.iload_n 3, 1) := by decide +kernel
theorem xd_130_25 : decode prog_5_method_20_code 25 = .ok (.aload_n 0, 1) := by decide +kernel
theorem xd_130_26 : decode prog_5_method_20_code 26 = .ok (.getfield 44, 3) := by decide +kernel
theorem xd_130_29 : decode prog_5_method_20_code 29 = .ok (.if_icmp .ge 25, 3) := by decide +kernel
theorem xd_130_32 : decode prog_5_method_20_code 32 = .ok (.aload_n 0, 1) := by decide +kernel
theorem xd_130_33 : decode prog_5_method_20_code 33 = .ok (.getfield 34, 3) := by decide +kernel
theorem xd_130_36 : decode prog_5_method_20_code 36 = .ok (.iload_n 3, 1) := by decide +kernel
theorem xd_130_37 : decode prog_5_method_20_code 37 = .ok (.aload_n 2, 1) := by decide +kernel
theorem xd_130_38 : decode prog_5_method_20_code 38 = .ok (.aload_n 0, 1) := by decide +kernel
theorem xd_130_39 : decode prog_5_method_20_code 39 = .ok (.getfield 34, 3) := by decide +kernel
theorem xd_130_42 : decode prog_5_method_20_code 42 = .ok (.iload_n 3, 1) := by decide +kernel
theorem xd_130_43 : decode prog_5_method_20_code 43 = .ok (.iaload, 1) := by decide +kernel
theorem xd_130_44 : decode prog_5_method_20_code 44 = .ok (.invokevirtual 66, 3) := by decide +kernel
theorem xd_130_47 : decode prog_5_method_20_code 47 = .ok (.iastore, 1) := by decide +kernel
theorem xd_130_48 : decode prog_5_method_20_code 48 = .ok (.iinc 3 1, 3) := by decide +kernel
theorem xd_130_51 : decode prog_5_method_20_code 51 = .ok (.goto (-44), 3) := by decide +kernel
theorem xd_130_54 : decode prog_5_method_20_code 54 = .ok (.return_, 1) := by decide +kernel
theorem xd_131_0 : decode prog_5_method_21_code 0 = .ok (.aload_n 0, 1) := by decide +kernel
theorem xd_131_1 : decode prog_5_method_21_code 1 = .ok (.aload_n 1, 1) := by decide +kernel
theorem xd_131_2 : decode prog_5_method_21_code 2 = .ok (.getfield 37, 3) := by decide +kernel
theorem xd_131_5 : decode prog_5_method_21_code 5 = .ok (.putfield 37, 3) := by decide +kernel
theorem xd_131_8 : decode prog_5_method_21_code 8 = .ok (.aload_n 0, 1) := by decide +kernel
theorem xd_131_9 : decode prog_5_method_21_code 9 = .ok (.aload_n 1, 1) := by decide +kernel
theorem xd_131_10 : decode prog_5_method_21_code 10 = .ok (.getfield 41, 3) := by decide +kernel
theorem xd_131_13 : decode prog_5_method_21_code 13 = .ok (.putfield 41, 3) := by decide +kernel
theorem xd_131_16 : decode prog_5_method_21_code 16 = .ok (.aload_n 0, 1) := by decide +kernel
theorem xd_131_17 : decode prog_5_method_21_code 17 = .ok (.aload_n 1, 1) := by decide +kernel
theorem xd_131_18 : decode prog_5_method_21_code 18 = .ok (.getfield 44, 3) := by decide +kernel
theorem xd_131_21 : decode prog_5_method_21_code 21 = .ok (.putfield 44, 3) := by decide +kernel
theorem xd_131_24 : decode prog_5_method_21_code 24 = .ok (.aload_n 1, 1) := by decide +kernel
theorem xd_131_25 : decode prog_5_method_21_code 25 = .ok (.getfield 37, 3) := by decide +kernel
theorem xd_131_28 : decode prog_5_method_21_code 28 = .ok (.bipush 8, 2) := by decide +kernel
theorem xd_131_30 : decode prog_5_method_21_code 30 = .ok (.imul, 1) := by decide +kernel
theorem xd_131_31 : decode prog_5_method_21_code 31 = .ok (.istore_n 2, 1) := by decide +kernel
theorem xd_131_32 : decode prog_5_method_21_code 32 = .ok (.aload_n 1, 1) := by decide +kernel
theorem xd_131_33 : decode prog_5_method_21_code 33 = .ok (.getfield 9, 3) := by decide +kernel
theorem xd_131_36 : decode prog_5_method_21_code 36 = .ok (.iconst 0, 1) := by decide +kernel
theorem xd_131_37 : decode prog_5_method_21_code 37 = .ok (.aload_n 0, 1) := by decide +kernel
theorem xd_131_38 : decode prog_5_method_21_code 38 = .ok (.getfield 9, 3) := by decide +kernel
theorem xd_131_41 : decode prog_5_method_21_code 41 = .ok (.iconst 0, 1) := by decide +kernel
theorem xd_131_42 : decode prog_5_method_21_code 42 = .ok (.aload_n 0, 1) := by decide +kernel
theorem xd_131_43 : decode prog_5_method_21_code 43 = .ok (.getfield 37, 3) := by decide +kernel
theorem xd_131_46 : decode prog_5_method_21_code 46 = .ok (.invokestatic 81, 3) := by decide +kernel
theorem xd_131_49 : decode prog_5_method_21_code 49 = .ok (.aload_n 1, 1) := by decide +kernel
theorem xd_131_50 : decode prog_5_method_21_code 50 = .ok (.getfield 15, 3) := by decide +kernel
theorem xd_131_53 : decode prog_5_method_21_code 53 = .ok (.iconst 0, 1) := by decide +kernel
theorem xd_131_54 : decode prog_5_method_21_code 54 = .ok (.aload_n 0, 1) := by decide +kernel
theorem xd_131_55 : decode prog_5_method_21_code 55 = .ok (.getfield 15, 3) := by decide +kernel
theorem xd_131_58 : decode prog_5_method_21_code 58 = .ok (.iconst 0, 1) := by decide +kernel
theorem xd_131_59 : decode prog_5_method_21_code 59 = .ok (.aload_n 0, 1) := by decide +kernel
theorem xd_131_60 : decode prog_5_method_21_code 60 = .ok (.getfield 37, 3) := by decide +kernel
theorem xd_131_63 : decode prog_5_method_21_code 63 = .ok (.invokestatic 81, 3) := by decide +kernel
theorem xd_131_66 : decode prog_5_method_21_code 66 = .ok (.aload_n 1, 1) := by decide +kernel
theorem xd_131_67 : decode prog_5_method_21_code 67 = .ok (.getfield 19, 3) := by decide +kernel
theorem xd_131_70 : decode prog_5_method_21_code 70 = .ok (.iconst 0, 1) := by decide +kernel
theorem xd_131_71 : decode prog_5_method_21_code 71 = .ok (.aload_n 0, 1) := by decide +kernel
theorem xd_131_72 : decode prog_5_method_21_code 72 = .ok (.getfield 19, 3) := by decide +kernel
theorem xd_131_75 : decode prog_5_method_21_code 75 = .ok (.iconst 0, 1) := by decide +kernel
theorem xd_131_76 : decode prog_5_method_21_code 76 = .ok (.aload_n 0, 1) := by decide +kernel
theorem xd_131_77 : decode prog_5_method_21_code 77 = .ok (.getfield 37, 3) := by decide +kernel
theorem xd_131_80 : decode prog_5_method_21_code 80 = .ok (.invokestatic 81, 3) := by decide +kernel
theorem xd_131_83 : decode prog_5_method_21_code 83 = .ok (.aload_n 1, 1) := by decide +kernel
theorem xd_131_84 : decode prog_5_method_21_code 84 = .ok (.getfield 22, 3) := by decide +kernel
theorem xd_131_87 : decode prog_5_method_21_code 87 = .ok (.iconst 0, 1) := by decide +kernel
theorem xd_131_88 : decode prog_5_method_21_code 88 = .ok (.aload_n 0, 1) := by decide +kernel
theorem xd_131_89 : decode prog_5_method_21_code 89 = .ok (.getfield 22, 3) := by decide +kernel
theorem xd_131_92 : decode prog_5_method_21_code 92 = .ok (.iconst 0, 1) := by decide +kernel
theorem xd_131_93 : decode prog_5_method_21_code 93 = .ok (.aload_n 0, 1) := by decide +kernel
theorem xd_131_94 : decode prog_5_method_21_code 94 = .ok (.getfield 41, 3) := by decide +kernel
theorem xd_131_97 : decode prog_5_method_21_code 97 = .ok (.invokestatic 81, 3) := by decide +kernel
theorem xd_131_100 : decode prog_5_method_21_code 100 = .ok (.aload_n 1, 1) := by decide +kernel
theorem xd_131_101 : decode prog_5_method_21_code 101 = .ok (.getfield 25, 3) := by decide +kernel
theorem xd_131_104 : decode prog_5_method_21_code 104 = .ok (.iconst 0, 1) := by decide +kernel
theorem xd_131_105 : decode prog_5_method_21_code 105 = .ok (.aload_n 0, 1) := by decide +kernel
theorem xd_131_106 : decode prog_5_method_21_code 106 = .ok (.getfield 25, 3) := by decide +kernel
theorem xd_131_109 : decode prog_5_method_21_code 109 = .ok (.iconst 0, 1) := by decide +kernel
theorem xd_131_110 : decode prog_5_method_21_code 110 = .ok (.iload_n 2, 1) := by decide +kernel
theorem xd_131_111 : decode prog_5_method_21_code 111 = .ok (.invokestatic 81, 3) := by decide +kernel
theorem xd_131_114 : decode prog_5_method_21_code 114 = .ok (.aload_n 1, 1) := by decide +kernel
theorem xd_131_115 : decode prog_5_method_21_code 115 = .ok (.getfield 28, 3) := by decide +kernel
theorem xd_131_118 : decode prog_5_method_21_code 118 = .ok (.iconst 0, 1) := by decide +kernel
theorem xd_131_119 : decode prog_5_method_21_code 119 = .ok (.aload_n 0, 1) := by decide +kernel
theorem xd_131_120 : decode prog_5_method_21_code 120 = .ok (.getfield 28, 3) := by decide +kernel
theorem xd_131_123 : decode prog_5_method_21_code 123 = .ok (.iconst 0, 1) := by decide +kernel
theorem xd_131_124 : decode prog_5_method_21_code 124 = .ok (.iload_n 2, 1) := by decide +kernel
theorem xd_131_125 : decode prog_5_method_21_code 125 = .ok (.invokestatic 81, 3) := by decide +kernel
theorem xd_131_128 : decode prog_5_method_21_code 128 = .ok (.aload_n 1, 1) := by decide +kernel
theorem xd_131_129 : decode prog_5_method_21_code 129 = .ok (.getfield 31, 3) := by decide +kernel
theorem xd_131_132 : decode prog_5_method_21_code 132 = .ok (.iconst 0, 1) := by decide +kernel
theorem xd_131_133 : decode prog_5_method_21_code 133 = .ok (.aload_n 0, 1) := by decide +kernel
theorem xd_131_134 : decode prog_5_method_21_code 134 = .ok (.getfield 31, 3) := by decide +kernel
theorem xd_131_137 : decode prog_5_method_21_code 137 = .ok (.iconst 0, 1) := by decide +kernel
theorem xd_131_138 : decode prog_5_method_21_code 138 = .ok (.iload_n 2, 1) := by decide +kernel
theorem xd_131_139 : decode prog_5_method_21_code 139 = .ok (.invokestatic 81, 3) := by decide +kernel
theorem xd_131_142 : decode prog_5_method_21_code 142 = .ok (.aload_n 1, 1) := by decide +kernel
theorem xd_131_143 : decode prog_5_method_21_code 143 = .ok (.getfield 34, 3) := by decide +kernel
theorem xd_131_146 : decode prog_5_method_21_code 146 = .ok (.iconst 0, 1) := by decide +kernel
theorem xd_131_147 : decode prog_5_method_21_code 147 = .ok (.aload_n 0, 1) := by decide +kernel
theorem xd_131_148 : decode prog_5_method_21_code 148 = .ok (.getfield 34, 3) := by decide +kernel
theorem xd_131_151 : decode prog_5_method_21_code 151 = .ok (.iconst 0, 1) := by decide +kernel
theorem xd_131_152 : decode prog_5_method_21_code 152 = .ok (.aload_n 0, 1) := by decide +kernel
theorem xd_131_153 : decode prog_5_method_21_code 153 = .ok (.getfield 44, 3) := by decide +kernel
theorem xd_131_156 : decode prog_5_method_21_code 156 = .ok (.invokestatic 81, 3) := by decide +kernel
theorem xd_131_159 : decode prog_5_method_21_code 159 = .ok (.return_, 1) := by decide +kernel
theorem xd_132_0 : decode prog_6_method_1_code 0 = .ok (.aload_n 0, 1) := by decide +kernel
theorem xd_132_1 : decode prog_6_method_1_code 1 = .ok (.invokespecial 3, 3) := by decide +kernel
theorem xd_132_4 : decode prog_6_method_1_code 4 = .ok (.aload_n 0, 1) := by decide +kernel
theorem xd_132_5 : decode prog_6_method_1_code 5 = .ok (.aload_n 1, 1) := by decide +kernel
theorem xd_132_6 : decode prog_6_method_1_code 6 = .ok (.putfield 9, 3) := by decide +kernel
theorem xd_132_9 : decode prog_6_method_1_code 9 = .ok (.aload_n 0, 1) := by decide +kernel
theorem xd_132_10 : decode prog_6_method_1_code 10 = .ok (.aload_n 2, 1) := by decide +kernel
theorem xd_132_11 : decode prog_6_method_1_code 11 = .ok (.putfield 15, 3) := by decide +kernel
theorem xd_132_14 : decode prog_6_method_1_code 14 = .ok (.return_, 1) := by decide +kernel
theorem xd_133_0 : decode prog_6_method_2_code 0 = .ok (.aload_n 0, 1) := by decide +kernel
theorem xd_133_1 : decode prog_6_method_2_code 1 = .ok (.getfield 15, 3) := by decide +kernel
theorem xd_133_4 : decode prog_6_method_2_code 4 = .ok (.invokevirtual 19, 3) := by decide +kernel
theorem xd_133_7 : decode prog_6_method_2_code 7 = .ok (.aload_n 0, 1) := by decide +kernel
theorem xd_133_8 : decode prog_6_method_2_code 8 = .ok (.getfield 9, 3) := by decide +kernel
theorem xd_133_11 : decode prog_6_method_2_code 11 = .ok (.iconst 0, 1) := by decide +kernel
theorem xd_133_12 : decode prog_6_method_2_code 12 = .ok (.invokevirtual 24, 3) := by decide +kernel
theorem xd_133_15 : decode prog_6_method_2_code 15 = .ok (.iconst 0, 1) := by decide +kernel
theorem xd_133_16 : decode prog_6_method_2_code 16 = .ok (.istore_n 1, 1) := by decide +kernel
theorem xd_133_17 : decode prog_6_method_2_code 17 = .ok (.iload_n 1, 1) := by decide +kernel
theorem xd_133_18 : decode prog_6_method_2_code 18 = .ok (.bipush 40, 2) := by decide +kernel
theorem xd_133_20 : decode prog_6_method_2_code 20 = .ok (.if_icmp .gt 47, 3) := by decide +kernel
theorem xd_133_23 : decode prog_6_method_2_code 23 = .ok (.aload_n 0, 1) := by decide +kernel
theorem xd_133_24 : decode prog_6_method_2_code 24 = .ok (.getfield 9, 3) := by decide +kernel
theorem xd_133_27 : decode prog_6_method_2_code 27 = .ok (.invokevirtual 30, 3) := by decide +kernel
theorem xd_133_30 : decode prog_6_method_2_code 30 = .ok (.ifCond .eq 37, 3) := by decide +kernel
theorem xd_133_33 : decode prog_6_method_2_code 33 = .ok (.aload_n 0, 1) := by decide +kernel
theorem xd_133_34 : decode prog_6_method_2_code 34 = .ok (.invokevirtual 34, 3) := by decide +kernel
theorem xd_133_37 : decode prog_6_method_2_code 37 = .ok (.ifCond .eq 22, 3) := by decide +kernel
theorem xd_133_40 : decode prog_6_method_2_code 40 = .ok (.aload_n 0, 1) := by decide +kernel
theorem xd_133_41 : decode prog_6_method_2_code 41 = .ok (.invokevirtual 37, 3) := by decide +kernel
theorem xd_133_44 : decode prog_6_method_2_code 44 = .ok (.ifCond .eq 15, 3) := by decide +kernel
theorem xd_133_47 : decode prog_6_method_2_code 47 = .ok (.aload_n 0, 1) := by decide +kernel
theorem xd_133_48 : decode prog_6_method_2_code 48 = .ok (.getfield 9, 3) := by decide +kernel
theorem xd_133_51 : decode prog_6_method_2_code 51 = .ok (.bipush 59, 2) := by decide +kernel
theorem xd_133_53 : decode prog_6_method_2_code 53 = .ok (.invokevirtual 40, 3) := by decide +kernel
theorem xd_133_56 : decode prog_6_method_2_code 56 = .ok (.ifCond .ne 5, 3) := by decide +kernel
theorem xd_133_59 : decode prog_6_method_2_code 59 = .ok (.iconst 0, 1) := by decide +kernel
theorem xd_133_60 : decode prog_6_method_2_code 60 = .ok (.ireturn, 1) := by decide +kernel
theorem xd_133_61 : decode prog_6_method_2_code 61 = .ok (.iinc 1 1, 3) := by decide +kernel
theorem xd_133_64 : decode prog_6_method_2_code 64 = .ok (.goto (-47), 3) := by decide +kernel
theorem xd_133_67 : decode prog_6_method_2_code 67 = .ok (.iconst 1, 1) := by decide +kernel
theorem xd_133_68 : decode prog_6_method_2_code 68 = .ok (.ireturn, 1) := by decide +kernel
theorem xd_134_0 : decode prog_6_method_3_code 0 = .ok (.aload_n 0, 1) := by decide +kernel
theorem xd_134_1 : decode prog_6_method_3_code 1 = .ok (.getfield 15, 3) := by decide +kernel
theorem xd_134_4 : decode prog_6_method_3_code 4 = .ok (.getfield 44, 3) := by decide +kernel
theorem xd_134_7 : decode prog_6_method_3_code 7 = .ok (.bipush 40, 2) := by decide +kernel
theorem xd_134_9 : decode prog_6_method_3_code 9 = .ok (.if_icmp .ge 15, 3) := by decide +kernel
theorem xd_134_12 : decode prog_6_method_3_code 12 = .ok (.aload_n 0, 1) := by decide +kernel
theorem xd_134_13 : decode prog_6_method_3_code 13 = .ok (.getfield 9, 3) := by decide +kernel
theorem xd_134_16 : decode prog_6_method_3_code 16 = .ok (.bipush 35, 2) := by decide +kernel
theorem xd_134_18 : decode prog_6_method_3_code 18 = .ok (.invokevirtual 40, 3) := by decide +kernel
theorem xd_134_21 : decode prog_6_method_3_code 21 = .ok (.ifCond .ne 5, 3) := by decide +kernel
theorem xd_134_24 : decode prog_6_method_3_code 24 = .ok (.iconst 0, 1) := by decide +kernel
theorem xd_134_25 : decode prog_6_method_3_code 25 = .ok (.ireturn, 1) := by decide +kernel
theorem xd_134_26 : decode prog_6_method_3_code 26 = .ok (.aload_n 0, 1) := by decide +kernel
theorem xd_134_27 : decode prog_6_method_3_code 27 = .ok (.getfield 9, 3) := by decide +kernel
theorem xd_134_30 : decode prog_6_method_3_code 30 = .ok (.invokevirtual 48, 3) := by decide +kernel
theorem xd_134_33 : decode prog_6_method_3_code 33 = .ok (.istore_n 1, 1) := by decide +kernel
theorem xd_134_34 : decode prog_6_method_3_code 34 = .ok (.iload_n 1, 1) := by decide +kernel
theorem xd_134_35 : decode prog_6_method_3_code 35 = .ok (.iconst (-1), 1) := by decide +kernel
theorem xd_134_36 : decode prog_6_method_3_code 36 = .ok (.if_icmp .eq 15, 3) := by decide +kernel
theorem xd_134_39 : decode prog_6_method_3_code 39 = .ok (.aload_n 0, 1) := by decide +kernel
theorem xd_134_40 : decode prog_6_method_3_code 40 = .ok (.getfield 15, 3) := by decide +kernel
theorem xd_134_43 : decode prog_6_method_3_code 43 = .ok (.iload_n 1, 1) := by decide +kernel
theorem xd_134_44 : decode prog_6_method_3_code 44 = .ok (.invokevirtual 52, 3) := by decide +kernel
theorem xd_134_47 : decode prog_6_method_3_code 47 = .ok (.iconst (-1), 1) := by decide +kernel
theorem xd_134_48 : decode prog_6_method_3_code 48 = .ok (.if_icmp .eq 5, 3) := by decide +kernel
theorem xd_134_51 : decode prog_6_method_3_code 51 = .ok (.iconst 0, 1) := by decide +kernel
theorem xd_134_52 : decode prog_6_method_3_code 52 = .ok (.ireturn, 1) := by decide +kernel
theorem xd_134_53 : decode prog_6_method_3_code 53 = .ok (.aload_n 0, 1) := by decide +kernel
theorem xd_134_54 : decode prog_6_method_3_code 54 = .ok (.getfield 9, 3) := by decide +kernel
theorem xd_134_57 : decode prog_6_method_3_code 57 = .ok (.invokevirtual 56, 3) := by decide +kernel
theorem xd_134_60 : decode prog_6_method_3_code 60 = .ok (.aload_n 0, 1) := by decide +kernel
theorem xd_134_61 : decode prog_6_method_3_code 61 = .ok (.getfield 9, 3) := by decide +kernel
theorem xd_134_64 : decode prog_6_method_3_code 64 = .ok (.bipush 61, 2) := by decide +kernel
theorem xd_134_66 : decode prog_6_method_3_code 66 = .ok (.invokevirtual 40, 3) := by decide +kernel
theorem xd_134_69 : decode prog_6_method_3_code 69 = .ok (.ifCond .ne 5, 3) := by decide +kernel
theorem xd_134_72 : decode prog_6_method_3_code 72 = .ok (.iconst 0, 1) := by decide +kernel
theorem xd_134_73 : decode prog_6_method_3_code 73 = .ok (.ireturn, 1) := by decide +kernel
theorem xd_134_74 : decode prog_6_method_3_code 74 = .ok (.aload_n 0, 1) := by decide +kernel
theorem xd_134_75 : decode prog_6_method_3_code 75 = .ok (.getfield 9, 3) := by decide +kernel
theorem xd_134_78 : decode prog_6_method_3_code 78 = .ok (.invokevirtual 59, 3) := by decide +kernel
theorem xd_134_81 : decode prog_6_method_3_code 81 = .ok (.lstore_n 2, 1) := by decide +kernel
theorem xd_134_82 : decode prog_6_method_3_code 82 = .ok (.lload_n 2, 1) := by decide +kernel
theorem xd_134_83 : decode prog_6_method_3_code 83 = .ok (.lconst 0, 1) := by decide +kernel
theorem xd_134_84 : decode prog_6_method_3_code 84 = .ok (.lcmp, 1) := by decide +kernel
theorem xd_134_85 : decode prog_6_method_3_code 85 = .ok (.ifCond .ne 5, 3) := by decide +kernel
theorem xd_134_88 : decode prog_6_method_3_code 88 = .ok (.iconst 0, 1) := by decide +kernel
theorem xd_134_89 : decode prog_6_method_3_code 89 = .ok (.ireturn, 1) := by decide +kernel
theorem xd_134_90 : decode prog_6_method_3_code 90 = .ok (.aload_n 0, 1) := by decide +kernel
theorem xd_134_91 : decode prog_6_method_3_code 91 = .ok (.getfield 9, 3) := by decide +kernel
theorem xd_134_94 : decode prog_6_method_3_code 94 = .ok (.invokevirtual 56, 3) := by decide +kernel
theorem xd_134_97 : decode prog_6_method_3_code 97 = .ok (.aload_n 0, 1) := by decide +kernel
theorem xd_134_98 : decode prog_6_method_3_code 98 = .ok (.getfield 15, 3) := by decide +kernel
theorem xd_134_101 : decode prog_6_method_3_code 101 = .ok (.iload_n 1, 1) := by decide +kernel
theorem xd_134_102 : decode prog_6_method_3_code 102 = .ok (.lload_n 2, 1) := by decide +kernel
theorem xd_134_103 : decode prog_6_method_3_code 103 = .ok (.invokevirtual 63, 3) := by decide +kernel
theorem xd_134_106 : decode prog_6_method_3_code 106 = .ok (.aload_n 0, 1) := by decide +kernel
theorem xd_134_107 : decode prog_6_method_3_code 107 = .ok (.getfield 9, 3) := by decide +kernel
theorem xd_134_110 : decode prog_6_method_3_code 110 = .ok (.bipush 40, 2) := by decide +kernel
theorem xd_134_112 : decode prog_6_method_3_code 112 = .ok (.invokevirtual 40, 3) := by decide +kernel
theorem xd_134_115 : decode prog_6_method_3_code 115 = .ok (.ireturn, 1) := by decide +kernel
theorem xd_135_0 : decode prog_6_method_4_code 0 = .ok (.iconst 0, 1) := by decide +kernel
theorem xd_135_1 : decode prog_6_method_4_code 1 = .ok (.istore_n 1, 1) := by decide +kernel
theorem xd_135_2 : decode prog_6_method_4_code 2 = .ok (.iload_n 1, 1) := by decide +kernel
theorem xd_135_3 : decode prog_6_method_4_code 3 = .ok (.bipush 8, 2) := by decide +kernel
theorem xd_135_5 : decode prog_6_method_4_code 5 = .ok (.if_icmp .ge 60, 3) := by decide +kernel
theorem xd_135_8 : decode prog_6_method_4_code 8 = .ok (.aload_n 0, 1) := by decide +kernel
theorem xd_135_9 : decode prog_6_method_4_code 9 = .ok (.getfield 15, 3) := by decide +kernel
theorem xd_135_12 : decode prog_6_method_4_code 12 = .ok (.invokevirtual 67, 3) := by decide +kernel
theorem xd_135_15 : decode prog_6_method_4_code 15 = .ok (.istore_n 2, 1) := by decide +kernel
theorem xd_135_16 : decode prog_6_method_4_code 16 = .ok (.iload_n 2, 1) := by decide +kernel
theorem xd_135_17 : decode prog_6_method_4_code 17 = .ok (.iconst (-1), 1) := by decide +kernel
theorem xd_135_18 : decode prog_6_method_4_code 18 = .ok (.if_icmp .eq 11, 3) := by decide +kernel
theorem xd_135_21 : decode prog_6_method_4_code 21 = .ok (.aload_n 0, 1) := by decide +kernel
theorem xd_135_22 : decode prog_6_method_4_code 22 = .ok (.iload_n 2, 1) := by decide +kernel
theorem xd_135_23 : decode prog_6_method_4_code 23 = .ok (.invokevirtual 70, 3) := by decide +kernel
theorem xd_135_26 : decode prog_6_method_4_code 26 = .ok (.ifCond .ne 5, 3) := by decide +kernel
theorem xd_135_29 : decode prog_6_method_4_code 29 = .ok (.iconst 0, 1) := by decide +kernel
theorem xd_135_30 : decode prog_6_method_4_code 30 = .ok (.ireturn, 1) := by decide +kernel
theorem xd_135_31 : decode prog_6_method_4_code 31 = .ok (.aload_n 0, 1) := by decide +kernel
theorem xd_135_32 : decode prog_6_method_4_code 32 = .ok (.getfield 9, 3) := by decide +kernel
theorem xd_135_35 : decode prog_6_method_4_code 35 = .ok (.bipush 41, 2) := by decide +kernel
theorem xd_135_37 : decode prog_6_method_4_code 37 = .ok (.invokevirtual 40, 3) := by decide +kernel
theorem xd_135_40 : decode prog_6_method_4_code 40 = .ok (.ifCond .eq 5, 3) := by decide +kernel
theorem xd_135_43 : decode prog_6_method_4_code 43 = .ok (.iconst 1, 1) := by decide +kernel
theorem xd_135_44 : decode prog_6_method_4_code 44 = .ok (.ireturn, 1) := by decide +kernel
theorem xd_135_45 : decode prog_6_method_4_code 45 = .ok (.aload_n 0, 1) := by decide +kernel
theorem xd_135_46 : decode prog_6_method_4_code 46 = .ok (.getfield 9, 3) := by decide +kernel
theorem xd_135_49 : decode prog_6_method_4_code 49 = .ok (.bipush 44, 2) := by decide +kernel
theorem xd_135_51 : decode prog_6_method_4_code 51 = .ok (.invokevirtual 40, 3) := by decide +kernel
theorem xd_135_54 : decode prog_6_method_4_code 54 = .ok (.ifCond .ne 5, 3) := by decide +kernel
theorem xd_135_57 : decode prog_6_method_4_code 57 = .ok (.iconst 0, 1) := by decide +kernel
theorem xd_135_58 : decode prog_6_method_4_code 58 = .ok (.ireturn, 1) := by decide +kernel
theorem xd_135_59 : decode prog_6_method_4_code 59 = .ok (.iinc 1 1, 3) := by decide +kernel
theorem xd_135_62 : decode prog_6_method_4_code 62 = .ok (.goto (-60), 3) := by decide +kernel
theorem xd_135_65 : decode prog_6_method_4_code 65 = .ok (.iconst 0, 1) := by decide +kernel
theorem xd_135_66 : decode prog_6_method_4_code 66 = .ok (.ireturn, 1) := by decide +kernel
theorem xd_136_0 : decode prog_6_method_5_code 0 = .ok (.aload_n 0, 1) := by decide +kernel
theorem xd_136_1 : decode prog_6_method_5_code 1 = .ok (.getfield 9, 3) := by decide +kernel
theorem xd_136_4 : decode prog_6_method_5_code 4 = .ok (.invokevirtual 74, 3) := by decide +kernel
theorem xd_136_7 : decode prog_6_method_5_code 7 = .ok (.istore_n 2, 1) := by decide +kernel
theorem xd_136_8 : decode prog_6_method_5_code 8 = .ok (.iload_n 2, 1) := by decide +kernel
theorem xd_136_9 : decode prog_6_method_5_code 9 = .ok (.bipush 36, 2) := by decide +kernel
theorem xd_136_11 : decode prog_6_method_5_code 11 = .ok (.if_icmp .ne 23, 3) := by decide +kernel
theorem xd_136_14 : decode prog_6_method_5_code 14 = .ok (.aload_n 0, 1) := by decide +kernel
theorem xd_136_15 : decode prog_6_method_5_code 15 = .ok (.getfield 9, 3) := by decide +kernel
theorem xd_136_18 : decode prog_6_method_5_code 18 = .ok (.invokevirtual 56, 3) := by decide +kernel
theorem xd_136_21 : decode prog_6_method_5_code 21 = .ok (.aload_n 0, 1) := by decide +kernel
theorem xd_136_22 : decode prog_6_method_5_code 22 = .ok (.getfield 15, 3) := by decide +kernel
theorem xd_136_25 : decode prog_6_method_5_code 25 = .ok (.iload_n 1, 1) := by decide +kernel
theorem xd_136_26 : decode prog_6_method_5_code 26 = .ok (.bipush 6, 2) := by decide +kernel
theorem xd_136_28 : decode prog_6_method_5_code 28 = .ok (.iconst 0, 1) := by decide +kernel
theorem xd_136_29 : decode prog_6_method_5_code 29 = .ok (.invokevirtual 78, 3) := by decide +kernel
theorem xd_136_32 : decode prog_6_method_5_code 32 = .ok (.iconst 1, 1) := by decide +kernel
theorem xd_136_33 : decode prog_6_method_5_code 33 = .ok (.ireturn, 1) := by decide +kernel
theorem xd_136_34 : decode prog_6_method_5_code 34 = .ok (.iload_n 2, 1) := by decide +kernel
theorem xd_136_35 : decode prog_6_method_5_code 35 = .ok (.bipush 39, 2) := by decide +kernel
theorem xd_136_37 : decode prog_6_method_5_code 37 = .ok (.if_icmp .ne 9, 3) := by decide +kernel
theorem xd_136_40 : decode prog_6_method_5_code 40 = .ok (.aload_n 0, 1) := by decide +kernel
theorem xd_136_41 : decode prog_6_method_5_code 41 = .ok (.iload_n 1, 1) := by decide +kernel
theorem xd_136_42 : decode prog_6_method_5_code 42 = .ok (.invokevirtual 82, 3) := by decide +kernel
theorem xd_136_45 : decode prog_6_method_5_code 45 = .ok (.ireturn, 1) := by decide +kernel
theorem xd_136_46 : decode prog_6_method_5_code 46 = .ok (.iload_n 2, 1) := by decide +kernel
theorem xd_136_47 : decode prog_6_method_5_code 47 = .ok (.bipush 46, 2) := by decide +kernel
theorem xd_136_49 : decode prog_6_method_5_code 49 = .ok (.if_icmp .ne 9, 3) := by decide +kernel
theorem xd_136_52 : decode prog_6_method_5_code 52 = .ok (.aload_n 0, 1) := by decide +kernel
theorem xd_136_53 : decode prog_6_method_5_code 53 = .ok (.iload_n 1, 1) := by decide +kernel
theorem xd_136_54 : decode prog_6_method_5_code 54 = .ok (.invokevirtual 85, 3) := by decide +kernel
theorem xd_136_57 : decode prog_6_method_5_code 57 = .ok (.ireturn, 1) := by decide +kernel
theorem xd_136_58 : decode prog_6_method_5_code 58 = .ok (.iload_n 2, 1) := by decide +kernel
theorem xd_136_59 : decode prog_6_method_5_code 59 = .ok (.bipush 40, 2) := by decide +kernel
theorem xd_136_61 : decode prog_6_method_5_code 61 = .ok (.if_icmp .ne 9, 3) := by decide +kernel
theorem xd_136_64 : decode prog_6_method_5_code 64 = .ok (.aload_n 0, 1) := by decide +kernel
theorem xd_136_65 : decode prog_6_method_5_code 65 = .ok (.iload_n 1, 1) := by decide +kernel
theorem xd_136_66 : decode prog_6_method_5_code 66 = .ok (.invokevirtual 88, 3) := by decide +kernel
theorem xd_136_69 : decode prog_6_method_5_code 69 = .ok (.ireturn, 1) := by decide +kernel
theorem xd_136_70 : decode prog_6_method_5_code 70 = .ok (.iload_n 2, 1) := by decide +kernel
theorem xd_136_71 : decode prog_6_method_5_code 71 = .ok (.bipush 35, 2) := by decide +kernel
theorem xd_136_73 : decode prog_6_method_5_code 73 = .ok (.if_icmp .ne 7, 3) := by decide +kernel
theorem xd_136_76 : decode prog_6_method_5_code 76 = .ok (.iconst 1, 1) := by decide +kernel
theorem xd_136_77 : decode prog_6_method_5_code 77 = .ok (.goto 4, 3) := by decide +kernel
theorem xd_136_80 : decode prog_6_method_5_code 80 = .ok (.iconst 0, 1) := by decide +kernel
theorem xd_136_81 : decode prog_6_method_5_code 81 = .ok (.istore_n 3, 1) := by decide +kernel
theorem xd_136_82 : decode prog_6_method_5_code 82 = .ok (.iload_n 3, 1) := by decide +kernel
theorem xd_136_83 : decode prog_6_method_5_code 83 = .ok (.ifCond .eq 13, 3) := by decide +kernel
theorem xd_136_86 : decode prog_6_method_5_code 86 = .ok (.aload_n 0, 1) := by decide +kernel
theorem xd_136_87 : decode prog_6_method_5_code 87 = .ok (.getfield 9, 3) := by decide +kernel
theorem xd_136_90 : decode prog_6_method_5_code 90 = .ok (.invokevirtual 91, 3) := by decide +kernel
theorem xd_136_93 : decode prog_6_method_5_code 93 = .ok (.goto 10, 3) := by decide +kernel
theorem xd_136_96 : decode prog_6_method_5_code 96 = .ok (.aload_n 0, 1) := by decide +kernel
theorem xd_136_97 : decode prog_6_method_5_code 97 = .ok (.getfield 9, 3) := by decide +kernel
theorem xd_136_100 : decode prog_6_method_5_code 100 = .ok (.invokevirtual 94, 3) := by decide +kernel
theorem xd_136_103 : decode prog_6_method_5_code 103 = .ok (.istore 4, 2) := by decide +kernel
theorem xd_136_105 : decode prog_6_method_5_code 105 = .ok (.aload_n 0, 1) := by decide +kernel
theorem xd_136_106 : decode prog_6_method_5_code 106 = .ok (.getfield 15, 3) := by decide +kernel
theorem xd_136_109 : decode prog_6_method_5_code 109 = .ok (.iload_n 1, 1) := by decide +kernel
theorem xd_136_110 : decode prog_6_method_5_code 110 = .ok (.iload_n 3, 1) := by decide +kernel
theorem xd_136_111 : decode prog_6_method_5_code 111 = .ok (.ifCond .eq 7, 3) := by decide +kernel
theorem xd_136_114 : decode prog_6_method_5_code 114 = .ok (.iconst 2, 1) := by decide +kernel
theorem xd_136_115 : decode prog_6_method_5_code 115 = .ok (.goto 4, 3) := by decide +kernel
theorem xd_136_118 : decode prog_6_method_5_code 118 = .ok (.iconst 0, 1) := by decide +kernel
theorem xd_136_119 : decode prog_6_method_5_code 119 = .ok (.iload 4, 2) := by decide +kernel
theorem xd_136_121 : decode prog_6_method_5_code 121 = .ok (.invokevirtual 78, 3) := by decide +kernel
theorem xd_136_124 : decode prog_6_method_5_code 124 = .ok (.iload 4, 2) := by decide +kernel
theorem xd_136_126 : decode prog_6_method_5_code 126 = .ok (.ldc 97, 2) := by decide +kernel
theorem xd_136_128 : decode prog_6_method_5_code 128 = .ok (.if_icmp .eq 7, 3) := by decide +kernel
theorem xd_136_131 : decode prog_6_method_5_code 131 = .ok (.iconst 1, 1) := by decide +kernel
theorem xd_136_132 : decode prog_6_method_5_code 132 = .ok (.goto 4, 3) := by decide +kernel
theorem xd_136_135 : decode prog_6_method_5_code 135 = .ok (.iconst 0, 1) := by decide +kernel
theorem xd_136_136 : decode prog_6_method_5_code 136 = .ok (.ireturn, 1) := by decide +kernel
theorem xd_137_0 : decode prog_6_method_6_code 0 = .ok (.aload_n 0, 1) := by decide +kernel
theorem xd_137_1 : decode prog_6_method_6_code 1 = .ok (.getfield 9, 3) := by decide +kernel
theorem xd_137_4 : decode prog_6_method_6_code 4 = .ok (.invokevirtual 98, 3) := by decide +kernel
theorem xd_137_7 : decode prog_6_method_6_code 7 = .ok (.istore_n 2, 1) := by decide +kernel
theorem xd_137_8 : decode prog_6_method_6_code 8 = .ok (.iload_n 2, 1) := by decide +kernel
theorem xd_137_9 : decode prog_6_method_6_code 9 = .ok (.iconst (-1), 1) := by decide +kernel
theorem xd_137_10 : decode prog_6_method_6_code 10 = .ok (.if_icmp .eq 9, 3) := by decide +kernel
theorem xd_137_13 : decode prog_6_method_6_code 13 = .ok (.iload_n 2, 1) := by decide +kernel
theorem xd_137_14 : decode prog_6_method_6_code 14 = .ok (.bipush 20, 2) := by decide +kernel
theorem xd_137_16 : decode prog_6_method_6_code 16 = .ok (.if_icmp .le 5, 3) := by decide +kernel
theorem xd_137_19 : decode prog_6_method_6_code 19 = .ok (.iconst 0, 1) := by decide +kernel
theorem xd_137_20 : decode prog_6_method_6_code 20 = .ok (.ireturn, 1) := by decide +kernel
theorem xd_137_21 : decode prog_6_method_6_code 21 = .ok (.aload_n 0, 1) := by decide +kernel
theorem xd_137_22 : decode prog_6_method_6_code 22 = .ok (.getfield 15, 3) := by decide +kernel
theorem xd_137_25 : decode prog_6_method_6_code 25 = .ok (.iload_n 1, 1) := by decide +kernel
theorem xd_137_26 : decode prog_6_method_6_code 26 = .ok (.iconst 1, 1) := by decide +kernel
theorem xd_137_27 : decode prog_6_method_6_code 27 = .ok (.iconst 0, 1) := by decide +kernel
theorem xd_137_28 : decode prog_6_method_6_code 28 = .ok (.invokevirtual 78, 3) := by decide +kernel
theorem xd_137_31 : decode prog_6_method_6_code 31 = .ok (.aload_n 0, 1) := by decide +kernel
theorem xd_137_32 : decode prog_6_method_6_code 32 = .ok (.getfield 9, 3) := by decide +kernel
theorem xd_137_35 : decode prog_6_method_6_code 35 = .ok (.aload_n 0, 1) := by decide +kernel
theorem xd_137_36 : decode prog_6_method_6_code 36 = .ok (.getfield 15, 3) := by decide +kernel
theorem xd_137_39 : decode prog_6_method_6_code 39 = .ok (.iload_n 1, 1) := by decide +kernel
theorem xd_137_40 : decode prog_6_method_6_code 40 = .ok (.invokevirtual 101, 3) := by decide +kernel
theorem xd_137_43 : decode prog_6_method_6_code 43 = .ok (.iconst 1, 1) := by decide +kernel
theorem xd_137_44 : decode prog_6_method_6_code 44 = .ok (.ireturn, 1) := by decide +kernel
theorem xd_138_0 : decode prog_6_method_7_code 0 = .ok (.aload_n 0, 1) := by decide +kernel
theorem xd_138_1 : decode prog_6_method_7_code 1 = .ok (.getfield 9, 3) := by decide +kernel
theorem xd_138_4 : decode prog_6_method_7_code 4 = .ok (.bipush 46, 2) := by decide +kernel
theorem xd_138_6 : decode prog_6_method_7_code 6 = .ok (.invokevirtual 40, 3) := by decide +kernel
theorem xd_138_9 : decode prog_6_method_7_code 9 = .ok (.ifCond .eq 15, 3) := by decide +kernel
theorem xd_138_12 : decode prog_6_method_7_code 12 = .ok (.aload_n 0, 1) := by decide +kernel
theorem xd_138_13 : decode prog_6_method_7_code 13 = .ok (.getfield 9, 3) := by decide +kernel
theorem xd_138_16 : decode prog_6_method_7_code 16 = .ok (.invokevirtual 59, 3) := by decide +kernel
theorem xd_138_19 : decode prog_6_method_7_code 19 = .ok (.lconst 0, 1) := by decide +kernel
theorem xd_138_20 : decode prog_6_method_7_code 20 = .ok (.lcmp, 1) := by decide +kernel
theorem xd_138_21 : decode prog_6_method_7_code 21 = .ok (.ifCond .ne 5, 3) := by decide +kernel
theorem xd_138_24 : decode prog_6_method_7_code 24 = .ok (.iconst 0, 1) := by decide +kernel
theorem xd_138_25 : decode prog_6_method_7_code 25 = .ok (.ireturn, 1) := by decide +kernel
theorem xd_138_26 : decode prog_6_method_7_code 26 = .ok (.aload_n 0, 1) := by decide +kernel
theorem xd_138_27 : decode prog_6_method_7_code 27 = .ok (.getfield 15, 3) := by decide +kernel
theorem xd_138_30 : decode prog_6_method_7_code 30 = .ok (.iload_n 1, 1) := by decide +kernel
theorem xd_138_31 : decode prog_6_method_7_code 31 = .ok (.iconst 5, 1) := by decide +kernel
theorem xd_138_32 : decode prog_6_method_7_code 32 = .ok (.iconst 0, 1) := by decide +kernel
theorem xd_138_33 : decode prog_6_method_7_code 33 = .ok (.invokevirtual 78, 3) := by decide +kernel
theorem xd_138_36 : decode prog_6_method_7_code 36 = .ok (.aload_n 0, 1) := by decide +kernel
theorem xd_138_37 : decode prog_6_method_7_code 37 = .ok (.getfield 9, 3) := by decide +kernel
theorem xd_138_40 : decode prog_6_method_7_code 40 = .ok (.aload_n 0, 1) := by decide +kernel
theorem xd_138_41 : decode prog_6_method_7_code 41 = .ok (.getfield 15, 3) := by decide +kernel
theorem xd_138_44 : decode prog_6_method_7_code 44 = .ok (.iload_n 1, 1) := by decide +kernel
theorem xd_138_45 : decode prog_6_method_7_code 45 = .ok (.invokevirtual 105, 3) := by decide +kernel
theorem xd_138_48 : decode prog_6_method_7_code 48 = .ok (.aload_n 0, 1) := by decide +kernel
theorem xd_138_49 : decode prog_6_method_7_code 49 = .ok (.getfield 9, 3) := by decide +kernel
theorem xd_138_52 : decode prog_6_method_7_code 52 = .ok (.bipush 46, 2) := by decide +kernel
theorem xd_138_54 : decode prog_6_method_7_code 54 = .ok (.invokevirtual 40, 3) := by decide +kernel
theorem xd_138_57 : decode prog_6_method_7_code 57 = .ok (.ireturn, 1) := by decide +kernel
theorem xd_139_0 : decode prog_6_method_8_code 0 = .ok (.aload_n 0, 1) := by decide +kernel
theorem xd_139_1 : decode prog_6_method_8_code 1 = .ok (.getfield 9, 3) := by decide +kernel
theorem xd_139_4 : decode prog_6_method_8_code 4 = .ok (.bipush 40, 2) := by decide +kernel
theorem xd_139_6 : decode prog_6_method_8_code 6 = .ok (.invokevirtual 40, 3) := by decide +kernel
theorem xd_139_9 : decode prog_6_method_8_code 9 = .ok (.ifCond .ne 5, 3) := by decide +kernel
theorem xd_139_12 : decode prog_6_method_8_code 12 = .ok (.iconst 0, 1) := by decide +kernel
theorem xd_139_13 : decode prog_6_method_8_code 13 = .ok (.ireturn, 1) := by decide +kernel
theorem xd_139_14 : decode prog_6_method_8_code 14 = .ok (.aload_n 0, 1) := by decide +kernel
theorem xd_139_15 : decode prog_6_method_8_code 15 = .ok (.getfield 9, 3) := by decide +kernel
theorem xd_139_18 : decode prog_6_method_8_code 18 = .ok (.invokevirtual 74, 3) := by decide +kernel
theorem xd_139_21 : decode prog_6_method_8_code 21 = .ok (.bipush 35, 2) := by decide +kernel
theorem xd_139_23 : decode prog_6_method_8_code 23 = .ok (.if_icmp .ne 7, 3) := by decide +kernel
theorem xd_139_26 : decode prog_6_method_8_code 26 = .ok (.iconst 1, 1) := by decide +kernel
theorem xd_139_27 : decode prog_6_method_8_code 27 = .ok (.goto 4, 3) := by decide +kernel
theorem xd_139_30 : decode prog_6_method_8_code 30 = .ok (.iconst 0, 1) := by decide +kernel
theorem xd_139_31 : decode prog_6_method_8_code 31 = .ok (.istore_n 2, 1) := by decide +kernel
theorem xd_139_32 : decode prog_6_method_8_code 32 = .ok (.aload_n 0, 1) := by decide +kernel
theorem xd_139_33 : decode prog_6_method_8_code 33 = .ok (.getfield 15, 3) := by decide +kernel
theorem xd_139_36 : decode prog_6_method_8_code 36 = .ok (.iload_n 1, 1) := by decide +kernel
theorem xd_139_37 : decode prog_6_method_8_code 37 = .ok (.iload_n 2, 1) := by decide +kernel
theorem xd_139_38 : decode prog_6_method_8_code 38 = .ok (.ifCond .eq 7, 3) := by decide +kernel
theorem xd_139_41 : decode prog_6_method_8_code 41 = .ok (.iconst 4, 1) := by decide +kernel
theorem xd_139_42 : decode prog_6_method_8_code 42 = .ok (.goto 4, 3) := by decide +kernel
theorem xd_139_45 : decode prog_6_method_8_code 45 = .ok (.iconst 3, 1) := by decide +kernel
theorem xd_139_46 : decode prog_6_method_8_code 46 = .ok (.iconst 0, 1) := by decide +kernel
theorem xd_139_47 : decode prog_6_method_8_code 47 = .ok (.invokevirtual 78, 3) := by decide +kernel
theorem xd_139_50 : decode prog_6_method_8_code 50 = .ok (.aload_n 0, 1) := by decide +kernel
theorem xd_139_51 : decode prog_6_method_8_code 51 = .ok (.getfield 9, 3) := by decide +kernel
theorem xd_139_54 : decode prog_6_method_8_code 54 = .ok (.bipush 41, 2) := by decide +kernel
theorem xd_139_56 : decode prog_6_method_8_code 56 = .ok (.invokevirtual 40, 3) := by decide +kernel
theorem xd_139_59 : decode prog_6_method_8_code 59 = .ok (.ifCond .eq 5, 3) := by decide +kernel
theorem xd_139_62 : decode prog_6_method_8_code 62 = .ok (.iconst 1, 1) := by decide +kernel
theorem xd_139_63 : decode prog_6_method_8_code 63 = .ok (.ireturn, 1) := by decide +kernel
theorem xd_139_64 : decode prog_6_method_8_code 64 = .ok (.iconst 0, 1) := by decide +kernel
theorem xd_139_65 : decode prog_6_method_8_code 65 = .ok (.istore_n 3, 1) := by decide +kernel
theorem xd_139_66 : decode prog_6_method_8_code 66 = .ok (.iload_n 3, 1) := by decide +kernel
theorem xd_139_67 : decode prog_6_method_8_code 67 = .ok (.bipush 6, 2) := by decide +kernel
theorem xd_139_69 : decode prog_6_method_8_code 69 = .ok (.if_icmp .ge 79, 3) := by decide +kernel
theorem xd_139_72 : decode prog_6_method_8_code 72 = .ok (.iload_n 2, 1) := by decide +kernel
theorem xd_139_73 : decode prog_6_method_8_code 73 = .ok (.ifCond .eq 13, 3) := by decide +kernel
theorem xd_139_76 : decode prog_6_method_8_code 76 = .ok (.aload_n 0, 1) := by decide +kernel
theorem xd_139_77 : decode prog_6_method_8_code 77 = .ok (.getfield 9, 3) := by decide +kernel
theorem xd_139_80 : decode prog_6_method_8_code 80 = .ok (.invokevirtual 91, 3) := by decide +kernel
theorem xd_139_83 : decode prog_6_method_8_code 83 = .ok (.goto 10, 3) := by decide +kernel
theorem xd_139_86 : decode prog_6_method_8_code 86 = .ok (.aload_n 0, 1) := by decide +kernel
theorem xd_139_87 : decode prog_6_method_8_code 87 = .ok (.getfield 9, 3) := by decide +kernel
theorem xd_139_90 : decode prog_6_method_8_code 90 = .ok (.invokevirtual 94, 3) := by decide +kernel
theorem xd_139_93 : decode prog_6_method_8_code 93 = .ok (.istore 4, 2) := by decide +kernel
theorem xd_139_95 : decode prog_6_method_8_code 95 = .ok (.iload 4, 2) := by decide +kernel
theorem xd_139_97 : decode prog_6_method_8_code 97 = .ok (.ldc 97, 2) := by decide +kernel
theorem xd_139_99 : decode prog_6_method_8_code 99 = .ok (.if_icmp .ne 5, 3) := by decide +kernel
theorem xd_139_102 : decode prog_6_method_8_code 102 = .ok (.iconst 0, 1) := by decide +kernel
theorem xd_139_103 : decode prog_6_method_8_code 103 = .ok (.ireturn, 1) := by decide +kernel
theorem xd_139_104 : decode prog_6_method_8_code 104 = .ok (.aload_n 0, 1) := by decide +kernel
theorem xd_139_105 : decode prog_6_method_8_code 105 = .ok (.getfield 15, 3) := by decide +kernel
theorem xd_139_108 : decode prog_6_method_8_code 108 = .ok (.iload_n 1, 1) := by decide +kernel
theorem xd_139_109 : decode prog_6_method_8_code 109 = .ok (.iload 4, 2) := by decide +kernel
theorem xd_139_111 : decode prog_6_method_8_code 111 = .ok (.invokevirtual 108, 3) := by decide +kernel
theorem xd_139_114 : decode prog_6_method_8_code 114 = .ok (.aload_n 0, 1) := by decide +kernel
theorem xd_139_115 : decode prog_6_method_8_code 115 = .ok (.getfield 9, 3) := by decide +kernel
theorem xd_139_118 : decode prog_6_method_8_code 118 = .ok (.bipush 41, 2) := by decide +kernel
theorem xd_139_120 : decode prog_6_method_8_code 120 = .ok (.invokevirtual 40, 3) := by decide +kernel
theorem xd_139_123 : decode prog_6_method_8_code 123 = .ok (.ifCond .eq 5, 3) := by decide +kernel
theorem xd_139_126 : decode prog_6_method_8_code 126 = .ok (.iconst 1, 1) := by decide +kernel
theorem xd_139_127 : decode prog_6_method_8_code 127 = .ok (.ireturn, 1) := by decide +kernel
theorem xd_139_128 : decode prog_6_method_8_code 128 = .ok (.aload_n 0, 1) := by decide +kernel
theorem xd_139_129 : decode prog_6_method_8_code 129 = .ok (.getfield 9, 3) := by decide +kernel
theorem xd_139_132 : decode prog_6_method_8_code 132 = .ok (.bipush 44, 2) := by decide +kernel
theorem xd_139_134 : decode prog_6_method_8_code 134 = .ok (.invokevirtual 40, 3) := by decide +kernel
theorem xd_139_137 : decode prog_6_method_8_code 137 = .ok (.ifCond .ne 5, 3) := by decide +kernel
theorem xd_139_140 : decode prog_6_method_8_code 140 = .ok (.iconst 0, 1) := by decide +kernel
theorem xd_139_141 : decode prog_6_method_8_code 141 = .ok (.ireturn, 1) := by decide +kernel
theorem xd_139_142 : decode prog_6_method_8_code 142 = .ok (.iinc 3 1, 3) := by decide +kernel
theorem xd_139_145 : decode prog_6_method_8_code 145 = .ok (.goto (-79), 3) := by decide +kernel
theorem xd_139_148 : decode prog_6_method_8_code 148 = .ok (.iconst 0, 1) := by decide +kernel
theorem xd_139_149 : decode prog_6_method_8_code 149 = .ok (.ireturn, 1) := by decide +kernel
theorem xd_140_0 : decode prog_7_method_1_code 0 = .ok (.aload_n 0, 1) := by decide +kernel
theorem xd_140_1 : decode prog_7_method_1_code 1 = .ok (.invokespecial 3, 3) := by decide +kernel
theorem xd_140_4 : decode prog_7_method_1_code 4 = .ok (.aload_n 0, 1) := by decide +kernel
theorem xd_140_5 : decode prog_7_method_1_code 5 = .ok (.sipush 1200, 3) := by decide +kernel
theorem xd_140_8 : decode prog_7_method_1_code 8 = .ok (.newarray .char, 2) := by decide +kernel
theorem xd_140_10 : decode prog_7_method_1_code 10 = .ok (.putfield 9, 3) := by decide +kernel
theorem xd_140_13 : decode prog_7_method_1_code 13 = .ok (.return_, 1) := by decide +kernel
theorem xd_141_0 : decode prog_7_method_2_code 0 = .ok (.aload_n 0, 1) := by decide +kernel
theorem xd_141_1 : decode prog_7_method_2_code 1 = .ok (.iconst 0, 1) := by decide +kernel
theorem xd_141_2 : decode prog_7_method_2_code 2 = .ok (.putfield 15, 3) := by decide +kernel
theorem xd_141_5 : decode prog_7_method_2_code 5 = .ok (.aload_n 0, 1) := by decide +kernel
theorem xd_141_6 : decode prog_7_method_2_code 6 = .ok (.iconst 0, 1) := by decide +kernel
theorem xd_141_7 : decode prog_7_method_2_code 7 = .ok (.putfield 19, 3) := by decide +kernel
theorem xd_141_10 : decode prog_7_method_2_code 10 = .ok (.return_, 1) := by decide +kernel
theorem xd_142_0 : decode prog_7_method_3_code 0 = .ok (.aload_n 0, 1) := by decide +kernel
theorem xd_142_1 : decode prog_7_method_3_code 1 = .ok (.getfield 15, 3) := by decide +kernel
theorem xd_142_4 : decode prog_7_method_3_code 4 = .ok (.ifCond .lt 38, 3) := by decide +kernel
theorem xd_142_7 : decode prog_7_method_3_code 7 = .ok (.aload_n 0, 1) := by decide +kernel
theorem xd_142_8 : decode prog_7_method_3_code 8 = .ok (.getfield 15, 3) := by decide +kernel
theorem xd_142_11 : decode prog_7_method_3_code 11 = .ok (.aload_n 0, 1) := by decide +kernel
theorem xd_142_12 : decode prog_7_method_3_code 12 = .ok (.getfield 9, 3) := by decide +kernel
theorem xd_142_15 : decode prog_7_method_3_code 15 = .ok (.arraylength, 1) := by decide +kernel
theorem xd_142_16 : decode prog_7_method_3_code 16 = .ok (.if_icmp .ge 26, 3) := by decide +kernel
theorem xd_142_19 : decode prog_7_method_3_code 19 = .ok (.aload_n 0, 1) := by decide +kernel
theorem xd_142_20 : decode prog_7_method_3_code 20 = .ok (.getfield 9, 3) := by decide +kernel
theorem xd_142_23 : decode prog_7_method_3_code 23 = .ok (.aload_n 0, 1) := by decide +kernel
theorem xd_142_24 : decode prog_7_method_3_code 24 = .ok (.getfield 15, 3) := by decide +kernel
theorem xd_142_27 : decode prog_7_method_3_code 27 = .ok (.iload_n 1, 1) := by decide +kernel
theorem xd_142_28 : decode prog_7_method_3_code 28 = .ok (.castore, 1) := by decide +kernel
theorem xd_142_29 : decode prog_7_method_3_code 29 = .ok (.aload_n 0, 1) := by decide +kernel
theorem xd_142_30 : decode prog_7_method_3_code 30 = .ok (.dup, 1) := by decide +kernel
theorem xd_142_31 : decode prog_7_method_3_code 31 = .ok (.getfield 15, 3) := by decide +kernel
theorem xd_142_34 : decode prog_7_method_3_code 34 = .ok (.iconst 1, 1) := by decide +kernel
theorem xd_142_35 : decode prog_7_method_3_code 35 = .ok (.iadd, 1) := by decide +kernel
theorem xd_142_36 : decode prog_7_method_3_code 36 = .ok (.putfield 15, 3) := by decide +kernel
theorem xd_142_39 : decode prog_7_method_3_code 39 = .ok (.goto 8, 3) := by decide +kernel
theorem xd_142_42 : decode prog_7_method_3_code 42 = .ok (.aload_n 0, 1) := by decide +kernel
theorem xd_142_43 : decode prog_7_method_3_code 43 = .ok (.iconst 1, 1) := by decide +kernel
theorem xd_142_44 : decode prog_7_method_3_code 44 = .ok (.putfield 19, 3) := by decide +kernel
theorem xd_142_47 : decode prog_7_method_3_code 47 = .ok (.return_, 1) := by decide +kernel
theorem xd_143_0 : decode prog_7_method_4_code 0 = .ok (.bipush 56, 2) := by decide +kernel
theorem xd_143_2 : decode prog_7_method_4_code 2 = .ok (.istore_n 3, 1) := by decide +kernel
theorem xd_143_3 : decode prog_7_method_4_code 3 = .ok (.iload_n 3, 1) := by decide +kernel
theorem xd_143_4 : decode prog_7_method_4_code 4 = .ok (.ifCond .lt 28, 3) := by decide +kernel
theorem xd_143_7 : decode prog_7_method_4_code 7 = .ok (.lload_n 1, 1) := by decide +kernel
theorem xd_143_8 : decode prog_7_method_4_code 8 = .ok (.iload_n 3, 1) := by decide +kernel
theorem xd_143_9 : decode prog_7_method_4_code 9 = .ok (.invokestatic 23, 3) := by decide +kernel
theorem xd_143_12 : decode prog_7_method_4_code 12 = .ok (.istore 4, 2) := by decide +kernel
theorem xd_143_14 : decode prog_7_method_4_code 14 = .ok (.iload 4, 2) := by decide +kernel
theorem xd_143_16 : decode prog_7_method_4_code 16 = .ok (.ifCond .eq 10, 3) := by decide +kernel
theorem xd_143_19 : decode prog_7_method_4_code 19 = .ok (.aload_n 0, 1) := by decide +kernel
theorem xd_143_20 : decode prog_7_method_4_code 20 = .ok (.iload 4, 2) := by decide +kernel
theorem xd_143_22 : decode prog_7_method_4_code 22 = .ok (.i2c, 1) := by decide +kernel
theorem xd_143_23 : decode prog_7_method_4_code 23 = .ok (.invokevirtual 27, 3) := by decide +kernel
theorem xd_143_26 : decode prog_7_method_4_code 26 = .ok (.iinc 3 (-8), 3) := by decide +kernel
theorem xd_143_29 : decode prog_7_method_4_code 29 = .ok (.goto (-26), 3) := by decide +kernel
theorem xd_143_32 : decode prog_7_method_4_code 32 = .ok (.return_, 1) := by decide +kernel
theorem xd_144_0 : decode prog_7_method_5_code 0 = .ok (.iload_n 1, 1) := by decide +kernel
theorem xd_144_1 : decode prog_7_method_5_code 1 = .ok (.ifCond .lt 20, 3) := by decide +kernel
theorem xd_144_4 : decode prog_7_method_5_code 4 = .ok (.iload_n 1, 1) := by decide +kernel
theorem xd_144_5 : decode prog_7_method_5_code 5 = .ok (.aload_n 0, 1) := by decide +kernel
theorem xd_144_6 : decode prog_7_method_5_code 6 = .ok (.getfield 15, 3) := by decide +kernel
theorem xd_144_9 : decode prog_7_method_5_code 9 = .ok (.if_icmp .ge 12, 3) := by decide +kernel
theorem xd_144_12 : decode prog_7_method_5_code 12 = .ok (.aload_n 0, 1) := by decide +kernel
theorem xd_144_13 : decode prog_7_method_5_code 13 = .ok (.getfield 9, 3) := by decide +kernel
theorem xd_144_16 : decode prog_7_method_5_code 16 = .ok (.iload_n 1, 1) := by decide +kernel
theorem xd_144_17 : decode prog_7_method_5_code 17 = .ok (.caload, 1) := by decide +kernel
theorem xd_144_18 : decode prog_7_method_5_code 18 = .ok (.goto 4, 3) := by decide +kernel
theorem xd_144_21 : decode prog_7_method_5_code 21 = .ok (.iconst 0, 1) := by decide +kernel
theorem xd_144_22 : decode prog_7_method_5_code 22 = .ok (.ireturn, 1) := by decide +kernel
theorem xd_145_0 : decode prog_7_method_6_code 0 = .ok (.aload_n 1, 1) := by decide +kernel
theorem xd_145_1 : decode prog_7_method_6_code 1 = .ok (.getfield 9, 3) := by decide +kernel
theorem xd_145_4 : decode prog_7_method_6_code 4 = .ok (.iconst 0, 1) := by decide +kernel
theorem xd_145_5 : decode prog_7_method_6_code 5 = .ok (.aload_n 0, 1) := by decide +kernel
theorem xd_145_6 : decode prog_7_method_6_code 6 = .ok (.getfield 9, 3) := by decide +kernel
theorem xd_145_9 : decode prog_7_method_6_code 9 = .ok (.iconst 0, 1) := by decide +kernel
theorem xd_145_10 : decode prog_7_method_6_code 10 = .ok (.aload_n 1, 1) := by decide +kernel
theorem xd_145_11 : decode prog_7_method_6_code 11 = .ok (.getfield 15, 3) := by decide +kernel
theorem xd_145_14 : decode prog_7_method_6_code 14 = .ok (.invokestatic 31, 3) := by decide +kernel
