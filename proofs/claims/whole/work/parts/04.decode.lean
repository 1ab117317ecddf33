theorem dX10_oneMore_138 : decode cX10_oneMore 138 = .ok (.iload 4, 2) := by decide +kernel
theorem dX10_oneMore_140 : decode cX10_oneMore 140 = .ok (.iload 6, 2) := by decide +kernel
theorem dX10_oneMore_142 : decode cX10_oneMore 142 = .ok (.iastore, 1) := by decide +kernel
theorem dX10_oneMore_143 : decode cX10_oneMore 143 = .ok (.iinc 4 1, 3) := by decide +kernel
theorem dX10_oneMore_146 : decode cX10_oneMore 146 = .ok (.iinc 6 1, 3) := by decide +kernel
theorem dX10_oneMore_149 : decode cX10_oneMore 149 = .ok (.goto (-64), 3) := by decide +kernel
theorem dX10_oneMore_152 : decode cX10_oneMore 152 = .ok (.goto (-96), 3) := by decide +kernel
theorem dX10_oneMore_155 : decode cX10_oneMore 155 = .ok (.aload_n 0, 1) := by decide +kernel
theorem dX10_oneMore_156 : decode cX10_oneMore 156 = .ok (.getfield 75, 3) := by decide +kernel
theorem dX10_oneMore_159 : decode cX10_oneMore 159 = .ok (.iload_n 2, 1) := by decide +kernel
theorem dX10_oneMore_160 : decode cX10_oneMore 160 = .ok (.iaload, 1) := by decide +kernel
theorem dX10_oneMore_161 : decode cX10_oneMore 161 = .ok (.ifCond .ge 5, 3) := by decide +kernel
theorem dX10_oneMore_164 : decode cX10_oneMore 164 = .ok (.iconst 0, 1) := by decide +kernel
theorem dX10_oneMore_165 : decode cX10_oneMore 165 = .ok (.ireturn, 1) := by decide +kernel
theorem dX10_oneMore_166 : decode cX10_oneMore 166 = .ok (.iload_n 2, 1) := by decide +kernel
theorem dX10_oneMore_167 : decode cX10_oneMore 167 = .ok (.istore 5, 2) := by decide +kernel
theorem dX10_oneMore_169 : decode cX10_oneMore 169 = .ok (.iload 5, 2) := by decide +kernel
theorem dX10_oneMore_171 : decode cX10_oneMore 171 = .ok (.iload_n 1, 1) := by decide +kernel
theorem dX10_oneMore_172 : decode cX10_oneMore 172 = .ok (.if_icmp .eq 59, 3) := by decide +kernel
theorem dX10_oneMore_175 : decode cX10_oneMore 175 = .ok (.aload_n 0, 1) := by decide +kernel
theorem dX10_oneMore_176 : decode cX10_oneMore 176 = .ok (.getfield 72, 3) := by decide +kernel
theorem dX10_oneMore_179 : decode cX10_oneMore 179 = .ok (.bipush 24, 2) := by decide +kernel
theorem dX10_oneMore_181 : decode cX10_oneMore 181 = .ok (.aload_n 0, 1) := by decide +kernel
theorem dX10_oneMore_182 : decode cX10_oneMore 182 = .ok (.getfield 75, 3) := by decide +kernel
theorem dX10_oneMore_185 : decode cX10_oneMore 185 = .ok (.iload 5, 2) := by decide +kernel
theorem dX10_oneMore_187 : decode cX10_oneMore 187 = .ok (.iaload, 1) := by decide +kernel
theorem dX10_oneMore_188 : decode cX10_oneMore 188 = .ok (.imul, 1) := by decide +kernel
theorem dX10_oneMore_189 : decode cX10_oneMore 189 = .ok (.iload 5, 2) := by decide +kernel
theorem dX10_oneMore_191 : decode cX10_oneMore 191 = .ok (.iadd, 1) := by decide +kernel
theorem dX10_oneMore_192 : decode cX10_oneMore 192 = .ok (.dup2, 1) := by decide +kernel
theorem dX10_oneMore_193 : decode cX10_oneMore 193 = .ok (.iaload, 1) := by decide +kernel
theorem dX10_oneMore_194 : decode cX10_oneMore 194 = .ok (.iconst 1, 1) := by decide +kernel
theorem dX10_oneMore_195 : decode cX10_oneMore 195 = .ok (.isub, 1) := by decide +kernel
theorem dX10_oneMore_196 : decode cX10_oneMore 196 = .ok (.iastore, 1) := by decide +kernel
theorem dX10_oneMore_197 : decode cX10_oneMore 197 = .ok (.aload_n 0, 1) := by decide +kernel
theorem dX10_oneMore_198 : decode cX10_oneMore 198 = .ok (.getfield 72, 3) := by decide +kernel
theorem dX10_oneMore_201 : decode cX10_oneMore 201 = .ok (.bipush 24, 2) := by decide +kernel
theorem dX10_oneMore_203 : decode cX10_oneMore 203 = .ok (.iload 5, 2) := by decide +kernel
theorem dX10_oneMore_205 : decode cX10_oneMore 205 = .ok (.imul, 1) := by decide +kernel
theorem dX10_oneMore_206 : decode cX10_oneMore 206 = .ok (.aload_n 0, 1) := by decide +kernel
theorem dX10_oneMore_207 : decode cX10_oneMore 207 = .ok (.getfield 75, 3) := by decide +kernel
theorem dX10_oneMore_210 : decode cX10_oneMore 210 = .ok (.iload 5, 2) := by decide +kernel
theorem dX10_oneMore_212 : decode cX10_oneMore 212 = .ok (.iaload, 1) := by decide +kernel
theorem dX10_oneMore_213 : decode cX10_oneMore 213 = .ok (.iadd, 1) := by decide +kernel
theorem dX10_oneMore_214 : decode cX10_oneMore 214 = .ok (.dup2, 1) := by decide +kernel
theorem dX10_oneMore_215 : decode cX10_oneMore 215 = .ok (.iaload, 1) := by decide +kernel
theorem dX10_oneMore_216 : decode cX10_oneMore 216 = .ok (.iconst 1, 1) := by decide +kernel
theorem dX10_oneMore_217 : decode cX10_oneMore 217 = .ok (.iadd, 1) := by decide +kernel
theorem dX10_oneMore_218 : decode cX10_oneMore 218 = .ok (.iastore, 1) := by decide +kernel
theorem dX10_oneMore_219 : decode cX10_oneMore 219 = .ok (.aload_n 0, 1) := by decide +kernel
theorem dX10_oneMore_220 : decode cX10_oneMore 220 = .ok (.getfield 75, 3) := by decide +kernel
theorem dX10_oneMore_223 : decode cX10_oneMore 223 = .ok (.iload 5, 2) := by decide +kernel
theorem dX10_oneMore_225 : decode cX10_oneMore 225 = .ok (.iaload, 1) := by decide +kernel
theorem dX10_oneMore_226 : decode cX10_oneMore 226 = .ok (.istore 5, 2) := by decide +kernel
theorem dX10_oneMore_228 : decode cX10_oneMore 228 = .ok (.goto (-59), 3) := by decide +kernel
theorem dX10_oneMore_231 : decode cX10_oneMore 231 = .ok (.iconst 1, 1) := by decide +kernel
theorem dX10_oneMore_232 : decode cX10_oneMore 232 = .ok (.ireturn, 1) := by decide +kernel
theorem dX10_apart_0 : decode cX10_apart 0 = .ok (.aload_n 0, 1) := by decide +kernel
theorem dX10_apart_1 : decode cX10_apart 1 = .ok (.getfield 151, 3) := by decide +kernel
theorem dX10_apart_4 : decode cX10_apart 4 = .ok (.ifCond .lt 10, 3) := by decide +kernel
theorem dX10_apart_7 : decode cX10_apart 7 = .ok (.aload_n 0, 1) := by decide +kernel
theorem dX10_apart_8 : decode cX10_apart 8 = .ok (.getfield 154, 3) := by decide +kernel
theorem dX10_apart_11 : decode cX10_apart 11 = .ok (.ifCond .ge 5, 3) := by decide +kernel
theorem dX10_apart_14 : decode cX10_apart 14 = .ok (.iconst 0, 1) := by decide +kernel
theorem dX10_apart_15 : decode cX10_apart 15 = .ok (.ireturn, 1) := by decide +kernel
theorem dX10_apart_16 : decode cX10_apart 16 = .ok (.aload_n 0, 1) := by decide +kernel
theorem dX10_apart_17 : decode cX10_apart 17 = .ok (.getfield 151, 3) := by decide +kernel
theorem dX10_apart_20 : decode cX10_apart 20 = .ok (.aload_n 0, 1) := by decide +kernel
theorem dX10_apart_21 : decode cX10_apart 21 = .ok (.getfield 154, 3) := by decide +kernel
theorem dX10_apart_24 : decode cX10_apart 24 = .ok (.if_icmp .ne 5, 3) := by decide +kernel
theorem dX10_apart_27 : decode cX10_apart 27 = .ok (.iconst 1, 1) := by decide +kernel
theorem dX10_apart_28 : decode cX10_apart 28 = .ok (.ireturn, 1) := by decide +kernel
theorem dX10_apart_29 : decode cX10_apart 29 = .ok (.aload_n 0, 1) := by decide +kernel
theorem dX10_apart_30 : decode cX10_apart 30 = .ok (.invokevirtual 358, 3) := by decide +kernel
theorem dX10_apart_33 : decode cX10_apart 33 = .ok (.iconst 0, 1) := by decide +kernel
theorem dX10_apart_34 : decode cX10_apart 34 = .ok (.istore_n 1, 1) := by decide +kernel
theorem dX10_apart_35 : decode cX10_apart 35 = .ok (.aload_n 0, 1) := by decide +kernel
theorem dX10_apart_36 : decode cX10_apart 36 = .ok (.invokevirtual 361, 3) := by decide +kernel
theorem dX10_apart_39 : decode cX10_apart 39 = .ok (.ifCond .eq 9, 3) := by decide +kernel
theorem dX10_apart_42 : decode cX10_apart 42 = .ok (.iinc 1 1, 3) := by decide +kernel
theorem dX10_apart_45 : decode cX10_apart 45 = .ok (.goto (-10), 3) := by decide +kernel
theorem dX10_apart_48 : decode cX10_apart 48 = .ok (.iload_n 1, 1) := by decide +kernel
theorem dX10_apart_49 : decode cX10_apart 49 = .ok (.ireturn, 1) := by decide +kernel
theorem dX10_hasWay_0 : decode cX10_hasWay 0 = .ok (.aload_n 0, 1) := by decide +kernel
theorem dX10_hasWay_1 : decode cX10_hasWay 1 = .ok (.getfield 151, 3) := by decide +kernel
theorem dX10_hasWay_4 : decode cX10_hasWay 4 = .ok (.ifCond .lt 10, 3) := by decide +kernel
theorem dX10_hasWay_7 : decode cX10_hasWay 7 = .ok (.aload_n 0, 1) := by decide +kernel
theorem dX10_hasWay_8 : decode cX10_hasWay 8 = .ok (.getfield 154, 3) := by decide +kernel
theorem dX10_hasWay_11 : decode cX10_hasWay 11 = .ok (.ifCond .ge 5, 3) := by decide +kernel
theorem dX10_hasWay_14 : decode cX10_hasWay 14 = .ok (.iconst 0, 1) := by decide +kernel
theorem dX10_hasWay_15 : decode cX10_hasWay 15 = .ok (.ireturn, 1) := by decide +kernel
theorem dX10_hasWay_16 : decode cX10_hasWay 16 = .ok (.iconst 1, 1) := by decide +kernel
theorem dX10_hasWay_17 : decode cX10_hasWay 17 = .ok (.aload_n 0, 1) := by decide +kernel
theorem dX10_hasWay_18 : decode cX10_hasWay 18 = .ok (.getfield 151, 3) := by decide +kernel
theorem dX10_hasWay_21 : decode cX10_hasWay 21 = .ok (.ishl, 1) := by decide +kernel
theorem dX10_hasWay_22 : decode cX10_hasWay 22 = .ok (.istore_n 2, 1) := by decide +kernel
theorem dX10_hasWay_23 : decode cX10_hasWay 23 = .ok (.iconst 0, 1) := by decide +kernel
theorem dX10_hasWay_24 : decode cX10_hasWay 24 = .ok (.istore_n 3, 1) := by decide +kernel
theorem dX10_hasWay_25 : decode cX10_hasWay 25 = .ok (.iload_n 3, 1) := by decide +kernel
theorem dX10_hasWay_26 : decode cX10_hasWay 26 = .ok (.aload_n 0, 1) := by decide +kernel
theorem dX10_hasWay_27 : decode cX10_hasWay 27 = .ok (.getfield 289, 3) := by decide +kernel
theorem dX10_hasWay_30 : decode cX10_hasWay 30 = .ok (.if_icmp .ge 91, 3) := by decide +kernel
theorem dX10_hasWay_33 : decode cX10_hasWay 33 = .ok (.iconst 0, 1) := by decide +kernel
theorem dX10_hasWay_34 : decode cX10_hasWay 34 = .ok (.istore 4, 2) := by decide +kernel
theorem dX10_hasWay_36 : decode cX10_hasWay 36 = .ok (.iload 4, 2) := by decide +kernel
theorem dX10_hasWay_38 : decode cX10_hasWay 38 = .ok (.aload_n 0, 1) := by decide +kernel
theorem dX10_hasWay_39 : decode cX10_hasWay 39 = .ok (.getfield 289, 3) := by decide +kernel
theorem dX10_hasWay_42 : decode cX10_hasWay 42 = .ok (.if_icmp .ge 73, 3) := by decide +kernel
theorem dX10_hasWay_45 : decode cX10_hasWay 45 = .ok (.iload_n 2, 1) := by decide +kernel
theorem dX10_hasWay_46 : decode cX10_hasWay 46 = .ok (.iload 4, 2) := by decide +kernel
theorem dX10_hasWay_48 : decode cX10_hasWay 48 = .ok (.ishr, 1) := by decide +kernel
theorem dX10_hasWay_49 : decode cX10_hasWay 49 = .ok (.iconst 1, 1) := by decide +kernel
theorem dX10_hasWay_50 : decode cX10_hasWay 50 = .ok (.iand, 1) := by decide +kernel
theorem dX10_hasWay_51 : decode cX10_hasWay 51 = .ok (.iconst 1, 1) := by decide +kernel
theorem dX10_hasWay_52 : decode cX10_hasWay 52 = .ok (.if_icmp .ne 57, 3) := by decide +kernel
theorem dX10_hasWay_55 : decode cX10_hasWay 55 = .ok (.iconst 0, 1) := by decide +kernel
theorem dX10_hasWay_56 : decode cX10_hasWay 56 = .ok (.istore 5, 2) := by decide +kernel
theorem dX10_hasWay_58 : decode cX10_hasWay 58 = .ok (.iload 5, 2) := by decide +kernel
theorem dX10_hasWay_60 : decode cX10_hasWay 60 = .ok (.aload_n 0, 1) := by decide +kernel
theorem dX10_hasWay_61 : decode cX10_hasWay 61 = .ok (.getfield 289, 3) := by decide +kernel
theorem dX10_hasWay_64 : decode cX10_hasWay 64 = .ok (.if_icmp .ge 45, 3) := by decide +kernel
theorem dX10_hasWay_67 : decode cX10_hasWay 67 = .ok (.iload_n 2, 1) := by decide +kernel
theorem dX10_hasWay_68 : decode cX10_hasWay 68 = .ok (.aload_n 0, 1) := by decide +kernel
theorem dX10_hasWay_69 : decode cX10_hasWay 69 = .ok (.getfield 54, 3) := by decide +kernel
theorem dX10_hasWay_72 : decode cX10_hasWay 72 = .ok (.bipush 12, 2) := by decide +kernel
theorem dX10_hasWay_74 : decode cX10_hasWay 74 = .ok (.iload 4, 2) := by decide +kernel
theorem dX10_hasWay_76 : decode cX10_hasWay 76 = .ok (.imul, 1) := by decide +kernel
theorem dX10_hasWay_77 : decode cX10_hasWay 77 = .ok (.iload 5, 2) := by decide +kernel
theorem dX10_hasWay_79 : decode cX10_hasWay 79 = .ok (.iadd, 1) := by decide +kernel
theorem dX10_hasWay_80 : decode cX10_hasWay 80 = .ok (.iaload, 1) := by decide +kernel
theorem dX10_hasWay_81 : decode cX10_hasWay 81 = .ok (.ifCond .le 19, 3) := by decide +kernel
theorem dX10_hasWay_84 : decode cX10_hasWay 84 = .ok (.iload_n 1, 1) := by decide +kernel
theorem dX10_hasWay_85 : decode cX10_hasWay 85 = .ok (.iload 5, 2) := by decide +kernel
theorem dX10_hasWay_87 : decode cX10_hasWay 87 = .ok (.ishr, 1) := by decide +kernel
theorem dX10_hasWay_88 : decode cX10_hasWay 88 = .ok (.iconst 1, 1) := by decide +kernel
theorem dX10_hasWay_89 : decode cX10_hasWay 89 = .ok (.iand, 1) := by decide +kernel
theorem dX10_hasWay_90 : decode cX10_hasWay 90 = .ok (.ifCond .ne 10, 3) := by decide +kernel
theorem dX10_hasWay_93 : decode cX10_hasWay 93 = .ok (.iconst 1, 1) := by decide +kernel
theorem dX10_hasWay_94 : decode cX10_hasWay 94 = .ok (.iload 5, 2) := by decide +kernel
theorem dX10_hasWay_96 : decode cX10_hasWay 96 = .ok (.ishl, 1) := by decide +kernel
theorem dX10_hasWay_97 : decode cX10_hasWay 97 = .ok (.goto 4, 3) := by decide +kernel
theorem dX10_hasWay_100 : decode cX10_hasWay 100 = .ok (.iconst 0, 1) := by decide +kernel
theorem dX10_hasWay_101 : decode cX10_hasWay 101 = .ok (.ior, 1) := by decide +kernel
theorem dX10_hasWay_102 : decode cX10_hasWay 102 = .ok (.istore_n 2, 1) := by decide +kernel
theorem dX10_hasWay_103 : decode cX10_hasWay 103 = .ok (.iinc 5 1, 3) := by decide +kernel
theorem dX10_hasWay_106 : decode cX10_hasWay 106 = .ok (.goto (-48), 3) := by decide +kernel
theorem dX10_hasWay_109 : decode cX10_hasWay 109 = .ok (.iinc 4 1, 3) := by decide +kernel
theorem dX10_hasWay_112 : decode cX10_hasWay 112 = .ok (.goto (-76), 3) := by decide +kernel
theorem dX10_hasWay_115 : decode cX10_hasWay 115 = .ok (.iinc 3 1, 3) := by decide +kernel
theorem dX10_hasWay_118 : decode cX10_hasWay 118 = .ok (.goto (-93), 3) := by decide +kernel
theorem dX10_hasWay_121 : decode cX10_hasWay 121 = .ok (.iload_n 2, 1) := by decide +kernel
theorem dX10_hasWay_122 : decode cX10_hasWay 122 = .ok (.aload_n 0, 1) := by decide +kernel
theorem dX10_hasWay_123 : decode cX10_hasWay 123 = .ok (.getfield 154, 3) := by decide +kernel
theorem dX10_hasWay_126 : decode cX10_hasWay 126 = .ok (.ishr, 1) := by decide +kernel
theorem dX10_hasWay_127 : decode cX10_hasWay 127 = .ok (.iconst 1, 1) := by decide +kernel
theorem dX10_hasWay_128 : decode cX10_hasWay 128 = .ok (.iand, 1) := by decide +kernel
theorem dX10_hasWay_129 : decode cX10_hasWay 129 = .ok (.iconst 1, 1) := by decide +kernel
theorem dX10_hasWay_130 : decode cX10_hasWay 130 = .ok (.if_icmp .ne 7, 3) := by decide +kernel
theorem dX10_hasWay_133 : decode cX10_hasWay 133 = .ok (.iconst 1, 1) := by decide +kernel
theorem dX10_hasWay_134 : decode cX10_hasWay 134 = .ok (.goto 4, 3) := by decide +kernel
theorem dX10_hasWay_137 : decode cX10_hasWay 137 = .ok (.iconst 0, 1) := by decide +kernel
theorem dX10_hasWay_138 : decode cX10_hasWay 138 = .ok (.ireturn, 1) := by decide +kernel
theorem dX10_cut_0 : decode cX10_cut 0 = .ok (.aload_n 0, 1) := by decide +kernel
theorem dX10_cut_1 : decode cX10_cut 1 = .ok (.iconst 0, 1) := by decide +kernel
theorem dX10_cut_2 : decode cX10_cut 2 = .ok (.invokevirtual 364, 3) := by decide +kernel
theorem dX10_cut_5 : decode cX10_cut 5 = .ok (.ifCond .ne 5, 3) := by decide +kernel
theorem dX10_cut_8 : decode cX10_cut 8 = .ok (.iconst 0, 1) := by decide +kernel
theorem dX10_cut_9 : decode cX10_cut 9 = .ok (.ireturn, 1) := by decide +kernel
theorem dX10_cut_10 : decode cX10_cut 10 = .ok (.iconst 0, 1) := by decide +kernel
theorem dX10_cut_11 : decode cX10_cut 11 = .ok (.istore_n 1, 1) := by decide +kernel
theorem dX10_cut_12 : decode cX10_cut 12 = .ok (.iconst 0, 1) := by decide +kernel
theorem dX10_cut_13 : decode cX10_cut 13 = .ok (.istore_n 2, 1) := by decide +kernel
theorem dX10_cut_14 : decode cX10_cut 14 = .ok (.iload_n 2, 1) := by decide +kernel
theorem dX10_cut_15 : decode cX10_cut 15 = .ok (.aload_n 0, 1) := by decide +kernel
theorem dX10_cut_16 : decode cX10_cut 16 = .ok (.getfield 289, 3) := by decide +kernel
theorem dX10_cut_19 : decode cX10_cut 19 = .ok (.if_icmp .ge 45, 3) := by decide +kernel
theorem dX10_cut_22 : decode cX10_cut 22 = .ok (.iload_n 1, 1) := by decide +kernel
theorem dX10_cut_23 : decode cX10_cut 23 = .ok (.aload_n 0, 1) := by decide +kernel
theorem dX10_cut_24 : decode cX10_cut 24 = .ok (.getfield 39, 3) := by decide +kernel
theorem dX10_cut_27 : decode cX10_cut 27 = .ok (.iload_n 2, 1) := by decide +kernel
theorem dX10_cut_28 : decode cX10_cut 28 = .ok (.iaload, 1) := by decide +kernel
theorem dX10_cut_29 : decode cX10_cut 29 = .ok (.iconst 3, 1) := by decide +kernel
theorem dX10_cut_30 : decode cX10_cut 30 = .ok (.if_icmp .eq 19, 3) := by decide +kernel
theorem dX10_cut_33 : decode cX10_cut 33 = .ok (.iload_n 2, 1) := by decide +kernel
theorem dX10_cut_34 : decode cX10_cut 34 = .ok (.aload_n 0, 1) := by decide +kernel
theorem dX10_cut_35 : decode cX10_cut 35 = .ok (.getfield 151, 3) := by decide +kernel
theorem dX10_cut_38 : decode cX10_cut 38 = .ok (.if_icmp .eq 11, 3) := by decide +kernel
theorem dX10_cut_41 : decode cX10_cut 41 = .ok (.iload_n 2, 1) := by decide +kernel
theorem dX10_cut_42 : decode cX10_cut 42 = .ok (.aload_n 0, 1) := by decide +kernel
theorem dX10_cut_43 : decode cX10_cut 43 = .ok (.getfield 154, 3) := by decide +kernel
theorem dX10_cut_46 : decode cX10_cut 46 = .ok (.if_icmp .ne 7, 3) := by decide +kernel
theorem dX10_cut_49 : decode cX10_cut 49 = .ok (.iconst 0, 1) := by decide +kernel
theorem dX10_cut_50 : decode cX10_cut 50 = .ok (.goto 6, 3) := by decide +kernel
theorem dX10_cut_53 : decode cX10_cut 53 = .ok (.iconst 1, 1) := by decide +kernel
theorem dX10_cut_54 : decode cX10_cut 54 = .ok (.iload_n 2, 1) := by decide +kernel
theorem dX10_cut_55 : decode cX10_cut 55 = .ok (.ishl, 1) := by decide +kernel
theorem dX10_cut_56 : decode cX10_cut 56 = .ok (.ior, 1) := by decide +kernel
theorem dX10_cut_57 : decode cX10_cut 57 = .ok (.istore_n 1, 1) := by decide +kernel
theorem dX10_cut_58 : decode cX10_cut 58 = .ok (.iinc 2 1, 3) := by decide +kernel
theorem dX10_cut_61 : decode cX10_cut 61 = .ok (.goto (-47), 3) := by decide +kernel
theorem dX10_cut_64 : decode cX10_cut 64 = .ok (.iconst (-1), 1) := by decide +kernel
theorem dX10_cut_65 : decode cX10_cut 65 = .ok (.istore_n 2, 1) := by decide +kernel
theorem dX10_cut_66 : decode cX10_cut 66 = .ok (.iconst 0, 1) := by decide +kernel
theorem dX10_cut_67 : decode cX10_cut 67 = .ok (.istore_n 3, 1) := by decide +kernel
theorem dX10_cut_68 : decode cX10_cut 68 = .ok (.iload_n 3, 1) := by decide +kernel
theorem dX10_cut_69 : decode cX10_cut 69 = .ok (.iload_n 1, 1) := by decide +kernel
theorem dX10_cut_70 : decode cX10_cut 70 = .ok (.if_icmp .gt 45, 3) := by decide +kernel
theorem dX10_cut_73 : decode cX10_cut 73 = .ok (.iload_n 3, 1) := by decide +kernel
theorem dX10_cut_74 : decode cX10_cut 74 = .ok (.iload_n 1, 1) := by decide +kernel
theorem dX10_cut_75 : decode cX10_cut 75 = .ok (.iconst (-1), 1) := by decide +kernel
theorem dX10_cut_76 : decode cX10_cut 76 = .ok (.ixor, 1) := by decide +kernel
theorem dX10_cut_77 : decode cX10_cut 77 = .ok (.iand, 1) := by decide +kernel
theorem dX10_cut_78 : decode cX10_cut 78 = .ok (.ifCond .ne 31, 3) := by decide +kernel
theorem dX10_cut_81 : decode cX10_cut 81 = .ok (.iload_n 2, 1) := by decide +kernel
theorem dX10_cut_82 : decode cX10_cut 82 = .ok (.ifCond .lt 14, 3) := by decide +kernel
theorem dX10_cut_85 : decode cX10_cut 85 = .ok (.iload_n 3, 1) := by decide +kernel
theorem dX10_cut_86 : decode cX10_cut 86 = .ok (.invokestatic 367, 3) := by decide +kernel
theorem dX10_cut_89 : decode cX10_cut 89 = .ok (.iload_n 2, 1) := by decide +kernel
theorem dX10_cut_90 : decode cX10_cut 90 = .ok (.invokestatic 367, 3) := by decide +kernel
theorem dX10_cut_93 : decode cX10_cut 93 = .ok (.if_icmp .ge 16, 3) := by decide +kernel
theorem dX10_cut_96 : decode cX10_cut 96 = .ok (.aload_n 0, 1) := by decide +kernel
theorem dX10_cut_97 : decode cX10_cut 97 = .ok (.iload_n 3, 1) := by decide +kernel
theorem dX10_cut_98 : decode cX10_cut 98 = .ok (.invokevirtual 364, 3) := by decide +kernel
theorem dX10_cut_101 : decode cX10_cut 101 = .ok (.ifCond .eq 6, 3) := by decide +kernel
theorem dX10_cut_104 : decode cX10_cut 104 = .ok (.goto 5, 3) := by decide +kernel
theorem dX10_cut_107 : decode cX10_cut 107 = .ok (.iload_n 3, 1) := by decide +kernel
theorem dX10_cut_108 : decode cX10_cut 108 = .ok (.istore_n 2, 1) := by decide +kernel
theorem dX10_cut_109 : decode cX10_cut 109 = .ok (.iinc 3 1, 3) := by decide +kernel
theorem dX10_cut_112 : decode cX10_cut 112 = .ok (.goto (-44), 3) := by decide +kernel
theorem dX10_cut_115 : decode cX10_cut 115 = .ok (.iload_n 2, 1) := by decide +kernel
theorem dX10_cut_116 : decode cX10_cut 116 = .ok (.ireturn, 1) := by decide +kernel
theorem dX10_holdOf_0 : decode cX10_holdOf 0 = .ok (.aload_n 0, 1) := by decide +kernel
theorem dX10_holdOf_1 : decode cX10_holdOf 1 = .ok (.getfield 39, 3) := by decide +kernel
theorem dX10_holdOf_4 : decode cX10_holdOf 4 = .ok (.iload_n 1, 1) := by decide +kernel
theorem dX10_holdOf_5 : decode cX10_holdOf 5 = .ok (.iaload, 1) := by decide +kernel
theorem dX10_holdOf_6 : decode cX10_holdOf 6 = .ok (.iconst 2, 1) := by decide +kernel
theorem dX10_holdOf_7 : decode cX10_holdOf 7 = .ok (.if_icmp .ne 7, 3) := by decide +kernel
theorem dX10_holdOf_10 : decode cX10_holdOf 10 = .ok (.iconst 0, 1) := by decide +kernel
theorem dX10_holdOf_11 : decode cX10_holdOf 11 = .ok (.goto 9, 3) := by decide +kernel
theorem dX10_holdOf_14 : decode cX10_holdOf 14 = .ok (.aload_n 0, 1) := by decide +kernel
theorem dX10_holdOf_15 : decode cX10_holdOf 15 = .ok (.getfield 45, 3) := by decide +kernel
theorem dX10_holdOf_18 : decode cX10_holdOf 18 = .ok (.iload_n 1, 1) := by decide +kernel
theorem dX10_holdOf_19 : decode cX10_holdOf 19 = .ok (.iaload, 1) := by decide +kernel
theorem dX10_holdOf_20 : decode cX10_holdOf 20 = .ok (.ireturn, 1) := by decide +kernel
theorem dX10_isFree_0 : decode cX10_isFree 0 = .ok (.aload_n 0, 1) := by decide +kernel
theorem dX10_isFree_1 : decode cX10_isFree 1 = .ok (.getfield 81, 3) := by decide +kernel
theorem dX10_isFree_4 : decode cX10_isFree 4 = .ok (.iload_n 1, 1) := by decide +kernel
theorem dX10_isFree_5 : decode cX10_isFree 5 = .ok (.iaload, 1) := by decide +kernel
theorem dX10_isFree_6 : decode cX10_isFree 6 = .ok (.ifCond .ge 16, 3) := by decide +kernel
theorem dX10_isFree_9 : decode cX10_isFree 9 = .ok (.aload_n 0, 1) := by decide +kernel
theorem dX10_isFree_10 : decode cX10_isFree 10 = .ok (.getfield 84, 3) := by decide +kernel
theorem dX10_isFree_13 : decode cX10_isFree 13 = .ok (.iload_n 1, 1) := by decide +kernel
theorem dX10_isFree_14 : decode cX10_isFree 14 = .ok (.iaload, 1) := by decide +kernel
theorem dX10_isFree_15 : decode cX10_isFree 15 = .ok (.ifCond .ge 7, 3) := by decide +kernel
theorem dX10_isFree_18 : decode cX10_isFree 18 = .ok (.iconst 1, 1) := by decide +kernel
theorem dX10_isFree_19 : decode cX10_isFree 19 = .ok (.goto 4, 3) := by decide +kernel
theorem dX10_isFree_22 : decode cX10_isFree 22 = .ok (.iconst 0, 1) := by decide +kernel
theorem dX10_isFree_23 : decode cX10_isFree 23 = .ok (.ireturn, 1) := by decide +kernel
theorem dX10_tellOn_0 : decode cX10_tellOn 0 = .ok (.iconst 0, 1) := by decide +kernel
theorem dX10_tellOn_1 : decode cX10_tellOn 1 = .ok (.istore_n 2, 1) := by decide +kernel
theorem dX10_tellOn_2 : decode cX10_tellOn 2 = .ok (.iconst 1, 1) := by decide +kernel
theorem dX10_tellOn_3 : decode cX10_tellOn 3 = .ok (.istore_n 3, 1) := by decide +kernel
theorem dX10_tellOn_4 : decode cX10_tellOn 4 = .ok (.iload_n 3, 1) := by decide +kernel
theorem dX10_tellOn_5 : decode cX10_tellOn 5 = .ok (.ifCond .eq 115, 3) := by decide +kernel
theorem dX10_tellOn_8 : decode cX10_tellOn 8 = .ok (.iconst 0, 1) := by decide +kernel
theorem dX10_tellOn_9 : decode cX10_tellOn 9 = .ok (.istore_n 3, 1) := by decide +kernel
theorem dX10_tellOn_10 : decode cX10_tellOn 10 = .ok (.iconst 0, 1) := by decide +kernel
theorem dX10_tellOn_11 : decode cX10_tellOn 11 = .ok (.istore 4, 2) := by decide +kernel
theorem dX10_tellOn_13 : decode cX10_tellOn 13 = .ok (.iload 4, 2) := by decide +kernel
theorem dX10_tellOn_15 : decode cX10_tellOn 15 = .ok (.aload_n 0, 1) := by decide +kernel
theorem dX10_tellOn_16 : decode cX10_tellOn 16 = .ok (.getfield 289, 3) := by decide +kernel
theorem dX10_tellOn_19 : decode cX10_tellOn 19 = .ok (.if_icmp .ge 98, 3) := by decide +kernel
theorem dX10_tellOn_22 : decode cX10_tellOn 22 = .ok (.aload_n 0, 1) := by decide +kernel
theorem dX10_tellOn_23 : decode cX10_tellOn 23 = .ok (.getfield 81, 3) := by decide +kernel
theorem dX10_tellOn_26 : decode cX10_tellOn 26 = .ok (.iload 4, 2) := by decide +kernel
theorem dX10_tellOn_28 : decode cX10_tellOn 28 = .ok (.iaload, 1) := by decide +kernel
theorem dX10_tellOn_29 : decode cX10_tellOn 29 = .ok (.ifCond .lt 82, 3) := by decide +kernel
theorem dX10_tellOn_32 : decode cX10_tellOn 32 = .ok (.aload_n 0, 1) := by decide +kernel
theorem dX10_tellOn_33 : decode cX10_tellOn 33 = .ok (.getfield 81, 3) := by decide +kernel
theorem dX10_tellOn_36 : decode cX10_tellOn 36 = .ok (.iload 4, 2) := by decide +kernel
theorem dX10_tellOn_38 : decode cX10_tellOn 38 = .ok (.iaload, 1) := by decide +kernel
theorem dX10_tellOn_39 : decode cX10_tellOn 39 = .ok (.aload_n 0, 1) := by decide +kernel
theorem dX10_tellOn_40 : decode cX10_tellOn 40 = .ok (.iload 4, 2) := by decide +kernel
theorem dX10_tellOn_42 : decode cX10_tellOn 42 = .ok (.invokevirtual 370, 3) := by decide +kernel
theorem dX10_tellOn_45 : decode cX10_tellOn 45 = .ok (.iadd, 1) := by decide +kernel
theorem dX10_tellOn_46 : decode cX10_tellOn 46 = .ok (.iload_n 1, 1) := by decide +kernel
theorem dX10_tellOn_47 : decode cX10_tellOn 47 = .ok (.if_icmp .eq 6, 3) := by decide +kernel
theorem dX10_tellOn_50 : decode cX10_tellOn 50 = .ok (.goto 61, 3) := by decide +kernel
theorem dX10_tellOn_53 : decode cX10_tellOn 53 = .ok (.iconst 0, 1) := by decide +kernel
theorem dX10_tellOn_54 : decode cX10_tellOn 54 = .ok (.istore 5, 2) := by decide +kernel
theorem dX10_tellOn_56 : decode cX10_tellOn 56 = .ok (.iload 5, 2) := by decide +kernel
theorem dX10_tellOn_58 : decode cX10_tellOn 58 = .ok (.aload_n 0, 1) := by decide +kernel
theorem dX10_tellOn_59 : decode cX10_tellOn 59 = .ok (.getfield 289, 3) := by decide +kernel
theorem dX10_tellOn_62 : decode cX10_tellOn 62 = .ok (.if_icmp .ge 49, 3) := by decide +kernel
theorem dX10_tellOn_65 : decode cX10_tellOn 65 = .ok (.aload_n 0, 1) := by decide +kernel
theorem dX10_tellOn_66 : decode cX10_tellOn 66 = .ok (.getfield 87, 3) := by decide +kernel
theorem dX10_tellOn_69 : decode cX10_tellOn 69 = .ok (.iload 4, 2) := by decide +kernel
theorem dX10_tellOn_71 : decode cX10_tellOn 71 = .ok (.iaload, 1) := by decide +kernel
theorem dX10_tellOn_72 : decode cX10_tellOn 72 = .ok (.iload 5, 2) := by decide +kernel
theorem dX10_tellOn_74 : decode cX10_tellOn 74 = .ok (.ishr, 1) := by decide +kernel
theorem dX10_tellOn_75 : decode cX10_tellOn 75 = .ok (.iconst 1, 1) := by decide +kernel
theorem dX10_tellOn_76 : decode cX10_tellOn 76 = .ok (.iand, 1) := by decide +kernel
theorem dX10_tellOn_77 : decode cX10_tellOn 77 = .ok (.ifCond .eq 28, 3) := by decide +kernel
theorem dX10_tellOn_80 : decode cX10_tellOn 80 = .ok (.aload_n 0, 1) := by decide +kernel
theorem dX10_tellOn_81 : decode cX10_tellOn 81 = .ok (.iload 5, 2) := by decide +kernel
theorem dX10_tellOn_83 : decode cX10_tellOn 83 = .ok (.invokevirtual 373, 3) := by decide +kernel
theorem dX10_tellOn_86 : decode cX10_tellOn 86 = .ok (.ifCond .ne 6, 3) := by decide +kernel
theorem dX10_tellOn_89 : decode cX10_tellOn 89 = .ok (.goto 16, 3) := by decide +kernel
theorem dX10_tellOn_92 : decode cX10_tellOn 92 = .ok (.aload_n 0, 1) := by decide +kernel
theorem dX10_tellOn_93 : decode cX10_tellOn 93 = .ok (.getfield 81, 3) := by decide +kernel
theorem dX10_tellOn_96 : decode cX10_tellOn 96 = .ok (.iload 5, 2) := by decide +kernel
theorem dX10_tellOn_98 : decode cX10_tellOn 98 = .ok (.iload_n 1, 1) := by decide +kernel
theorem dX10_tellOn_99 : decode cX10_tellOn 99 = .ok (.iastore, 1) := by decide +kernel
theorem dX10_tellOn_100 : decode cX10_tellOn 100 = .ok (.iinc 2 1, 3) := by decide +kernel
theorem dX10_tellOn_103 : decode cX10_tellOn 103 = .ok (.iconst 1, 1) := by decide +kernel
theorem dX10_tellOn_104 : decode cX10_tellOn 104 = .ok (.istore_n 3, 1) := by decide +kernel
theorem dX10_tellOn_105 : decode cX10_tellOn 105 = .ok (.iinc 5 1, 3) := by decide +kernel
theorem dX10_tellOn_108 : decode cX10_tellOn 108 = .ok (.goto (-52), 3) := by decide +kernel
theorem dX10_tellOn_111 : decode cX10_tellOn 111 = .ok (.iinc 4 1, 3) := by decide +kernel
theorem dX10_tellOn_114 : decode cX10_tellOn 114 = .ok (.goto (-101), 3) := by decide +kernel
theorem dX10_tellOn_117 : decode cX10_tellOn 117 = .ok (.goto (-113), 3) := by decide +kernel
theorem dX10_tellOn_120 : decode cX10_tellOn 120 = .ok (.iload_n 2, 1) := by decide +kernel
theorem dX10_tellOn_121 : decode cX10_tellOn 121 = .ok (.ireturn, 1) := by decide +kernel
theorem dX10_goOn_0 : decode cX10_goOn 0 = .ok (.iconst 0, 1) := by decide +kernel
theorem dX10_goOn_1 : decode cX10_goOn 1 = .ok (.istore_n 2, 1) := by decide +kernel
theorem dX10_goOn_2 : decode cX10_goOn 2 = .ok (.iload_n 2, 1) := by decide +kernel
theorem dX10_goOn_3 : decode cX10_goOn 3 = .ok (.aload_n 0, 1) := by decide +kernel
theorem dX10_goOn_4 : decode cX10_goOn 4 = .ok (.getfield 289, 3) := by decide +kernel
theorem dX10_goOn_7 : decode cX10_goOn 7 = .ok (.if_icmp .ge 134, 3) := by decide +kernel
theorem dX10_goOn_10 : decode cX10_goOn 10 = .ok (.aload_n 0, 1) := by decide +kernel
theorem dX10_goOn_11 : decode cX10_goOn 11 = .ok (.iload_n 2, 1) := by decide +kernel
theorem dX10_goOn_12 : decode cX10_goOn 12 = .ok (.invokevirtual 373, 3) := by decide +kernel
theorem dX10_goOn_15 : decode cX10_goOn 15 = .ok (.ifCond .eq 120, 3) := by decide +kernel
theorem dX10_goOn_18 : decode cX10_goOn 18 = .ok (.aload_n 0, 1) := by decide +kernel
theorem dX10_goOn_19 : decode cX10_goOn 19 = .ok (.getfield 39, 3) := by decide +kernel
theorem dX10_goOn_22 : decode cX10_goOn 22 = .ok (.iload_n 2, 1) := by decide +kernel
theorem dX10_goOn_23 : decode cX10_goOn 23 = .ok (.iaload, 1) := by decide +kernel
theorem dX10_goOn_24 : decode cX10_goOn 24 = .ok (.iconst 2, 1) := by decide +kernel
theorem dX10_goOn_25 : decode cX10_goOn 25 = .ok (.if_icmp .eq 110, 3) := by decide +kernel
theorem dX10_goOn_28 : decode cX10_goOn 28 = .ok (.aload_n 0, 1) := by decide +kernel
theorem dX10_goOn_29 : decode cX10_goOn 29 = .ok (.getfield 39, 3) := by decide +kernel
theorem dX10_goOn_32 : decode cX10_goOn 32 = .ok (.iload_n 2, 1) := by decide +kernel
theorem dX10_goOn_33 : decode cX10_goOn 33 = .ok (.iaload, 1) := by decide +kernel
theorem dX10_goOn_34 : decode cX10_goOn 34 = .ok (.iconst 3, 1) := by decide +kernel
theorem dX10_goOn_35 : decode cX10_goOn 35 = .ok (.if_icmp .ne 6, 3) := by decide +kernel
theorem dX10_goOn_38 : decode cX10_goOn 38 = .ok (.goto 97, 3) := by decide +kernel
theorem dX10_goOn_41 : decode cX10_goOn 41 = .ok (.ldc_w 314, 3) := by decide +kernel
theorem dX10_goOn_44 : decode cX10_goOn 44 = .ok (.istore_n 3, 1) := by decide +kernel
theorem dX10_goOn_45 : decode cX10_goOn 45 = .ok (.iconst 0, 1) := by decide +kernel
theorem dX10_goOn_46 : decode cX10_goOn 46 = .ok (.istore 4, 2) := by decide +kernel
theorem dX10_goOn_48 : decode cX10_goOn 48 = .ok (.iload 4, 2) := by decide +kernel
theorem dX10_goOn_50 : decode cX10_goOn 50 = .ok (.aload_n 0, 1) := by decide +kernel
theorem dX10_goOn_51 : decode cX10_goOn 51 = .ok (.getfield 289, 3) := by decide +kernel
theorem dX10_goOn_54 : decode cX10_goOn 54 = .ok (.if_icmp .ge 53, 3) := by decide +kernel
theorem dX10_goOn_57 : decode cX10_goOn 57 = .ok (.aload_n 0, 1) := by decide +kernel
theorem dX10_goOn_58 : decode cX10_goOn 58 = .ok (.getfield 87, 3) := by decide +kernel
theorem dX10_goOn_61 : decode cX10_goOn 61 = .ok (.iload_n 2, 1) := by decide +kernel
theorem dX10_goOn_62 : decode cX10_goOn 62 = .ok (.iaload, 1) := by decide +kernel
theorem dX10_goOn_63 : decode cX10_goOn 63 = .ok (.iload 4, 2) := by decide +kernel
theorem dX10_goOn_65 : decode cX10_goOn 65 = .ok (.ishr, 1) := by decide +kernel
theorem dX10_goOn_66 : decode cX10_goOn 66 = .ok (.iconst 1, 1) := by decide +kernel
theorem dX10_goOn_67 : decode cX10_goOn 67 = .ok (.iand, 1) := by decide +kernel
theorem dX10_goOn_68 : decode cX10_goOn 68 = .ok (.iconst 1, 1) := by decide +kernel
theorem dX10_goOn_69 : decode cX10_goOn 69 = .ok (.if_icmp .ne 32, 3) := by decide +kernel
theorem dX10_goOn_72 : decode cX10_goOn 72 = .ok (.aload_n 0, 1) := by decide +kernel
theorem dX10_goOn_73 : decode cX10_goOn 73 = .ok (.getfield 81, 3) := by decide +kernel
theorem dX10_goOn_76 : decode cX10_goOn 76 = .ok (.iload 4, 2) := by decide +kernel
theorem dX10_goOn_78 : decode cX10_goOn 78 = .ok (.iaload, 1) := by decide +kernel
theorem dX10_goOn_79 : decode cX10_goOn 79 = .ok (.ifCond .lt 22, 3) := by decide +kernel
theorem dX10_goOn_82 : decode cX10_goOn 82 = .ok (.aload_n 0, 1) := by decide +kernel
theorem dX10_goOn_83 : decode cX10_goOn 83 = .ok (.getfield 81, 3) := by decide +kernel
theorem dX10_goOn_86 : decode cX10_goOn 86 = .ok (.iload 4, 2) := by decide +kernel
theorem dX10_goOn_88 : decode cX10_goOn 88 = .ok (.iaload, 1) := by decide +kernel
theorem dX10_goOn_89 : decode cX10_goOn 89 = .ok (.iload_n 3, 1) := by decide +kernel
theorem dX10_goOn_90 : decode cX10_goOn 90 = .ok (.if_icmp .ge 11, 3) := by decide +kernel
theorem dX10_goOn_93 : decode cX10_goOn 93 = .ok (.aload_n 0, 1) := by decide +kernel
theorem dX10_goOn_94 : decode cX10_goOn 94 = .ok (.getfield 81, 3) := by decide +kernel
theorem dX10_goOn_97 : decode cX10_goOn 97 = .ok (.iload 4, 2) := by decide +kernel
theorem dX10_goOn_99 : decode cX10_goOn 99 = .ok (.iaload, 1) := by decide +kernel
theorem dX10_goOn_100 : decode cX10_goOn 100 = .ok (.istore_n 3, 1) := by decide +kernel
theorem dX10_goOn_101 : decode cX10_goOn 101 = .ok (.iinc 4 1, 3) := by decide +kernel
theorem dX10_goOn_104 : decode cX10_goOn 104 = .ok (.goto (-56), 3) := by decide +kernel
theorem dX10_goOn_107 : decode cX10_goOn 107 = .ok (.iload_n 3, 1) := by decide +kernel
theorem dX10_goOn_108 : decode cX10_goOn 108 = .ok (.ldc_w 314, 3) := by decide +kernel
theorem dX10_goOn_111 : decode cX10_goOn 111 = .ok (.if_icmp .eq 24, 3) := by decide +kernel
theorem dX10_goOn_114 : decode cX10_goOn 114 = .ok (.iload_n 3, 1) := by decide +kernel
theorem dX10_goOn_115 : decode cX10_goOn 115 = .ok (.iconst 1, 1) := by decide +kernel
theorem dX10_goOn_116 : decode cX10_goOn 116 = .ok (.iadd, 1) := by decide +kernel
theorem dX10_goOn_117 : decode cX10_goOn 117 = .ok (.aload_n 0, 1) := by decide +kernel
theorem dX10_goOn_118 : decode cX10_goOn 118 = .ok (.getfield 42, 3) := by decide +kernel
theorem dX10_goOn_121 : decode cX10_goOn 121 = .ok (.iload_n 2, 1) := by decide +kernel
theorem dX10_goOn_122 : decode cX10_goOn 122 = .ok (.iaload, 1) := by decide +kernel
theorem dX10_goOn_123 : decode cX10_goOn 123 = .ok (.iadd, 1) := by decide +kernel
theorem dX10_goOn_124 : decode cX10_goOn 124 = .ok (.iload_n 1, 1) := by decide +kernel
theorem dX10_goOn_125 : decode cX10_goOn 125 = .ok (.if_icmp .gt 10, 3) := by decide +kernel
theorem dX10_goOn_128 : decode cX10_goOn 128 = .ok (.aload_n 0, 1) := by decide +kernel
theorem dX10_goOn_129 : decode cX10_goOn 129 = .ok (.getfield 84, 3) := by decide +kernel
theorem dX10_goOn_132 : decode cX10_goOn 132 = .ok (.iload_n 2, 1) := by decide +kernel
theorem dX10_goOn_133 : decode cX10_goOn 133 = .ok (.iload_n 1, 1) := by decide +kernel
theorem dX10_goOn_134 : decode cX10_goOn 134 = .ok (.iastore, 1) := by decide +kernel
theorem dX10_goOn_135 : decode cX10_goOn 135 = .ok (.iinc 2 1, 3) := by decide +kernel
theorem dX10_goOn_138 : decode cX10_goOn 138 = .ok (.goto (-136), 3) := by decide +kernel
theorem dX10_goOn_141 : decode cX10_goOn 141 = .ok (.return_, 1) := by decide +kernel
theorem dX10_layFall_0 : decode cX10_layFall 0 = .ok (.iconst 0, 1) := by decide +kernel
theorem dX10_layFall_1 : decode cX10_layFall 1 = .ok (.istore_n 2, 1) := by decide +kernel
theorem dX10_layFall_2 : decode cX10_layFall 2 = .ok (.iload_n 2, 1) := by decide +kernel
theorem dX10_layFall_3 : decode cX10_layFall 3 = .ok (.bipush 12, 2) := by decide +kernel
theorem dX10_layFall_5 : decode cX10_layFall 5 = .ok (.if_icmp .ge 35, 3) := by decide +kernel
theorem dX10_layFall_8 : decode cX10_layFall 8 = .ok (.aload_n 0, 1) := by decide +kernel
theorem dX10_layFall_9 : decode cX10_layFall 9 = .ok (.getfield 81, 3) := by decide +kernel
theorem dX10_layFall_12 : decode cX10_layFall 12 = .ok (.iload_n 2, 1) := by decide +kernel
theorem dX10_layFall_13 : decode cX10_layFall 13 = .ok (.iconst (-1), 1) := by decide +kernel
theorem dX10_layFall_14 : decode cX10_layFall 14 = .ok (.iastore, 1) := by decide +kernel
theorem dX10_layFall_15 : decode cX10_layFall 15 = .ok (.aload_n 0, 1) := by decide +kernel
theorem dX10_layFall_16 : decode cX10_layFall 16 = .ok (.getfield 84, 3) := by decide +kernel
theorem dX10_layFall_19 : decode cX10_layFall 19 = .ok (.iload_n 2, 1) := by decide +kernel
theorem dX10_layFall_20 : decode cX10_layFall 20 = .ok (.iconst (-1), 1) := by decide +kernel
theorem dX10_layFall_21 : decode cX10_layFall 21 = .ok (.iastore, 1) := by decide +kernel
theorem dX10_layFall_22 : decode cX10_layFall 22 = .ok (.aload_n 0, 1) := by decide +kernel
theorem dX10_layFall_23 : decode cX10_layFall 23 = .ok (.getfield 87, 3) := by decide +kernel
theorem dX10_layFall_26 : decode cX10_layFall 26 = .ok (.iload_n 2, 1) := by decide +kernel
theorem dX10_layFall_27 : decode cX10_layFall 27 = .ok (.aload_n 0, 1) := by decide +kernel
theorem dX10_layFall_28 : decode cX10_layFall 28 = .ok (.getfield 57, 3) := by decide +kernel
theorem dX10_layFall_31 : decode cX10_layFall 31 = .ok (.iload_n 2, 1) := by decide +kernel
theorem dX10_layFall_32 : decode cX10_layFall 32 = .ok (.iaload, 1) := by decide +kernel
theorem dX10_layFall_33 : decode cX10_layFall 33 = .ok (.iastore, 1) := by decide +kernel
theorem dX10_layFall_34 : decode cX10_layFall 34 = .ok (.iinc 2 1, 3) := by decide +kernel
theorem dX10_layFall_37 : decode cX10_layFall 37 = .ok (.goto (-35), 3) := by decide +kernel
theorem dX10_layFall_40 : decode cX10_layFall 40 = .ok (.aload_n 0, 1) := by decide +kernel
theorem dX10_layFall_41 : decode cX10_layFall 41 = .ok (.getfield 81, 3) := by decide +kernel
theorem dX10_layFall_44 : decode cX10_layFall 44 = .ok (.iload_n 1, 1) := by decide +kernel
theorem dX10_layFall_45 : decode cX10_layFall 45 = .ok (.iconst 0, 1) := by decide +kernel
theorem dX10_layFall_46 : decode cX10_layFall 46 = .ok (.iastore, 1) := by decide +kernel
theorem dX10_layFall_47 : decode cX10_layFall 47 = .ok (.iconst 0, 1) := by decide +kernel
theorem dX10_layFall_48 : decode cX10_layFall 48 = .ok (.istore_n 2, 1) := by decide +kernel
theorem dX10_layFall_49 : decode cX10_layFall 49 = .ok (.iload_n 2, 1) := by decide +kernel
theorem dX10_layFall_50 : decode cX10_layFall 50 = .ok (.sipush 400, 3) := by decide +kernel
theorem dX10_layFall_53 : decode cX10_layFall 53 = .ok (.if_icmp .gt 20, 3) := by decide +kernel
theorem dX10_layFall_56 : decode cX10_layFall 56 = .ok (.aload_n 0, 1) := by decide +kernel
theorem dX10_layFall_57 : decode cX10_layFall 57 = .ok (.iload_n 2, 1) := by decide +kernel
theorem dX10_layFall_58 : decode cX10_layFall 58 = .ok (.invokevirtual 376, 3) := by decide +kernel
theorem dX10_layFall_61 : decode cX10_layFall 61 = .ok (.pop, 1) := by decide +kernel
theorem dX10_layFall_62 : decode cX10_layFall 62 = .ok (.aload_n 0, 1) := by decide +kernel
theorem dX10_layFall_63 : decode cX10_layFall 63 = .ok (.iload_n 2, 1) := by decide +kernel
theorem dX10_layFall_64 : decode cX10_layFall 64 = .ok (.invokevirtual 379, 3) := by decide +kernel
theorem dX10_layFall_67 : decode cX10_layFall 67 = .ok (.iinc 2 1, 3) := by decide +kernel
theorem dX10_layFall_70 : decode cX10_layFall 70 = .ok (.goto (-21), 3) := by decide +kernel
theorem dX10_layFall_73 : decode cX10_layFall 73 = .ok (.return_, 1) := by decide +kernel
theorem dX10_canFall_0 : decode cX10_canFall 0 = .ok (.aload_n 0, 1) := by decide +kernel
theorem dX10_canFall_1 : decode cX10_canFall 1 = .ok (.iload_n 1, 1) := by decide +kernel
theorem dX10_canFall_2 : decode cX10_canFall 2 = .ok (.invokevirtual 311, 3) := by decide +kernel
theorem dX10_canFall_5 : decode cX10_canFall 5 = .ok (.ifCond .eq 17, 3) := by decide +kernel
theorem dX10_canFall_8 : decode cX10_canFall 8 = .ok (.aload_n 0, 1) := by decide +kernel
theorem dX10_canFall_9 : decode cX10_canFall 9 = .ok (.getfield 39, 3) := by decide +kernel
theorem dX10_canFall_12 : decode cX10_canFall 12 = .ok (.iload_n 1, 1) := by decide +kernel
theorem dX10_canFall_13 : decode cX10_canFall 13 = .ok (.iaload, 1) := by decide +kernel
theorem dX10_canFall_14 : decode cX10_canFall 14 = .ok (.iconst 3, 1) := by decide +kernel
theorem dX10_canFall_15 : decode cX10_canFall 15 = .ok (.if_icmp .eq 7, 3) := by decide +kernel
theorem dX10_canFall_18 : decode cX10_canFall 18 = .ok (.iconst 1, 1) := by decide +kernel
theorem dX10_canFall_19 : decode cX10_canFall 19 = .ok (.goto 4, 3) := by decide +kernel
theorem dX10_canFall_22 : decode cX10_canFall 22 = .ok (.iconst 0, 1) := by decide +kernel
theorem dX10_canFall_23 : decode cX10_canFall 23 = .ok (.ireturn, 1) := by decide +kernel
theorem dX10_fall_0 : decode cX10_fall 0 = .ok (.aload_n 0, 1) := by decide +kernel
theorem dX10_fall_1 : decode cX10_fall 1 = .ok (.iload_n 1, 1) := by decide +kernel
theorem dX10_fall_2 : decode cX10_fall 2 = .ok (.invokevirtual 382, 3) := by decide +kernel
theorem dX10_fall_5 : decode cX10_fall 5 = .ok (.ifCond .eq 20, 3) := by decide +kernel
theorem dX10_fall_8 : decode cX10_fall 8 = .ok (.aload_n 0, 1) := by decide +kernel
theorem dX10_fall_9 : decode cX10_fall 9 = .ok (.iload_n 2, 1) := by decide +kernel
theorem dX10_fall_10 : decode cX10_fall 10 = .ok (.invokevirtual 311, 3) := by decide +kernel
theorem dX10_fall_13 : decode cX10_fall 13 = .ok (.ifCond .eq 12, 3) := by decide +kernel
theorem dX10_fall_16 : decode cX10_fall 16 = .ok (.iload_n 3, 1) := by decide +kernel
theorem dX10_fall_17 : decode cX10_fall 17 = .ok (.ifCond .lt 8, 3) := by decide +kernel
theorem dX10_fall_20 : decode cX10_fall 20 = .ok (.iload_n 3, 1) := by decide +kernel
theorem dX10_fall_21 : decode cX10_fall 21 = .ok (.iconst 1, 1) := by decide +kernel
theorem dX10_fall_22 : decode cX10_fall 22 = .ok (.if_icmp .le 6, 3) := by decide +kernel
theorem dX10_fall_25 : decode cX10_fall 25 = .ok (.bipush (-2), 2) := by decide +kernel
theorem dX10_fall_27 : decode cX10_fall 27 = .ok (.ireturn, 1) := by decide +kernel
theorem dX10_fall_28 : decode cX10_fall 28 = .ok (.aload_n 0, 1) := by decide +kernel
theorem dX10_fall_29 : decode cX10_fall 29 = .ok (.iload_n 1, 1) := by decide +kernel
theorem dX10_fall_30 : decode cX10_fall 30 = .ok (.invokevirtual 385, 3) := by decide +kernel
theorem dX10_fall_33 : decode cX10_fall 33 = .ok (.iload_n 3, 1) := by decide +kernel
theorem dX10_fall_34 : decode cX10_fall 34 = .ok (.ifCond .ne 12, 3) := by decide +kernel
theorem dX10_fall_37 : decode cX10_fall 37 = .ok (.aload_n 0, 1) := by decide +kernel
theorem dX10_fall_38 : decode cX10_fall 38 = .ok (.getfield 81, 3) := by decide +kernel
theorem dX10_fall_41 : decode cX10_fall 41 = .ok (.iload_n 2, 1) := by decide +kernel
theorem dX10_fall_42 : decode cX10_fall 42 = .ok (.iaload, 1) := by decide +kernel
theorem dX10_fall_43 : decode cX10_fall 43 = .ok (.goto 9, 3) := by decide +kernel
theorem dX10_fall_46 : decode cX10_fall 46 = .ok (.aload_n 0, 1) := by decide +kernel
theorem dX10_fall_47 : decode cX10_fall 47 = .ok (.getfield 84, 3) := by decide +kernel
theorem dX10_fall_50 : decode cX10_fall 50 = .ok (.iload_n 2, 1) := by decide +kernel
theorem dX10_fall_51 : decode cX10_fall 51 = .ok (.iaload, 1) := by decide +kernel
theorem dX10_fall_52 : decode cX10_fall 52 = .ok (.ireturn, 1) := by decide +kernel
theorem dX10_worst_0 : decode cX10_worst 0 = .ok (.iload_n 1, 1) := by decide +kernel
theorem dX10_worst_1 : decode cX10_worst 1 = .ok (.ifCond .lt 8, 3) := by decide +kernel
theorem dX10_worst_4 : decode cX10_worst 4 = .ok (.iload_n 1, 1) := by decide +kernel
theorem dX10_worst_5 : decode cX10_worst 5 = .ok (.iconst 1, 1) := by decide +kernel
theorem dX10_worst_6 : decode cX10_worst 6 = .ok (.if_icmp .le 5, 3) := by decide +kernel
theorem dX10_worst_9 : decode cX10_worst 9 = .ok (.iconst (-1), 1) := by decide +kernel
theorem dX10_worst_10 : decode cX10_worst 10 = .ok (.ireturn, 1) := by decide +kernel
theorem dX10_worst_11 : decode cX10_worst 11 = .ok (.iconst (-1), 1) := by decide +kernel
theorem dX10_worst_12 : decode cX10_worst 12 = .ok (.istore_n 2, 1) := by decide +kernel
theorem dX10_worst_13 : decode cX10_worst 13 = .ok (.iconst 0, 1) := by decide +kernel
theorem dX10_worst_14 : decode cX10_worst 14 = .ok (.istore_n 3, 1) := by decide +kernel
theorem dX10_worst_15 : decode cX10_worst 15 = .ok (.iconst 0, 1) := by decide +kernel
theorem dX10_worst_16 : decode cX10_worst 16 = .ok (.istore 4, 2) := by decide +kernel
theorem dX10_worst_18 : decode cX10_worst 18 = .ok (.iload 4, 2) := by decide +kernel
theorem dX10_worst_20 : decode cX10_worst 20 = .ok (.aload_n 0, 1) := by decide +kernel
theorem dX10_worst_21 : decode cX10_worst 21 = .ok (.getfield 289, 3) := by decide +kernel
theorem dX10_worst_24 : decode cX10_worst 24 = .ok (.if_icmp .ge 83, 3) := by decide +kernel
theorem dX10_worst_27 : decode cX10_worst 27 = .ok (.aload_n 0, 1) := by decide +kernel
theorem dX10_worst_28 : decode cX10_worst 28 = .ok (.iload 4, 2) := by decide +kernel
theorem dX10_worst_30 : decode cX10_worst 30 = .ok (.invokevirtual 382, 3) := by decide +kernel
theorem dX10_worst_33 : decode cX10_worst 33 = .ok (.ifCond .ne 6, 3) := by decide +kernel
theorem dX10_worst_36 : decode cX10_worst 36 = .ok (.goto 65, 3) := by decide +kernel
theorem dX10_worst_39 : decode cX10_worst 39 = .ok (.aload_n 0, 1) := by decide +kernel
theorem dX10_worst_40 : decode cX10_worst 40 = .ok (.iload 4, 2) := by decide +kernel
theorem dX10_worst_42 : decode cX10_worst 42 = .ok (.invokevirtual 385, 3) := by decide +kernel
theorem dX10_worst_45 : decode cX10_worst 45 = .ok (.iconst 0, 1) := by decide +kernel
theorem dX10_worst_46 : decode cX10_worst 46 = .ok (.istore 5, 2) := by decide +kernel
theorem dX10_worst_48 : decode cX10_worst 48 = .ok (.iconst 0, 1) := by decide +kernel
theorem dX10_worst_49 : decode cX10_worst 49 = .ok (.istore 6, 2) := by decide +kernel
theorem dX10_worst_51 : decode cX10_worst 51 = .ok (.iload 6, 2) := by decide +kernel
theorem dX10_worst_53 : decode cX10_worst 53 = .ok (.aload_n 0, 1) := by decide +kernel
theorem dX10_worst_54 : decode cX10_worst 54 = .ok (.getfield 289, 3) := by decide +kernel
theorem dX10_worst_57 : decode cX10_worst 57 = .ok (.if_icmp .ge 29, 3) := by decide +kernel
theorem dX10_worst_60 : decode cX10_worst 60 = .ok (.iload 5, 2) := by decide +kernel
theorem dX10_worst_62 : decode cX10_worst 62 = .ok (.aload_n 0, 1) := by decide +kernel
theorem dX10_worst_63 : decode cX10_worst 63 = .ok (.getfield 81, 3) := by decide +kernel
theorem dX10_worst_66 : decode cX10_worst 66 = .ok (.iload 6, 2) := by decide +kernel
theorem dX10_worst_68 : decode cX10_worst 68 = .ok (.iaload, 1) := by decide +kernel
theorem dX10_worst_69 : decode cX10_worst 69 = .ok (.ifCond .lt 7, 3) := by decide +kernel
theorem dX10_worst_72 : decode cX10_worst 72 = .ok (.iconst 1, 1) := by decide +kernel
theorem dX10_worst_73 : decode cX10_worst 73 = .ok (.goto 4, 3) := by decide +kernel
theorem dX10_worst_76 : decode cX10_worst 76 = .ok (.iconst 0, 1) := by decide +kernel
theorem dX10_worst_77 : decode cX10_worst 77 = .ok (.iadd, 1) := by decide +kernel
theorem dX10_worst_78 : decode cX10_worst 78 = .ok (.istore 5, 2) := by decide +kernel
theorem dX10_worst_80 : decode cX10_worst 80 = .ok (.iinc 6 1, 3) := by decide +kernel
theorem dX10_worst_83 : decode cX10_worst 83 = .ok (.goto (-32), 3) := by decide +kernel
theorem dX10_worst_86 : decode cX10_worst 86 = .ok (.iload 5, 2) := by decide +kernel
theorem dX10_worst_88 : decode cX10_worst 88 = .ok (.iload_n 3, 1) := by decide +kernel
theorem dX10_worst_89 : decode cX10_worst 89 = .ok (.if_icmp .gt 6, 3) := by decide +kernel
theorem dX10_worst_92 : decode cX10_worst 92 = .ok (.goto 9, 3) := by decide +kernel
theorem dX10_worst_95 : decode cX10_worst 95 = .ok (.iload 4, 2) := by decide +kernel
theorem dX10_worst_97 : decode cX10_worst 97 = .ok (.istore_n 2, 1) := by decide +kernel
theorem dX10_worst_98 : decode cX10_worst 98 = .ok (.iload 5, 2) := by decide +kernel
theorem dX10_worst_100 : decode cX10_worst 100 = .ok (.istore_n 3, 1) := by decide +kernel
theorem dX10_worst_101 : decode cX10_worst 101 = .ok (.iinc 4 1, 3) := by decide +kernel
theorem dX10_worst_104 : decode cX10_worst 104 = .ok (.goto (-86), 3) := by decide +kernel
theorem dX10_worst_107 : decode cX10_worst 107 = .ok (.iload_n 2, 1) := by decide +kernel
theorem dX10_worst_108 : decode cX10_worst 108 = .ok (.ifCond .ge 7, 3) := by decide +kernel
theorem dX10_worst_111 : decode cX10_worst 111 = .ok (.iconst (-1), 1) := by decide +kernel
theorem dX10_worst_112 : decode cX10_worst 112 = .ok (.goto 12, 3) := by decide +kernel
theorem dX10_worst_115 : decode cX10_worst 115 = .ok (.iload_n 1, 1) := by decide +kernel
theorem dX10_worst_116 : decode cX10_worst 116 = .ok (.ifCond .ne 7, 3) := by decide +kernel
theorem dX10_worst_119 : decode cX10_worst 119 = .ok (.iload_n 2, 1) := by decide +kernel
theorem dX10_worst_120 : decode cX10_worst 120 = .ok (.goto 4, 3) := by decide +kernel
theorem dX10_worst_123 : decode cX10_worst 123 = .ok (.iload_n 3, 1) := by decide +kernel
theorem dX10_worst_124 : decode cX10_worst 124 = .ok (.ireturn, 1) := by decide +kernel
theorem dX10_fresh_0 : decode cX10_fresh 0 = .ok (.aload_n 0, 1) := by decide +kernel
theorem dX10_fresh_1 : decode cX10_fresh 1 = .ok (.iconst 0, 1) := by decide +kernel
theorem dX10_fresh_2 : decode cX10_fresh 2 = .ok (.putfield 388, 3) := by decide +kernel
theorem dX10_fresh_5 : decode cX10_fresh 5 = .ok (.aload_n 0, 1) := by decide +kernel
theorem dX10_fresh_6 : decode cX10_fresh 6 = .ok (.iconst 0, 1) := by decide +kernel
theorem dX10_fresh_7 : decode cX10_fresh 7 = .ok (.putfield 391, 3) := by decide +kernel
theorem dX10_fresh_10 : decode cX10_fresh 10 = .ok (.iconst 0, 1) := by decide +kernel
theorem dX10_fresh_11 : decode cX10_fresh 11 = .ok (.istore_n 1, 1) := by decide +kernel
theorem dX10_fresh_12 : decode cX10_fresh 12 = .ok (.iload_n 1, 1) := by decide +kernel
theorem dX10_fresh_13 : decode cX10_fresh 13 = .ok (.bipush 12, 2) := by decide +kernel
theorem dX10_fresh_15 : decode cX10_fresh 15 = .ok (.if_icmp .ge 47, 3) := by decide +kernel
theorem dX10_fresh_18 : decode cX10_fresh 18 = .ok (.aload_n 0, 1) := by decide +kernel
theorem dX10_fresh_19 : decode cX10_fresh 19 = .ok (.getfield 90, 3) := by decide +kernel
theorem dX10_fresh_22 : decode cX10_fresh 22 = .ok (.iload_n 1, 1) := by decide +kernel
theorem dX10_fresh_23 : decode cX10_fresh 23 = .ok (.iconst (-1), 1) := by decide +kernel
theorem dX10_fresh_24 : decode cX10_fresh 24 = .ok (.iastore, 1) := by decide +kernel
theorem dX10_fresh_25 : decode cX10_fresh 25 = .ok (.aload_n 0, 1) := by decide +kernel
theorem dX10_fresh_26 : decode cX10_fresh 26 = .ok (.getfield 93, 3) := by decide +kernel
theorem dX10_fresh_29 : decode cX10_fresh 29 = .ok (.iload_n 1, 1) := by decide +kernel
theorem dX10_fresh_30 : decode cX10_fresh 30 = .ok (.iconst (-1), 1) := by decide +kernel
theorem dX10_fresh_31 : decode cX10_fresh 31 = .ok (.iastore, 1) := by decide +kernel
theorem dX10_fresh_32 : decode cX10_fresh 32 = .ok (.aload_n 0, 1) := by decide +kernel
theorem dX10_fresh_33 : decode cX10_fresh 33 = .ok (.getfield 96, 3) := by decide +kernel
theorem dX10_fresh_36 : decode cX10_fresh 36 = .ok (.iload_n 1, 1) := by decide +kernel
theorem dX10_fresh_37 : decode cX10_fresh 37 = .ok (.iload_n 1, 1) := by decide +kernel
theorem dX10_fresh_38 : decode cX10_fresh 38 = .ok (.aload_n 0, 1) := by decide +kernel
theorem dX10_fresh_39 : decode cX10_fresh 39 = .ok (.getfield 289, 3) := by decide +kernel
theorem dX10_fresh_42 : decode cX10_fresh 42 = .ok (.if_icmp .ge 12, 3) := by decide +kernel
theorem dX10_fresh_45 : decode cX10_fresh 45 = .ok (.aload_n 0, 1) := by decide +kernel
theorem dX10_fresh_46 : decode cX10_fresh 46 = .ok (.getfield 57, 3) := by decide +kernel
theorem dX10_fresh_49 : decode cX10_fresh 49 = .ok (.iload_n 1, 1) := by decide +kernel
theorem dX10_fresh_50 : decode cX10_fresh 50 = .ok (.iaload, 1) := by decide +kernel
theorem dX10_fresh_51 : decode cX10_fresh 51 = .ok (.goto 4, 3) := by decide +kernel
theorem dX10_fresh_54 : decode cX10_fresh 54 = .ok (.iconst 0, 1) := by decide +kernel
theorem dX10_fresh_55 : decode cX10_fresh 55 = .ok (.iastore, 1) := by decide +kernel
theorem dX10_fresh_56 : decode cX10_fresh 56 = .ok (.iinc 1 1, 3) := by decide +kernel
theorem dX10_fresh_59 : decode cX10_fresh 59 = .ok (.goto (-47), 3) := by decide +kernel
theorem dX10_fresh_62 : decode cX10_fresh 62 = .ok (.iconst 0, 1) := by decide +kernel
theorem dX10_fresh_63 : decode cX10_fresh 63 = .ok (.istore_n 1, 1) := by decide +kernel
theorem dX10_fresh_64 : decode cX10_fresh 64 = .ok (.iload_n 1, 1) := by decide +kernel
theorem dX10_fresh_65 : decode cX10_fresh 65 = .ok (.sipush 144, 3) := by decide +kernel
theorem dX10_fresh_68 : decode cX10_fresh 68 = .ok (.if_icmp .ge 21, 3) := by decide +kernel
theorem dX10_fresh_71 : decode cX10_fresh 71 = .ok (.aload_n 0, 1) := by decide +kernel
theorem dX10_fresh_72 : decode cX10_fresh 72 = .ok (.getfield 99, 3) := by decide +kernel
theorem dX10_fresh_75 : decode cX10_fresh 75 = .ok (.iload_n 1, 1) := by decide +kernel
theorem dX10_fresh_76 : decode cX10_fresh 76 = .ok (.aload_n 0, 1) := by decide +kernel
theorem dX10_fresh_77 : decode cX10_fresh 77 = .ok (.getfield 54, 3) := by decide +kernel
theorem dX10_fresh_80 : decode cX10_fresh 80 = .ok (.iload_n 1, 1) := by decide +kernel
theorem dX10_fresh_81 : decode cX10_fresh 81 = .ok (.iaload, 1) := by decide +kernel
theorem dX10_fresh_82 : decode cX10_fresh 82 = .ok (.iastore, 1) := by decide +kernel
theorem dX10_fresh_83 : decode cX10_fresh 83 = .ok (.iinc 1 1, 3) := by decide +kernel
theorem dX10_fresh_86 : decode cX10_fresh 86 = .ok (.goto (-22), 3) := by decide +kernel
theorem dX10_fresh_89 : decode cX10_fresh 89 = .ok (.return_, 1) := by decide +kernel
theorem dX10_isThere_0 : decode cX10_isThere 0 = .ok (.aload_n 0, 1) := by decide +kernel
theorem dX10_isThere_1 : decode cX10_isThere 1 = .ok (.getfield 90, 3) := by decide +kernel
theorem dX10_isThere_4 : decode cX10_isThere 4 = .ok (.iload_n 1, 1) := by decide +kernel
theorem dX10_isThere_5 : decode cX10_isThere 5 = .ok (.iaload, 1) := by decide +kernel
theorem dX10_isThere_6 : decode cX10_isThere 6 = .ok (.ifCond .ge 16, 3) := by decide +kernel
theorem dX10_isThere_9 : decode cX10_isThere 9 = .ok (.aload_n 0, 1) := by decide +kernel
theorem dX10_isThere_10 : decode cX10_isThere 10 = .ok (.getfield 93, 3) := by decide +kernel
theorem dX10_isThere_13 : decode cX10_isThere 13 = .ok (.iload_n 1, 1) := by decide +kernel
theorem dX10_isThere_14 : decode cX10_isThere 14 = .ok (.iaload, 1) := by decide +kernel
theorem dX10_isThere_15 : decode cX10_isThere 15 = .ok (.ifCond .ge 7, 3) := by decide +kernel
theorem dX10_isThere_18 : decode cX10_isThere 18 = .ok (.iconst 1, 1) := by decide +kernel
theorem dX10_isThere_19 : decode cX10_isThere 19 = .ok (.goto 4, 3) := by decide +kernel
theorem dX10_isThere_22 : decode cX10_isThere 22 = .ok (.iconst 0, 1) := by decide +kernel
theorem dX10_isThere_23 : decode cX10_isThere 23 = .ok (.ireturn, 1) := by decide +kernel
theorem dX10_layDays_0 : decode cX10_layDays 0 = .ok (.iconst 0, 1) := by decide +kernel
theorem dX10_layDays_1 : decode cX10_layDays 1 = .ok (.istore_n 1, 1) := by decide +kernel
theorem dX10_layDays_2 : decode cX10_layDays 2 = .ok (.iload_n 1, 1) := by decide +kernel
theorem dX10_layDays_3 : decode cX10_layDays 3 = .ok (.bipush 12, 2) := by decide +kernel
theorem dX10_layDays_5 : decode cX10_layDays 5 = .ok (.if_icmp .ge 18, 3) := by decide +kernel
theorem dX10_layDays_8 : decode cX10_layDays 8 = .ok (.aload_n 0, 1) := by decide +kernel
theorem dX10_layDays_9 : decode cX10_layDays 9 = .ok (.getfield 117, 3) := by decide +kernel
theorem dX10_layDays_12 : decode cX10_layDays 12 = .ok (.iload_n 1, 1) := by decide +kernel
theorem dX10_layDays_13 : decode cX10_layDays 13 = .ok (.ldc_w 314, 3) := by decide +kernel
theorem dX10_layDays_16 : decode cX10_layDays 16 = .ok (.iastore, 1) := by decide +kernel
theorem dX10_layDays_17 : decode cX10_layDays 17 = .ok (.iinc 1 1, 3) := by decide +kernel
theorem dX10_layDays_20 : decode cX10_layDays 20 = .ok (.goto (-18), 3) := by decide +kernel
theorem dX10_layDays_23 : decode cX10_layDays 23 = .ok (.aload_n 0, 1) := by decide +kernel
theorem dX10_layDays_24 : decode cX10_layDays 24 = .ok (.getfield 154, 3) := by decide +kernel
theorem dX10_layDays_27 : decode cX10_layDays 27 = .ok (.ifCond .lt 14, 3) := by decide +kernel
theorem dX10_layDays_30 : decode cX10_layDays 30 = .ok (.aload_n 0, 1) := by decide +kernel
theorem dX10_layDays_31 : decode cX10_layDays 31 = .ok (.aload_n 0, 1) := by decide +kernel
theorem dX10_layDays_32 : decode cX10_layDays 32 = .ok (.getfield 154, 3) := by decide +kernel
theorem dX10_layDays_35 : decode cX10_layDays 35 = .ok (.invokevirtual 315, 3) := by decide +kernel
theorem dX10_layDays_38 : decode cX10_layDays 38 = .ok (.ifCond .ne 4, 3) := by decide +kernel
theorem dX10_layDays_41 : decode cX10_layDays 41 = .ok (.return_, 1) := by decide +kernel
theorem dX10_layDays_42 : decode cX10_layDays 42 = .ok (.aload_n 0, 1) := by decide +kernel
theorem dX10_layDays_43 : decode cX10_layDays 43 = .ok (.getfield 117, 3) := by decide +kernel
theorem dX10_layDays_46 : decode cX10_layDays 46 = .ok (.aload_n 0, 1) := by decide +kernel
theorem dX10_layDays_47 : decode cX10_layDays 47 = .ok (.getfield 154, 3) := by decide +kernel
theorem dX10_layDays_50 : decode cX10_layDays 50 = .ok (.iconst 0, 1) := by decide +kernel
theorem dX10_layDays_51 : decode cX10_layDays 51 = .ok (.iastore, 1) := by decide +kernel
theorem dX10_layDays_52 : decode cX10_layDays 52 = .ok (.iconst 0, 1) := by decide +kernel
theorem dX10_layDays_53 : decode cX10_layDays 53 = .ok (.istore_n 1, 1) := by decide +kernel
theorem dX10_layDays_54 : decode cX10_layDays 54 = .ok (.iload_n 1, 1) := by decide +kernel
theorem dX10_layDays_55 : decode cX10_layDays 55 = .ok (.aload_n 0, 1) := by decide +kernel
theorem dX10_layDays_56 : decode cX10_layDays 56 = .ok (.getfield 289, 3) := by decide +kernel
theorem dX10_layDays_59 : decode cX10_layDays 59 = .ok (.if_icmp .ge 112, 3) := by decide +kernel
theorem dX10_layDays_62 : decode cX10_layDays 62 = .ok (.iconst 0, 1) := by decide +kernel
theorem dX10_layDays_63 : decode cX10_layDays 63 = .ok (.istore_n 2, 1) := by decide +kernel
theorem dX10_layDays_64 : decode cX10_layDays 64 = .ok (.iload_n 2, 1) := by decide +kernel
theorem dX10_layDays_65 : decode cX10_layDays 65 = .ok (.aload_n 0, 1) := by decide +kernel
theorem dX10_layDays_66 : decode cX10_layDays 66 = .ok (.getfield 289, 3) := by decide +kernel
theorem dX10_layDays_69 : decode cX10_layDays 69 = .ok (.if_icmp .ge 96, 3) := by decide +kernel
theorem dX10_layDays_72 : decode cX10_layDays 72 = .ok (.iconst 0, 1) := by decide +kernel
theorem dX10_layDays_73 : decode cX10_layDays 73 = .ok (.istore_n 3, 1) := by decide +kernel
theorem dX10_layDays_74 : decode cX10_layDays 74 = .ok (.iload_n 3, 1) := by decide +kernel
theorem dX10_layDays_75 : decode cX10_layDays 75 = .ok (.aload_n 0, 1) := by decide +kernel
theorem dX10_layDays_76 : decode cX10_layDays 76 = .ok (.getfield 289, 3) := by decide +kernel
theorem dX10_layDays_79 : decode cX10_layDays 79 = .ok (.if_icmp .ge 80, 3) := by decide +kernel
theorem dX10_layDays_82 : decode cX10_layDays 82 = .ok (.aload_n 0, 1) := by decide +kernel
theorem dX10_layDays_83 : decode cX10_layDays 83 = .ok (.iload_n 2, 1) := by decide +kernel
theorem dX10_layDays_84 : decode cX10_layDays 84 = .ok (.invokevirtual 315, 3) := by decide +kernel
theorem dX10_layDays_87 : decode cX10_layDays 87 = .ok (.ifCond .eq 72, 3) := by decide +kernel
theorem dX10_layDays_90 : decode cX10_layDays 90 = .ok (.aload_n 0, 1) := by decide +kernel
theorem dX10_layDays_91 : decode cX10_layDays 91 = .ok (.getfield 99, 3) := by decide +kernel
theorem dX10_layDays_94 : decode cX10_layDays 94 = .ok (.bipush 12, 2) := by decide +kernel
theorem dX10_layDays_96 : decode cX10_layDays 96 = .ok (.iload_n 2, 1) := by decide +kernel
theorem dX10_layDays_97 : decode cX10_layDays 97 = .ok (.imul, 1) := by decide +kernel
theorem dX10_layDays_98 : decode cX10_layDays 98 = .ok (.iload_n 3, 1) := by decide +kernel
theorem dX10_layDays_99 : decode cX10_layDays 99 = .ok (.iadd, 1) := by decide +kernel
theorem dX10_layDays_100 : decode cX10_layDays 100 = .ok (.iaload, 1) := by decide +kernel
theorem dX10_layDays_101 : decode cX10_layDays 101 = .ok (.istore 4, 2) := by decide +kernel
theorem dX10_layDays_103 : decode cX10_layDays 103 = .ok (.iload 4, 2) := by decide +kernel
theorem dX10_layDays_105 : decode cX10_layDays 105 = .ok (.ifCond .le 48, 3) := by decide +kernel
theorem dX10_layDays_108 : decode cX10_layDays 108 = .ok (.aload_n 0, 1) := by decide +kernel
theorem dX10_layDays_109 : decode cX10_layDays 109 = .ok (.getfield 117, 3) := by decide +kernel
theorem dX10_layDays_112 : decode cX10_layDays 112 = .ok (.iload_n 3, 1) := by decide +kernel
theorem dX10_layDays_113 : decode cX10_layDays 113 = .ok (.iaload, 1) := by decide +kernel
theorem dX10_layDays_114 : decode cX10_layDays 114 = .ok (.ldc_w 314, 3) := by decide +kernel
theorem dX10_layDays_117 : decode cX10_layDays 117 = .ok (.if_icmp .ge 36, 3) := by decide +kernel
theorem dX10_layDays_120 : decode cX10_layDays 120 = .ok (.aload_n 0, 1) := by decide +kernel
theorem dX10_layDays_121 : decode cX10_layDays 121 = .ok (.getfield 117, 3) := by decide +kernel
theorem dX10_layDays_124 : decode cX10_layDays 124 = .ok (.iload_n 3, 1) := by decide +kernel
theorem dX10_layDays_125 : decode cX10_layDays 125 = .ok (.iaload, 1) := by decide +kernel
theorem dX10_layDays_126 : decode cX10_layDays 126 = .ok (.iload 4, 2) := by decide +kernel
theorem dX10_layDays_128 : decode cX10_layDays 128 = .ok (.iadd, 1) := by decide +kernel
theorem dX10_layDays_129 : decode cX10_layDays 129 = .ok (.aload_n 0, 1) := by decide +kernel
theorem dX10_layDays_130 : decode cX10_layDays 130 = .ok (.getfield 117, 3) := by decide +kernel
theorem dX10_layDays_133 : decode cX10_layDays 133 = .ok (.iload_n 2, 1) := by decide +kernel
theorem dX10_layDays_134 : decode cX10_layDays 134 = .ok (.iaload, 1) := by decide +kernel
theorem dX10_layDays_135 : decode cX10_layDays 135 = .ok (.if_icmp .ge 18, 3) := by decide +kernel
theorem dX10_layDays_138 : decode cX10_layDays 138 = .ok (.aload_n 0, 1) := by decide +kernel
theorem dX10_layDays_139 : decode cX10_layDays 139 = .ok (.getfield 117, 3) := by decide +kernel
theorem dX10_layDays_142 : decode cX10_layDays 142 = .ok (.iload_n 2, 1) := by decide +kernel
theorem dX10_layDays_143 : decode cX10_layDays 143 = .ok (.aload_n 0, 1) := by decide +kernel
theorem dX10_layDays_144 : decode cX10_layDays 144 = .ok (.getfield 117, 3) := by decide +kernel
theorem dX10_layDays_147 : decode cX10_layDays 147 = .ok (.iload_n 3, 1) := by decide +kernel
theorem dX10_layDays_148 : decode cX10_layDays 148 = .ok (.iaload, 1) := by decide +kernel
theorem dX10_layDays_149 : decode cX10_layDays 149 = .ok (.iload 4, 2) := by decide +kernel
theorem dX10_layDays_151 : decode cX10_layDays 151 = .ok (.iadd, 1) := by decide +kernel
theorem dX10_layDays_152 : decode cX10_layDays 152 = .ok (.iastore, 1) := by decide +kernel
theorem dX10_layDays_153 : decode cX10_layDays 153 = .ok (.iinc 3 1, 3) := by decide +kernel
theorem dX10_layDays_156 : decode cX10_layDays 156 = .ok (.goto (-82), 3) := by decide +kernel
theorem dX10_layDays_159 : decode cX10_layDays 159 = .ok (.iinc 2 1, 3) := by decide +kernel
theorem dX10_layDays_162 : decode cX10_layDays 162 = .ok (.goto (-98), 3) := by decide +kernel
theorem dX10_layDays_165 : decode cX10_layDays 165 = .ok (.iinc 1 1, 3) := by decide +kernel
theorem dX10_layDays_168 : decode cX10_layDays 168 = .ok (.goto (-114), 3) := by decide +kernel
theorem dX10_layDays_171 : decode cX10_layDays 171 = .ok (.return_, 1) := by decide +kernel
theorem dX10_chooseFor_0 : decode cX10_chooseFor 0 = .ok (.aload_n 0, 1) := by decide +kernel
theorem dX10_chooseFor_1 : decode cX10_chooseFor 1 = .ok (.invokevirtual 394, 3) := by decide +kernel
theorem dX10_chooseFor_4 : decode cX10_chooseFor 4 = .ok (.aload_n 0, 1) := by decide +kernel
theorem dX10_chooseFor_5 : decode cX10_chooseFor 5 = .ok (.getfield 102, 3) := by decide +kernel
theorem dX10_chooseFor_8 : decode cX10_chooseFor 8 = .ok (.iload_n 1, 1) := by decide +kernel
theorem dX10_chooseFor_9 : decode cX10_chooseFor 9 = .ok (.iaload, 1) := by decide +kernel
theorem dX10_chooseFor_10 : decode cX10_chooseFor 10 = .ok (.istore_n 2, 1) := by decide +kernel
theorem dX10_chooseFor_11 : decode cX10_chooseFor 11 = .ok (.aload_n 0, 1) := by decide +kernel
theorem dX10_chooseFor_12 : decode cX10_chooseFor 12 = .ok (.getfield 111, 3) := by decide +kernel
theorem dX10_chooseFor_15 : decode cX10_chooseFor 15 = .ok (.iload_n 1, 1) := by decide +kernel
theorem dX10_chooseFor_16 : decode cX10_chooseFor 16 = .ok (.iconst (-1), 1) := by decide +kernel
theorem dX10_chooseFor_17 : decode cX10_chooseFor 17 = .ok (.iastore, 1) := by decide +kernel
theorem dX10_chooseFor_18 : decode cX10_chooseFor 18 = .ok (.aload_n 0, 1) := by decide +kernel
theorem dX10_chooseFor_19 : decode cX10_chooseFor 19 = .ok (.getfield 114, 3) := by decide +kernel
theorem dX10_chooseFor_22 : decode cX10_chooseFor 22 = .ok (.iload_n 1, 1) := by decide +kernel
theorem dX10_chooseFor_23 : decode cX10_chooseFor 23 = .ok (.iconst (-1), 1) := by decide +kernel
theorem dX10_chooseFor_24 : decode cX10_chooseFor 24 = .ok (.iastore, 1) := by decide +kernel
theorem dX10_chooseFor_25 : decode cX10_chooseFor 25 = .ok (.ldc_w 314, 3) := by decide +kernel
theorem dX10_chooseFor_28 : decode cX10_chooseFor 28 = .ok (.istore_n 3, 1) := by decide +kernel
theorem dX10_chooseFor_29 : decode cX10_chooseFor 29 = .ok (.iconst 0, 1) := by decide +kernel
theorem dX10_chooseFor_30 : decode cX10_chooseFor 30 = .ok (.istore 4, 2) := by decide +kernel
theorem dX10_chooseFor_32 : decode cX10_chooseFor 32 = .ok (.iload 4, 2) := by decide +kernel
theorem dX10_chooseFor_34 : decode cX10_chooseFor 34 = .ok (.aload_n 0, 1) := by decide +kernel
theorem dX10_chooseFor_35 : decode cX10_chooseFor 35 = .ok (.getfield 289, 3) := by decide +kernel
theorem dX10_chooseFor_38 : decode cX10_chooseFor 38 = .ok (.if_icmp .ge 90, 3) := by decide +kernel
theorem dX10_chooseFor_41 : decode cX10_chooseFor 41 = .ok (.aload_n 0, 1) := by decide +kernel
theorem dX10_chooseFor_42 : decode cX10_chooseFor 42 = .ok (.getfield 99, 3) := by decide +kernel
theorem dX10_chooseFor_45 : decode cX10_chooseFor 45 = .ok (.bipush 12, 2) := by decide +kernel
theorem dX10_chooseFor_47 : decode cX10_chooseFor 47 = .ok (.iload_n 2, 1) := by decide +kernel
theorem dX10_chooseFor_48 : decode cX10_chooseFor 48 = .ok (.imul, 1) := by decide +kernel
theorem dX10_chooseFor_49 : decode cX10_chooseFor 49 = .ok (.iload 4, 2) := by decide +kernel
theorem dX10_chooseFor_51 : decode cX10_chooseFor 51 = .ok (.iadd, 1) := by decide +kernel
theorem dX10_chooseFor_52 : decode cX10_chooseFor 52 = .ok (.iaload, 1) := by decide +kernel
theorem dX10_chooseFor_53 : decode cX10_chooseFor 53 = .ok (.istore 5, 2) := by decide +kernel
theorem dX10_chooseFor_55 : decode cX10_chooseFor 55 = .ok (.iload 5, 2) := by decide +kernel
theorem dX10_chooseFor_57 : decode cX10_chooseFor 57 = .ok (.ifCond .eq 65, 3) := by decide +kernel
theorem dX10_chooseFor_60 : decode cX10_chooseFor 60 = .ok (.aload_n 0, 1) := by decide +kernel
theorem dX10_chooseFor_61 : decode cX10_chooseFor 61 = .ok (.getfield 117, 3) := by decide +kernel
theorem dX10_chooseFor_64 : decode cX10_chooseFor 64 = .ok (.iload 4, 2) := by decide +kernel
theorem dX10_chooseFor_66 : decode cX10_chooseFor 66 = .ok (.iaload, 1) := by decide +kernel
theorem dX10_chooseFor_67 : decode cX10_chooseFor 67 = .ok (.ldc_w 314, 3) := by decide +kernel
theorem dX10_chooseFor_70 : decode cX10_chooseFor 70 = .ok (.if_icmp .eq 52, 3) := by decide +kernel
theorem dX10_chooseFor_73 : decode cX10_chooseFor 73 = .ok (.aload_n 0, 1) := by decide +kernel
theorem dX10_chooseFor_74 : decode cX10_chooseFor 74 = .ok (.getfield 117, 3) := by decide +kernel
theorem dX10_chooseFor_77 : decode cX10_chooseFor 77 = .ok (.iload 4, 2) := by decide +kernel
theorem dX10_chooseFor_79 : decode cX10_chooseFor 79 = .ok (.iaload, 1) := by decide +kernel
theorem dX10_chooseFor_80 : decode cX10_chooseFor 80 = .ok (.iload 5, 2) := by decide +kernel
theorem dX10_chooseFor_82 : decode cX10_chooseFor 82 = .ok (.iadd, 1) := by decide +kernel
theorem dX10_chooseFor_83 : decode cX10_chooseFor 83 = .ok (.iload_n 3, 1) := by decide +kernel
theorem dX10_chooseFor_84 : decode cX10_chooseFor 84 = .ok (.if_icmp .lt 6, 3) := by decide +kernel
theorem dX10_chooseFor_87 : decode cX10_chooseFor 87 = .ok (.goto 35, 3) := by decide +kernel
theorem dX10_chooseFor_90 : decode cX10_chooseFor 90 = .ok (.aload_n 0, 1) := by decide +kernel
theorem dX10_chooseFor_91 : decode cX10_chooseFor 91 = .ok (.getfield 117, 3) := by decide +kernel
theorem dX10_chooseFor_94 : decode cX10_chooseFor 94 = .ok (.iload 4, 2) := by decide +kernel
theorem dX10_chooseFor_96 : decode cX10_chooseFor 96 = .ok (.iaload, 1) := by decide +kernel
theorem dX10_chooseFor_97 : decode cX10_chooseFor 97 = .ok (.iload 5, 2) := by decide +kernel
theorem dX10_chooseFor_99 : decode cX10_chooseFor 99 = .ok (.iadd, 1) := by decide +kernel
theorem dX10_chooseFor_100 : decode cX10_chooseFor 100 = .ok (.istore_n 3, 1) := by decide +kernel
theorem dX10_chooseFor_101 : decode cX10_chooseFor 101 = .ok (.aload_n 0, 1) := by decide +kernel
theorem dX10_chooseFor_102 : decode cX10_chooseFor 102 = .ok (.getfield 111, 3) := by decide +kernel
theorem dX10_chooseFor_105 : decode cX10_chooseFor 105 = .ok (.iload_n 1, 1) := by decide +kernel
theorem dX10_chooseFor_106 : decode cX10_chooseFor 106 = .ok (.iload 4, 2) := by decide +kernel
theorem dX10_chooseFor_108 : decode cX10_chooseFor 108 = .ok (.iastore, 1) := by decide +kernel
theorem dX10_chooseFor_109 : decode cX10_chooseFor 109 = .ok (.aload_n 0, 1) := by decide +kernel
theorem dX10_chooseFor_110 : decode cX10_chooseFor 110 = .ok (.getfield 114, 3) := by decide +kernel
theorem dX10_chooseFor_113 : decode cX10_chooseFor 113 = .ok (.iload_n 1, 1) := by decide +kernel
theorem dX10_chooseFor_114 : decode cX10_chooseFor 114 = .ok (.aload_n 0, 1) := by decide +kernel
theorem dX10_chooseFor_115 : decode cX10_chooseFor 115 = .ok (.getfield 388, 3) := by decide +kernel
theorem dX10_chooseFor_118 : decode cX10_chooseFor 118 = .ok (.iload 5, 2) := by decide +kernel
theorem dX10_chooseFor_120 : decode cX10_chooseFor 120 = .ok (.iadd, 1) := by decide +kernel
theorem dX10_chooseFor_121 : decode cX10_chooseFor 121 = .ok (.iastore, 1) := by decide +kernel
theorem dX10_chooseFor_122 : decode cX10_chooseFor 122 = .ok (.iinc 4 1, 3) := by decide +kernel
theorem dX10_chooseFor_125 : decode cX10_chooseFor 125 = .ok (.goto (-93), 3) := by decide +kernel
theorem dX10_chooseFor_128 : decode cX10_chooseFor 128 = .ok (.return_, 1) := by decide +kernel
theorem dX10_comes_0 : decode cX10_comes 0 = .ok (.aload_n 0, 1) := by decide +kernel
theorem dX10_comes_1 : decode cX10_comes 1 = .ok (.getfield 102, 3) := by decide +kernel
theorem dX10_comes_4 : decode cX10_comes 4 = .ok (.iload_n 1, 1) := by decide +kernel
theorem dX10_comes_5 : decode cX10_comes 5 = .ok (.bipush (-3), 2) := by decide +kernel
theorem dX10_comes_7 : decode cX10_comes 7 = .ok (.iastore, 1) := by decide +kernel
theorem dX10_comes_8 : decode cX10_comes 8 = .ok (.aload_n 0, 1) := by decide +kernel
theorem dX10_comes_9 : decode cX10_comes 9 = .ok (.getfield 108, 3) := by decide +kernel
theorem dX10_comes_12 : decode cX10_comes 12 = .ok (.iload_n 1, 1) := by decide +kernel
theorem dX10_comes_13 : decode cX10_comes 13 = .ok (.aload_n 0, 1) := by decide +kernel
theorem dX10_comes_14 : decode cX10_comes 14 = .ok (.getfield 388, 3) := by decide +kernel
theorem dX10_comes_17 : decode cX10_comes 17 = .ok (.iastore, 1) := by decide +kernel
theorem dX10_comes_18 : decode cX10_comes 18 = .ok (.aload_n 0, 1) := by decide +kernel
theorem dX10_comes_19 : decode cX10_comes 19 = .ok (.getfield 111, 3) := by decide +kernel
theorem dX10_comes_22 : decode cX10_comes 22 = .ok (.iload_n 1, 1) := by decide +kernel
theorem dX10_comes_23 : decode cX10_comes 23 = .ok (.iconst (-1), 1) := by decide +kernel
theorem dX10_comes_24 : decode cX10_comes 24 = .ok (.iastore, 1) := by decide +kernel
theorem dX10_comes_25 : decode cX10_comes 25 = .ok (.aload_n 0, 1) := by decide +kernel
theorem dX10_comes_26 : decode cX10_comes 26 = .ok (.getfield 114, 3) := by decide +kernel
theorem dX10_comes_29 : decode cX10_comes 29 = .ok (.iload_n 1, 1) := by decide +kernel
theorem dX10_comes_30 : decode cX10_comes 30 = .ok (.iconst (-1), 1) := by decide +kernel
theorem dX10_comes_31 : decode cX10_comes 31 = .ok (.iastore, 1) := by decide +kernel
theorem dX10_comes_32 : decode cX10_comes 32 = .ok (.return_, 1) := by decide +kernel
theorem dX10_send_0 : decode cX10_send 0 = .ok (.aload_n 0, 1) := by decide +kernel
theorem dX10_send_1 : decode cX10_send 1 = .ok (.getfield 151, 3) := by decide +kernel
theorem dX10_send_4 : decode cX10_send 4 = .ok (.ifCond .lt 23, 3) := by decide +kernel
theorem dX10_send_7 : decode cX10_send 7 = .ok (.aload_n 0, 1) := by decide +kernel
theorem dX10_send_8 : decode cX10_send 8 = .ok (.aload_n 0, 1) := by decide +kernel
theorem dX10_send_9 : decode cX10_send 9 = .ok (.getfield 151, 3) := by decide +kernel
theorem dX10_send_12 : decode cX10_send 12 = .ok (.invokevirtual 315, 3) := by decide +kernel
theorem dX10_send_15 : decode cX10_send 15 = .ok (.ifCond .eq 12, 3) := by decide +kernel
theorem dX10_send_18 : decode cX10_send 18 = .ok (.aload_n 0, 1) := by decide +kernel
theorem dX10_send_19 : decode cX10_send 19 = .ok (.getfield 391, 3) := by decide +kernel
theorem dX10_send_22 : decode cX10_send 22 = .ok (.bipush 12, 2) := by decide +kernel
theorem dX10_send_24 : decode cX10_send 24 = .ok (.if_icmp .ne 5, 3) := by decide +kernel
theorem dX10_send_27 : decode cX10_send 27 = .ok (.iconst (-1), 1) := by decide +kernel
theorem dX10_send_28 : decode cX10_send 28 = .ok (.ireturn, 1) := by decide +kernel
theorem dX10_send_29 : decode cX10_send 29 = .ok (.aload_n 0, 1) := by decide +kernel
theorem dX10_send_30 : decode cX10_send 30 = .ok (.getfield 391, 3) := by decide +kernel
theorem dX10_send_33 : decode cX10_send 33 = .ok (.istore_n 1, 1) := by decide +kernel
theorem dX10_send_34 : decode cX10_send 34 = .ok (.aload_n 0, 1) := by decide +kernel
theorem dX10_send_35 : decode cX10_send 35 = .ok (.dup, 1) := by decide +kernel
theorem dX10_send_36 : decode cX10_send 36 = .ok (.getfield 391, 3) := by decide +kernel
theorem dX10_send_39 : decode cX10_send 39 = .ok (.iconst 1, 1) := by decide +kernel
theorem dX10_send_40 : decode cX10_send 40 = .ok (.iadd, 1) := by decide +kernel
theorem dX10_send_41 : decode cX10_send 41 = .ok (.putfield 391, 3) := by decide +kernel
theorem dX10_send_44 : decode cX10_send 44 = .ok (.aload_n 0, 1) := by decide +kernel
theorem dX10_send_45 : decode cX10_send 45 = .ok (.getfield 102, 3) := by decide +kernel
theorem dX10_send_48 : decode cX10_send 48 = .ok (.iload_n 1, 1) := by decide +kernel
theorem dX10_send_49 : decode cX10_send 49 = .ok (.aload_n 0, 1) := by decide +kernel
theorem dX10_send_50 : decode cX10_send 50 = .ok (.getfield 151, 3) := by decide +kernel
theorem dX10_send_53 : decode cX10_send 53 = .ok (.iastore, 1) := by decide +kernel
theorem dX10_send_54 : decode cX10_send 54 = .ok (.aload_n 0, 1) := by decide +kernel
theorem dX10_send_55 : decode cX10_send 55 = .ok (.getfield 105, 3) := by decide +kernel
theorem dX10_send_58 : decode cX10_send 58 = .ok (.iload_n 1, 1) := by decide +kernel
theorem dX10_send_59 : decode cX10_send 59 = .ok (.aload_n 0, 1) := by decide +kernel
theorem dX10_send_60 : decode cX10_send 60 = .ok (.getfield 388, 3) := by decide +kernel
theorem dX10_send_63 : decode cX10_send 63 = .ok (.iastore, 1) := by decide +kernel
theorem dX10_send_64 : decode cX10_send 64 = .ok (.aload_n 0, 1) := by decide +kernel
theorem dX10_send_65 : decode cX10_send 65 = .ok (.getfield 108, 3) := by decide +kernel
theorem dX10_send_68 : decode cX10_send 68 = .ok (.iload_n 1, 1) := by decide +kernel
theorem dX10_send_69 : decode cX10_send 69 = .ok (.iconst (-1), 1) := by decide +kernel
theorem dX10_send_70 : decode cX10_send 70 = .ok (.iastore, 1) := by decide +kernel
theorem dX10_send_71 : decode cX10_send 71 = .ok (.aload_n 0, 1) := by decide +kernel
theorem dX10_send_72 : decode cX10_send 72 = .ok (.getfield 111, 3) := by decide +kernel
theorem dX10_send_75 : decode cX10_send 75 = .ok (.iload_n 1, 1) := by decide +kernel
theorem dX10_send_76 : decode cX10_send 76 = .ok (.iconst (-1), 1) := by decide +kernel
theorem dX10_send_77 : decode cX10_send 77 = .ok (.iastore, 1) := by decide +kernel
theorem dX10_send_78 : decode cX10_send 78 = .ok (.aload_n 0, 1) := by decide +kernel
theorem dX10_send_79 : decode cX10_send 79 = .ok (.getfield 114, 3) := by decide +kernel
theorem dX10_send_82 : decode cX10_send 82 = .ok (.iload_n 1, 1) := by decide +kernel
theorem dX10_send_83 : decode cX10_send 83 = .ok (.iconst (-1), 1) := by decide +kernel
theorem dX10_send_84 : decode cX10_send 84 = .ok (.iastore, 1) := by decide +kernel
theorem dX10_send_85 : decode cX10_send 85 = .ok (.aload_n 0, 1) := by decide +kernel
theorem dX10_send_86 : decode cX10_send 86 = .ok (.getfield 151, 3) := by decide +kernel
theorem dX10_send_89 : decode cX10_send 89 = .ok (.aload_n 0, 1) := by decide +kernel
theorem dX10_send_90 : decode cX10_send 90 = .ok (.getfield 154, 3) := by decide +kernel
theorem dX10_send_93 : decode cX10_send 93 = .ok (.if_icmp .ne 11, 3) := by decide +kernel
theorem dX10_send_96 : decode cX10_send 96 = .ok (.aload_n 0, 1) := by decide +kernel
theorem dX10_send_97 : decode cX10_send 97 = .ok (.iload_n 1, 1) := by decide +kernel
theorem dX10_send_98 : decode cX10_send 98 = .ok (.invokevirtual 397, 3) := by decide +kernel
theorem dX10_send_101 : decode cX10_send 101 = .ok (.goto 8, 3) := by decide +kernel
theorem dX10_send_104 : decode cX10_send 104 = .ok (.aload_n 0, 1) := by decide +kernel
theorem dX10_send_105 : decode cX10_send 105 = .ok (.iload_n 1, 1) := by decide +kernel
theorem dX10_send_106 : decode cX10_send 106 = .ok (.invokevirtual 400, 3) := by decide +kernel
theorem dX10_send_109 : decode cX10_send 109 = .ok (.iload_n 1, 1) := by decide +kernel
theorem dX10_send_110 : decode cX10_send 110 = .ok (.ireturn, 1) := by decide +kernel
theorem dX10_handOn_0 : decode cX10_handOn 0 = .ok (.aload_n 0, 1) := by decide +kernel
theorem dX10_handOn_1 : decode cX10_handOn 1 = .ok (.getfield 102, 3) := by decide +kernel
theorem dX10_handOn_4 : decode cX10_handOn 4 = .ok (.iload_n 1, 1) := by decide +kernel
theorem dX10_handOn_5 : decode cX10_handOn 5 = .ok (.iaload, 1) := by decide +kernel
theorem dX10_handOn_6 : decode cX10_handOn 6 = .ok (.ifCond .lt 51, 3) := by decide +kernel
theorem dX10_handOn_9 : decode cX10_handOn 9 = .ok (.aload_n 0, 1) := by decide +kernel
theorem dX10_handOn_10 : decode cX10_handOn 10 = .ok (.getfield 111, 3) := by decide +kernel
theorem dX10_handOn_13 : decode cX10_handOn 13 = .ok (.iload_n 1, 1) := by decide +kernel
theorem dX10_handOn_14 : decode cX10_handOn 14 = .ok (.iaload, 1) := by decide +kernel
theorem dX10_handOn_15 : decode cX10_handOn 15 = .ok (.ifCond .lt 42, 3) := by decide +kernel
theorem dX10_handOn_18 : decode cX10_handOn 18 = .ok (.aload_n 0, 1) := by decide +kernel
theorem dX10_handOn_19 : decode cX10_handOn 19 = .ok (.getfield 114, 3) := by decide +kernel
theorem dX10_handOn_22 : decode cX10_handOn 22 = .ok (.iload_n 1, 1) := by decide +kernel
theorem dX10_handOn_23 : decode cX10_handOn 23 = .ok (.iaload, 1) := by decide +kernel
theorem dX10_handOn_24 : decode cX10_handOn 24 = .ok (.aload_n 0, 1) := by decide +kernel
theorem dX10_handOn_25 : decode cX10_handOn 25 = .ok (.getfield 388, 3) := by decide +kernel
theorem dX10_handOn_28 : decode cX10_handOn 28 = .ok (.if_icmp .ne 29, 3) := by decide +kernel
theorem dX10_handOn_31 : decode cX10_handOn 31 = .ok (.aload_n 0, 1) := by decide +kernel
theorem dX10_handOn_32 : decode cX10_handOn 32 = .ok (.aload_n 0, 1) := by decide +kernel
theorem dX10_handOn_33 : decode cX10_handOn 33 = .ok (.getfield 102, 3) := by decide +kernel
theorem dX10_handOn_36 : decode cX10_handOn 36 = .ok (.iload_n 1, 1) := by decide +kernel
theorem dX10_handOn_37 : decode cX10_handOn 37 = .ok (.iaload, 1) := by decide +kernel
theorem dX10_handOn_38 : decode cX10_handOn 38 = .ok (.invokevirtual 315, 3) := by decide +kernel
theorem dX10_handOn_41 : decode cX10_handOn 41 = .ok (.ifCond .eq 16, 3) := by decide +kernel
theorem dX10_handOn_44 : decode cX10_handOn 44 = .ok (.aload_n 0, 1) := by decide +kernel
theorem dX10_handOn_45 : decode cX10_handOn 45 = .ok (.aload_n 0, 1) := by decide +kernel
theorem dX10_handOn_46 : decode cX10_handOn 46 = .ok (.getfield 111, 3) := by decide +kernel
theorem dX10_handOn_49 : decode cX10_handOn 49 = .ok (.iload_n 1, 1) := by decide +kernel
theorem dX10_handOn_50 : decode cX10_handOn 50 = .ok (.iaload, 1) := by decide +kernel
theorem dX10_handOn_51 : decode cX10_handOn 51 = .ok (.invokevirtual 315, 3) := by decide +kernel
theorem dX10_handOn_54 : decode cX10_handOn 54 = .ok (.ifCond .ne 4, 3) := by decide +kernel
theorem dX10_handOn_57 : decode cX10_handOn 57 = .ok (.return_, 1) := by decide +kernel
theorem dX10_handOn_58 : decode cX10_handOn 58 = .ok (.aload_n 0, 1) := by decide +kernel
theorem dX10_handOn_59 : decode cX10_handOn 59 = .ok (.getfield 102, 3) := by decide +kernel
theorem dX10_handOn_62 : decode cX10_handOn 62 = .ok (.iload_n 1, 1) := by decide +kernel
theorem dX10_handOn_63 : decode cX10_handOn 63 = .ok (.aload_n 0, 1) := by decide +kernel
theorem dX10_handOn_64 : decode cX10_handOn 64 = .ok (.getfield 111, 3) := by decide +kernel
theorem dX10_handOn_67 : decode cX10_handOn 67 = .ok (.iload_n 1, 1) := by decide +kernel
theorem dX10_handOn_68 : decode cX10_handOn 68 = .ok (.iaload, 1) := by decide +kernel
theorem dX10_handOn_69 : decode cX10_handOn 69 = .ok (.iastore, 1) := by decide +kernel
theorem dX10_handOn_70 : decode cX10_handOn 70 = .ok (.aload_n 0, 1) := by decide +kernel
theorem dX10_handOn_71 : decode cX10_handOn 71 = .ok (.getfield 111, 3) := by decide +kernel
theorem dX10_handOn_74 : decode cX10_handOn 74 = .ok (.iload_n 1, 1) := by decide +kernel
theorem dX10_handOn_75 : decode cX10_handOn 75 = .ok (.iconst (-1), 1) := by decide +kernel
theorem dX10_handOn_76 : decode cX10_handOn 76 = .ok (.iastore, 1) := by decide +kernel
theorem dX10_handOn_77 : decode cX10_handOn 77 = .ok (.aload_n 0, 1) := by decide +kernel
theorem dX10_handOn_78 : decode cX10_handOn 78 = .ok (.getfield 114, 3) := by decide +kernel
theorem dX10_handOn_81 : decode cX10_handOn 81 = .ok (.iload_n 1, 1) := by decide +kernel
theorem dX10_handOn_82 : decode cX10_handOn 82 = .ok (.iconst (-1), 1) := by decide +kernel
theorem dX10_handOn_83 : decode cX10_handOn 83 = .ok (.iastore, 1) := by decide +kernel
theorem dX10_handOn_84 : decode cX10_handOn 84 = .ok (.aload_n 0, 1) := by decide +kernel
theorem dX10_handOn_85 : decode cX10_handOn 85 = .ok (.getfield 102, 3) := by decide +kernel
theorem dX10_handOn_88 : decode cX10_handOn 88 = .ok (.iload_n 1, 1) := by decide +kernel
theorem dX10_handOn_89 : decode cX10_handOn 89 = .ok (.iaload, 1) := by decide +kernel
theorem dX10_handOn_90 : decode cX10_handOn 90 = .ok (.aload_n 0, 1) := by decide +kernel
theorem dX10_handOn_91 : decode cX10_handOn 91 = .ok (.getfield 154, 3) := by decide +kernel
theorem dX10_handOn_94 : decode cX10_handOn 94 = .ok (.if_icmp .ne 8, 3) := by decide +kernel
theorem dX10_handOn_97 : decode cX10_handOn 97 = .ok (.aload_n 0, 1) := by decide +kernel
theorem dX10_handOn_98 : decode cX10_handOn 98 = .ok (.iload_n 1, 1) := by decide +kernel
theorem dX10_handOn_99 : decode cX10_handOn 99 = .ok (.invokevirtual 397, 3) := by decide +kernel
theorem dX10_handOn_102 : decode cX10_handOn 102 = .ok (.return_, 1) := by decide +kernel
theorem dX10_bring_0 : decode cX10_bring 0 = .ok (.iconst 0, 1) := by decide +kernel
theorem dX10_bring_1 : decode cX10_bring 1 = .ok (.istore_n 1, 1) := by decide +kernel
theorem dX10_bring_2 : decode cX10_bring 2 = .ok (.iload_n 1, 1) := by decide +kernel
theorem dX10_bring_3 : decode cX10_bring 3 = .ok (.bipush 12, 2) := by decide +kernel
theorem dX10_bring_5 : decode cX10_bring 5 = .ok (.if_icmp .ge 45, 3) := by decide +kernel
theorem dX10_bring_8 : decode cX10_bring 8 = .ok (.aload_n 0, 1) := by decide +kernel
theorem dX10_bring_9 : decode cX10_bring 9 = .ok (.getfield 81, 3) := by decide +kernel
theorem dX10_bring_12 : decode cX10_bring 12 = .ok (.iload_n 1, 1) := by decide +kernel
theorem dX10_bring_13 : decode cX10_bring 13 = .ok (.aload_n 0, 1) := by decide +kernel
theorem dX10_bring_14 : decode cX10_bring 14 = .ok (.getfield 90, 3) := by decide +kernel
theorem dX10_bring_17 : decode cX10_bring 17 = .ok (.iload_n 1, 1) := by decide +kernel
theorem dX10_bring_18 : decode cX10_bring 18 = .ok (.iaload, 1) := by decide +kernel
theorem dX10_bring_19 : decode cX10_bring 19 = .ok (.iastore, 1) := by decide +kernel
theorem dX10_bring_20 : decode cX10_bring 20 = .ok (.aload_n 0, 1) := by decide +kernel
theorem dX10_bring_21 : decode cX10_bring 21 = .ok (.getfield 84, 3) := by decide +kernel
theorem dX10_bring_24 : decode cX10_bring 24 = .ok (.iload_n 1, 1) := by decide +kernel
theorem dX10_bring_25 : decode cX10_bring 25 = .ok (.aload_n 0, 1) := by decide +kernel
theorem dX10_bring_26 : decode cX10_bring 26 = .ok (.getfield 93, 3) := by decide +kernel
theorem dX10_bring_29 : decode cX10_bring 29 = .ok (.iload_n 1, 1) := by decide +kernel
theorem dX10_bring_30 : decode cX10_bring 30 = .ok (.iaload, 1) := by decide +kernel
theorem dX10_bring_31 : decode cX10_bring 31 = .ok (.iastore, 1) := by decide +kernel
theorem dX10_bring_32 : decode cX10_bring 32 = .ok (.aload_n 0, 1) := by decide +kernel
theorem dX10_bring_33 : decode cX10_bring 33 = .ok (.getfield 87, 3) := by decide +kernel
theorem dX10_bring_36 : decode cX10_bring 36 = .ok (.iload_n 1, 1) := by decide +kernel
theorem dX10_bring_37 : decode cX10_bring 37 = .ok (.aload_n 0, 1) := by decide +kernel
theorem dX10_bring_38 : decode cX10_bring 38 = .ok (.getfield 96, 3) := by decide +kernel
theorem dX10_bring_41 : decode cX10_bring 41 = .ok (.iload_n 1, 1) := by decide +kernel
theorem dX10_bring_42 : decode cX10_bring 42 = .ok (.iaload, 1) := by decide +kernel
theorem dX10_bring_43 : decode cX10_bring 43 = .ok (.iastore, 1) := by decide +kernel
theorem dX10_bring_44 : decode cX10_bring 44 = .ok (.iinc 1 1, 3) := by decide +kernel
theorem dX10_bring_47 : decode cX10_bring 47 = .ok (.goto (-45), 3) := by decide +kernel
theorem dX10_bring_50 : decode cX10_bring 50 = .ok (.return_, 1) := by decide +kernel
theorem dX10_takeBack_0 : decode cX10_takeBack 0 = .ok (.iconst 0, 1) := by decide +kernel
theorem dX10_takeBack_1 : decode cX10_takeBack 1 = .ok (.istore_n 1, 1) := by decide +kernel
theorem dX10_takeBack_2 : decode cX10_takeBack 2 = .ok (.iload_n 1, 1) := by decide +kernel
theorem dX10_takeBack_3 : decode cX10_takeBack 3 = .ok (.bipush 12, 2) := by decide +kernel
theorem dX10_takeBack_5 : decode cX10_takeBack 5 = .ok (.if_icmp .ge 33, 3) := by decide +kernel
theorem dX10_takeBack_8 : decode cX10_takeBack 8 = .ok (.aload_n 0, 1) := by decide +kernel
theorem dX10_takeBack_9 : decode cX10_takeBack 9 = .ok (.getfield 90, 3) := by decide +kernel
theorem dX10_takeBack_12 : decode cX10_takeBack 12 = .ok (.iload_n 1, 1) := by decide +kernel
theorem dX10_takeBack_13 : decode cX10_takeBack 13 = .ok (.aload_n 0, 1) := by decide +kernel
theorem dX10_takeBack_14 : decode cX10_takeBack 14 = .ok (.getfield 81, 3) := by decide +kernel
theorem dX10_takeBack_17 : decode cX10_takeBack 17 = .ok (.iload_n 1, 1) := by decide +kernel
theorem dX10_takeBack_18 : decode cX10_takeBack 18 = .ok (.iaload, 1) := by decide +kernel
theorem dX10_takeBack_19 : decode cX10_takeBack 19 = .ok (.iastore, 1) := by decide +kernel
theorem dX10_takeBack_20 : decode cX10_takeBack 20 = .ok (.aload_n 0, 1) := by decide +kernel
theorem dX10_takeBack_21 : decode cX10_takeBack 21 = .ok (.getfield 93, 3) := by decide +kernel
theorem dX10_takeBack_24 : decode cX10_takeBack 24 = .ok (.iload_n 1, 1) := by decide +kernel
theorem dX10_takeBack_25 : decode cX10_takeBack 25 = .ok (.aload_n 0, 1) := by decide +kernel
theorem dX10_takeBack_26 : decode cX10_takeBack 26 = .ok (.getfield 84, 3) := by decide +kernel
theorem dX10_takeBack_29 : decode cX10_takeBack 29 = .ok (.iload_n 1, 1) := by decide +kernel
theorem dX10_takeBack_30 : decode cX10_takeBack 30 = .ok (.iaload, 1) := by decide +kernel
theorem dX10_takeBack_31 : decode cX10_takeBack 31 = .ok (.iastore, 1) := by decide +kernel
theorem dX10_takeBack_32 : decode cX10_takeBack 32 = .ok (.iinc 1 1, 3) := by decide +kernel
theorem dX10_takeBack_35 : decode cX10_takeBack 35 = .ok (.goto (-33), 3) := by decide +kernel
theorem dX10_takeBack_38 : decode cX10_takeBack 38 = .ok (.return_, 1) := by decide +kernel
theorem dX10_step_0 : decode cX10_step 0 = .ok (.aload_n 0, 1) := by decide +kernel
theorem dX10_step_1 : decode cX10_step 1 = .ok (.dup, 1) := by decide +kernel
theorem dX10_step_2 : decode cX10_step 2 = .ok (.getfield 388, 3) := by decide +kernel
theorem dX10_step_5 : decode cX10_step 5 = .ok (.iconst 1, 1) := by decide +kernel
theorem dX10_step_6 : decode cX10_step 6 = .ok (.iadd, 1) := by decide +kernel
theorem dX10_step_7 : decode cX10_step 7 = .ok (.putfield 388, 3) := by decide +kernel
theorem dX10_step_10 : decode cX10_step 10 = .ok (.iconst 0, 1) := by decide +kernel
theorem dX10_step_11 : decode cX10_step 11 = .ok (.istore_n 1, 1) := by decide +kernel
theorem dX10_step_12 : decode cX10_step 12 = .ok (.iload_n 1, 1) := by decide +kernel
theorem dX10_step_13 : decode cX10_step 13 = .ok (.aload_n 0, 1) := by decide +kernel
theorem dX10_step_14 : decode cX10_step 14 = .ok (.getfield 391, 3) := by decide +kernel
theorem dX10_step_17 : decode cX10_step 17 = .ok (.if_icmp .ge 14, 3) := by decide +kernel
theorem dX10_step_20 : decode cX10_step 20 = .ok (.aload_n 0, 1) := by decide +kernel
theorem dX10_step_21 : decode cX10_step 21 = .ok (.iload_n 1, 1) := by decide +kernel
theorem dX10_step_22 : decode cX10_step 22 = .ok (.invokevirtual 403, 3) := by decide +kernel
theorem dX10_step_25 : decode cX10_step 25 = .ok (.iinc 1 1, 3) := by decide +kernel
theorem dX10_step_28 : decode cX10_step 28 = .ok (.goto (-16), 3) := by decide +kernel
theorem dX10_step_31 : decode cX10_step 31 = .ok (.aload_n 0, 1) := by decide +kernel
theorem dX10_step_32 : decode cX10_step 32 = .ok (.invokevirtual 406, 3) := by decide +kernel
theorem dX10_step_35 : decode cX10_step 35 = .ok (.aload_n 0, 1) := by decide +kernel
theorem dX10_step_36 : decode cX10_step 36 = .ok (.aload_n 0, 1) := by decide +kernel
theorem dX10_step_37 : decode cX10_step 37 = .ok (.getfield 388, 3) := by decide +kernel
theorem dX10_step_40 : decode cX10_step 40 = .ok (.invokevirtual 376, 3) := by decide +kernel
theorem dX10_step_43 : decode cX10_step 43 = .ok (.pop, 1) := by decide +kernel
theorem dX10_step_44 : decode cX10_step 44 = .ok (.aload_n 0, 1) := by decide +kernel
theorem dX10_step_45 : decode cX10_step 45 = .ok (.aload_n 0, 1) := by decide +kernel
theorem dX10_step_46 : decode cX10_step 46 = .ok (.getfield 388, 3) := by decide +kernel
theorem dX10_step_49 : decode cX10_step 49 = .ok (.invokevirtual 379, 3) := by decide +kernel
theorem dX10_step_52 : decode cX10_step 52 = .ok (.aload_n 0, 1) := by decide +kernel
theorem dX10_step_53 : decode cX10_step 53 = .ok (.invokevirtual 409, 3) := by decide +kernel
theorem dX10_step_56 : decode cX10_step 56 = .ok (.iconst 0, 1) := by decide +kernel
theorem dX10_step_57 : decode cX10_step 57 = .ok (.istore_n 1, 1) := by decide +kernel
theorem dX10_step_58 : decode cX10_step 58 = .ok (.iload_n 1, 1) := by decide +kernel
theorem dX10_step_59 : decode cX10_step 59 = .ok (.aload_n 0, 1) := by decide +kernel
theorem dX10_step_60 : decode cX10_step 60 = .ok (.getfield 391, 3) := by decide +kernel
theorem dX10_step_63 : decode cX10_step 63 = .ok (.if_icmp .ge 96, 3) := by decide +kernel
theorem dX10_step_66 : decode cX10_step 66 = .ok (.aload_n 0, 1) := by decide +kernel
theorem dX10_step_67 : decode cX10_step 67 = .ok (.getfield 102, 3) := by decide +kernel
theorem dX10_step_70 : decode cX10_step 70 = .ok (.iload_n 1, 1) := by decide +kernel
theorem dX10_step_71 : decode cX10_step 71 = .ok (.iaload, 1) := by decide +kernel
theorem dX10_step_72 : decode cX10_step 72 = .ok (.ifCond .ge 6, 3) := by decide +kernel
theorem dX10_step_75 : decode cX10_step 75 = .ok (.goto 78, 3) := by decide +kernel
theorem dX10_step_78 : decode cX10_step 78 = .ok (.aload_n 0, 1) := by decide +kernel
theorem dX10_step_79 : decode cX10_step 79 = .ok (.aload_n 0, 1) := by decide +kernel
theorem dX10_step_80 : decode cX10_step 80 = .ok (.getfield 102, 3) := by decide +kernel
theorem dX10_step_83 : decode cX10_step 83 = .ok (.iload_n 1, 1) := by decide +kernel
theorem dX10_step_84 : decode cX10_step 84 = .ok (.iaload, 1) := by decide +kernel
theorem dX10_step_85 : decode cX10_step 85 = .ok (.invokevirtual 315, 3) := by decide +kernel
theorem dX10_step_88 : decode cX10_step 88 = .ok (.ifCond .ne 38, 3) := by decide +kernel
theorem dX10_step_91 : decode cX10_step 91 = .ok (.aload_n 0, 1) := by decide +kernel
theorem dX10_step_92 : decode cX10_step 92 = .ok (.getfield 102, 3) := by decide +kernel
theorem dX10_step_95 : decode cX10_step 95 = .ok (.iload_n 1, 1) := by decide +kernel
theorem dX10_step_96 : decode cX10_step 96 = .ok (.bipush (-2), 2) := by decide +kernel
theorem dX10_step_98 : decode cX10_step 98 = .ok (.iastore, 1) := by decide +kernel
theorem dX10_step_99 : decode cX10_step 99 = .ok (.aload_n 0, 1) := by decide +kernel
theorem dX10_step_100 : decode cX10_step 100 = .ok (.getfield 108, 3) := by decide +kernel
theorem dX10_step_103 : decode cX10_step 103 = .ok (.iload_n 1, 1) := by decide +kernel
theorem dX10_step_104 : decode cX10_step 104 = .ok (.aload_n 0, 1) := by decide +kernel
theorem dX10_step_105 : decode cX10_step 105 = .ok (.getfield 388, 3) := by decide +kernel
theorem dX10_step_108 : decode cX10_step 108 = .ok (.iastore, 1) := by decide +kernel
theorem dX10_step_109 : decode cX10_step 109 = .ok (.aload_n 0, 1) := by decide +kernel
theorem dX10_step_110 : decode cX10_step 110 = .ok (.getfield 111, 3) := by decide +kernel
theorem dX10_step_113 : decode cX10_step 113 = .ok (.iload_n 1, 1) := by decide +kernel
theorem dX10_step_114 : decode cX10_step 114 = .ok (.iconst (-1), 1) := by decide +kernel
theorem dX10_step_115 : decode cX10_step 115 = .ok (.iastore, 1) := by decide +kernel
theorem dX10_step_116 : decode cX10_step 116 = .ok (.aload_n 0, 1) := by decide +kernel
theorem dX10_step_117 : decode cX10_step 117 = .ok (.getfield 114, 3) := by decide +kernel
theorem dX10_step_120 : decode cX10_step 120 = .ok (.iload_n 1, 1) := by decide +kernel
theorem dX10_step_121 : decode cX10_step 121 = .ok (.iconst (-1), 1) := by decide +kernel
theorem dX10_step_122 : decode cX10_step 122 = .ok (.iastore, 1) := by decide +kernel
theorem dX10_step_123 : decode cX10_step 123 = .ok (.goto 30, 3) := by decide +kernel
theorem dX10_step_126 : decode cX10_step 126 = .ok (.aload_n 0, 1) := by decide +kernel
theorem dX10_step_127 : decode cX10_step 127 = .ok (.getfield 111, 3) := by decide +kernel
theorem dX10_step_130 : decode cX10_step 130 = .ok (.iload_n 1, 1) := by decide +kernel
theorem dX10_step_131 : decode cX10_step 131 = .ok (.iaload, 1) := by decide +kernel
theorem dX10_step_132 : decode cX10_step 132 = .ok (.ifCond .lt 16, 3) := by decide +kernel
theorem dX10_step_135 : decode cX10_step 135 = .ok (.aload_n 0, 1) := by decide +kernel
theorem dX10_step_136 : decode cX10_step 136 = .ok (.aload_n 0, 1) := by decide +kernel
theorem dX10_step_137 : decode cX10_step 137 = .ok (.getfield 111, 3) := by decide +kernel
theorem dX10_step_140 : decode cX10_step 140 = .ok (.iload_n 1, 1) := by decide +kernel
theorem dX10_step_141 : decode cX10_step 141 = .ok (.iaload, 1) := by decide +kernel
theorem dX10_step_142 : decode cX10_step 142 = .ok (.invokevirtual 315, 3) := by decide +kernel
theorem dX10_step_145 : decode cX10_step 145 = .ok (.ifCond .ne 8, 3) := by decide +kernel
theorem dX10_step_148 : decode cX10_step 148 = .ok (.aload_n 0, 1) := by decide +kernel
theorem dX10_step_149 : decode cX10_step 149 = .ok (.iload_n 1, 1) := by decide +kernel
theorem dX10_step_150 : decode cX10_step 150 = .ok (.invokevirtual 400, 3) := by decide +kernel
theorem dX10_step_153 : decode cX10_step 153 = .ok (.iinc 1 1, 3) := by decide +kernel
theorem dX10_step_156 : decode cX10_step 156 = .ok (.goto (-98), 3) := by decide +kernel
theorem dX10_step_159 : decode cX10_step 159 = .ok (.return_, 1) := by decide +kernel
theorem dX10_day_0 : decode cX10_day 0 = .ok (.iload_n 1, 1) := by decide +kernel
theorem dX10_day_1 : decode cX10_day 1 = .ok (.ifCond .lt 21, 3) := by decide +kernel
theorem dX10_day_4 : decode cX10_day 4 = .ok (.iload_n 1, 1) := by decide +kernel
theorem dX10_day_5 : decode cX10_day 5 = .ok (.bipush 99, 2) := by decide +kernel
theorem dX10_day_7 : decode cX10_day 7 = .ok (.if_icmp .gt 15, 3) := by decide +kernel
theorem dX10_day_10 : decode cX10_day 10 = .ok (.aload_n 0, 1) := by decide +kernel
theorem dX10_day_11 : decode cX10_day 11 = .ok (.getfield 388, 3) := by decide +kernel
theorem dX10_day_14 : decode cX10_day 14 = .ok (.iload_n 1, 1) := by decide +kernel
theorem dX10_day_15 : decode cX10_day 15 = .ok (.iadd, 1) := by decide +kernel
theorem dX10_day_16 : decode cX10_day 16 = .ok (.sipush 1000, 3) := by decide +kernel
theorem dX10_day_19 : decode cX10_day 19 = .ok (.if_icmp .le 5, 3) := by decide +kernel
theorem dX10_day_22 : decode cX10_day 22 = .ok (.iconst (-1), 1) := by decide +kernel
theorem dX10_day_23 : decode cX10_day 23 = .ok (.ireturn, 1) := by decide +kernel
theorem dX10_day_24 : decode cX10_day 24 = .ok (.iconst 0, 1) := by decide +kernel
theorem dX10_day_25 : decode cX10_day 25 = .ok (.istore_n 2, 1) := by decide +kernel
theorem dX10_day_26 : decode cX10_day 26 = .ok (.iload_n 2, 1) := by decide +kernel
theorem dX10_day_27 : decode cX10_day 27 = .ok (.iload_n 1, 1) := by decide +kernel
theorem dX10_day_28 : decode cX10_day 28 = .ok (.if_icmp .ge 13, 3) := by decide +kernel
theorem dX10_day_31 : decode cX10_day 31 = .ok (.aload_n 0, 1) := by decide +kernel
theorem dX10_day_32 : decode cX10_day 32 = .ok (.invokevirtual 412, 3) := by decide +kernel
theorem dX10_day_35 : decode cX10_day 35 = .ok (.iinc 2 1, 3) := by decide +kernel
theorem dX10_day_38 : decode cX10_day 38 = .ok (.goto (-12), 3) := by decide +kernel
theorem dX10_day_41 : decode cX10_day 41 = .ok (.aload_n 0, 1) := by decide +kernel
theorem dX10_day_42 : decode cX10_day 42 = .ok (.getfield 388, 3) := by decide +kernel
theorem dX10_day_45 : decode cX10_day 45 = .ok (.ireturn, 1) := by decide +kernel
theorem dX10_take_0 : decode cX10_take 0 = .ok (.aload_n 0, 1) := by decide +kernel
theorem dX10_take_1 : decode cX10_take 1 = .ok (.iload_n 1, 1) := by decide +kernel
theorem dX10_take_2 : decode cX10_take 2 = .ok (.invokevirtual 382, 3) := by decide +kernel
theorem dX10_take_5 : decode cX10_take 5 = .ok (.ifCond .eq 11, 3) := by decide +kernel
theorem dX10_take_8 : decode cX10_take 8 = .ok (.aload_n 0, 1) := by decide +kernel
theorem dX10_take_9 : decode cX10_take 9 = .ok (.iload_n 1, 1) := by decide +kernel
theorem dX10_take_10 : decode cX10_take 10 = .ok (.invokevirtual 315, 3) := by decide +kernel
theorem dX10_take_13 : decode cX10_take 13 = .ok (.ifCond .ne 5, 3) := by decide +kernel
theorem dX10_take_16 : decode cX10_take 16 = .ok (.iconst (-1), 1) := by decide +kernel
theorem dX10_take_17 : decode cX10_take 17 = .ok (.ireturn, 1) := by decide +kernel
theorem dX10_take_18 : decode cX10_take 18 = .ok (.aload_n 0, 1) := by decide +kernel
theorem dX10_take_19 : decode cX10_take 19 = .ok (.invokevirtual 406, 3) := by decide +kernel
theorem dX10_take_22 : decode cX10_take 22 = .ok (.aload_n 0, 1) := by decide +kernel
theorem dX10_take_23 : decode cX10_take 23 = .ok (.getfield 81, 3) := by decide +kernel
theorem dX10_take_26 : decode cX10_take 26 = .ok (.iload_n 1, 1) := by decide +kernel
theorem dX10_take_27 : decode cX10_take 27 = .ok (.aload_n 0, 1) := by decide +kernel
theorem dX10_take_28 : decode cX10_take 28 = .ok (.getfield 388, 3) := by decide +kernel
theorem dX10_take_31 : decode cX10_take 31 = .ok (.iastore, 1) := by decide +kernel
theorem dX10_take_32 : decode cX10_take 32 = .ok (.iconst 1, 1) := by decide +kernel
theorem dX10_take_33 : decode cX10_take 33 = .ok (.istore_n 2, 1) := by decide +kernel
theorem dX10_take_34 : decode cX10_take 34 = .ok (.iconst 1, 1) := by decide +kernel
theorem dX10_take_35 : decode cX10_take 35 = .ok (.istore_n 3, 1) := by decide +kernel
theorem dX10_take_36 : decode cX10_take 36 = .ok (.iload_n 3, 1) := by decide +kernel
theorem dX10_take_37 : decode cX10_take 37 = .ok (.ifCond .eq 123, 3) := by decide +kernel
theorem dX10_take_40 : decode cX10_take 40 = .ok (.iconst 0, 1) := by decide +kernel
theorem dX10_take_41 : decode cX10_take 41 = .ok (.istore_n 3, 1) := by decide +kernel
theorem dX10_take_42 : decode cX10_take 42 = .ok (.iconst 0, 1) := by decide +kernel
theorem dX10_take_43 : decode cX10_take 43 = .ok (.istore 4, 2) := by decide +kernel
theorem dX10_take_45 : decode cX10_take 45 = .ok (.iload 4, 2) := by decide +kernel
theorem dX10_take_47 : decode cX10_take 47 = .ok (.aload_n 0, 1) := by decide +kernel
theorem dX10_take_48 : decode cX10_take 48 = .ok (.getfield 289, 3) := by decide +kernel
theorem dX10_take_51 : decode cX10_take 51 = .ok (.if_icmp .ge 106, 3) := by decide +kernel
theorem dX10_take_54 : decode cX10_take 54 = .ok (.aload_n 0, 1) := by decide +kernel
theorem dX10_take_55 : decode cX10_take 55 = .ok (.getfield 81, 3) := by decide +kernel
theorem dX10_take_58 : decode cX10_take 58 = .ok (.iload 4, 2) := by decide +kernel
theorem dX10_take_60 : decode cX10_take 60 = .ok (.iaload, 1) := by decide +kernel
theorem dX10_take_61 : decode cX10_take 61 = .ok (.aload_n 0, 1) := by decide +kernel
theorem dX10_take_62 : decode cX10_take 62 = .ok (.getfield 388, 3) := by decide +kernel
theorem dX10_take_65 : decode cX10_take 65 = .ok (.if_icmp .ne 86, 3) := by decide +kernel
theorem dX10_take_68 : decode cX10_take 68 = .ok (.aload_n 0, 1) := by decide +kernel
theorem dX10_take_69 : decode cX10_take 69 = .ok (.getfield 90, 3) := by decide +kernel
theorem dX10_take_72 : decode cX10_take 72 = .ok (.iload 4, 2) := by decide +kernel
theorem dX10_take_74 : decode cX10_take 74 = .ok (.iaload, 1) := by decide +kernel
theorem dX10_take_75 : decode cX10_take 75 = .ok (.ifCond .ge 76, 3) := by decide +kernel
theorem dX10_take_78 : decode cX10_take 78 = .ok (.aload_n 0, 1) := by decide +kernel
theorem dX10_take_79 : decode cX10_take 79 = .ok (.iload 4, 2) := by decide +kernel
theorem dX10_take_81 : decode cX10_take 81 = .ok (.invokevirtual 370, 3) := by decide +kernel
theorem dX10_take_84 : decode cX10_take 84 = .ok (.ifCond .le 6, 3) := by decide +kernel
theorem dX10_take_87 : decode cX10_take 87 = .ok (.goto 64, 3) := by decide +kernel
theorem dX10_take_90 : decode cX10_take 90 = .ok (.iconst 0, 1) := by decide +kernel
theorem dX10_take_91 : decode cX10_take 91 = .ok (.istore 5, 2) := by decide +kernel
theorem dX10_take_93 : decode cX10_take 93 = .ok (.iload 5, 2) := by decide +kernel
theorem dX10_take_95 : decode cX10_take 95 = .ok (.aload_n 0, 1) := by decide +kernel
theorem dX10_take_96 : decode cX10_take 96 = .ok (.getfield 289, 3) := by decide +kernel
theorem dX10_take_99 : decode cX10_take 99 = .ok (.if_icmp .ge 52, 3) := by decide +kernel
theorem dX10_take_102 : decode cX10_take 102 = .ok (.aload_n 0, 1) := by decide +kernel
theorem dX10_take_103 : decode cX10_take 103 = .ok (.getfield 87, 3) := by decide +kernel
theorem dX10_take_106 : decode cX10_take 106 = .ok (.iload 4, 2) := by decide +kernel
theorem dX10_take_108 : decode cX10_take 108 = .ok (.iaload, 1) := by decide +kernel
theorem dX10_take_109 : decode cX10_take 109 = .ok (.iload 5, 2) := by decide +kernel
theorem dX10_take_111 : decode cX10_take 111 = .ok (.ishr, 1) := by decide +kernel
theorem dX10_take_112 : decode cX10_take 112 = .ok (.iconst 1, 1) := by decide +kernel
theorem dX10_take_113 : decode cX10_take 113 = .ok (.iand, 1) := by decide +kernel
theorem dX10_take_114 : decode cX10_take 114 = .ok (.ifCond .eq 31, 3) := by decide +kernel
theorem dX10_take_117 : decode cX10_take 117 = .ok (.aload_n 0, 1) := by decide +kernel
theorem dX10_take_118 : decode cX10_take 118 = .ok (.iload 5, 2) := by decide +kernel
theorem dX10_take_120 : decode cX10_take 120 = .ok (.invokevirtual 373, 3) := by decide +kernel
theorem dX10_take_123 : decode cX10_take 123 = .ok (.ifCond .ne 6, 3) := by decide +kernel
theorem dX10_take_126 : decode cX10_take 126 = .ok (.goto 19, 3) := by decide +kernel
theorem dX10_take_129 : decode cX10_take 129 = .ok (.aload_n 0, 1) := by decide +kernel
theorem dX10_take_130 : decode cX10_take 130 = .ok (.getfield 81, 3) := by decide +kernel
theorem dX10_take_133 : decode cX10_take 133 = .ok (.iload 5, 2) := by decide +kernel
theorem dX10_take_135 : decode cX10_take 135 = .ok (.aload_n 0, 1) := by decide +kernel
theorem dX10_take_136 : decode cX10_take 136 = .ok (.getfield 388, 3) := by decide +kernel
theorem dX10_take_139 : decode cX10_take 139 = .ok (.iastore, 1) := by decide +kernel
theorem dX10_take_140 : decode cX10_take 140 = .ok (.iinc 2 1, 3) := by decide +kernel
theorem dX10_take_143 : decode cX10_take 143 = .ok (.iconst 1, 1) := by decide +kernel
theorem dX10_take_144 : decode cX10_take 144 = .ok (.istore_n 3, 1) := by decide +kernel
theorem dX10_take_145 : decode cX10_take 145 = .ok (.iinc 5 1, 3) := by decide +kernel
theorem dX10_take_148 : decode cX10_take 148 = .ok (.goto (-55), 3) := by decide +kernel
theorem dX10_take_151 : decode cX10_take 151 = .ok (.iinc 4 1, 3) := by decide +kernel
theorem dX10_take_154 : decode cX10_take 154 = .ok (.goto (-109), 3) := by decide +kernel
theorem dX10_take_157 : decode cX10_take 157 = .ok (.goto (-121), 3) := by decide +kernel
theorem dX10_take_160 : decode cX10_take 160 = .ok (.aload_n 0, 1) := by decide +kernel
theorem dX10_take_161 : decode cX10_take 161 = .ok (.invokevirtual 409, 3) := by decide +kernel
theorem dX10_take_164 : decode cX10_take 164 = .ok (.iload_n 2, 1) := by decide +kernel
theorem dX10_take_165 : decode cX10_take 165 = .ok (.ireturn, 1) := by decide +kernel
theorem dX10_isPerson_0 : decode cX10_isPerson 0 = .ok (.aload_n 0, 1) := by decide +kernel
theorem dX10_isPerson_1 : decode cX10_isPerson 1 = .ok (.iload_n 1, 1) := by decide +kernel
theorem dX10_isPerson_2 : decode cX10_isPerson 2 = .ok (.invokevirtual 311, 3) := by decide +kernel
theorem dX10_isPerson_5 : decode cX10_isPerson 5 = .ok (.ifCond .eq 25, 3) := by decide +kernel
theorem dX10_isPerson_8 : decode cX10_isPerson 8 = .ok (.aload_n 0, 1) := by decide +kernel
theorem dX10_isPerson_9 : decode cX10_isPerson 9 = .ok (.getfield 39, 3) := by decide +kernel
theorem dX10_isPerson_12 : decode cX10_isPerson 12 = .ok (.iload_n 1, 1) := by decide +kernel
theorem dX10_isPerson_13 : decode cX10_isPerson 13 = .ok (.iaload, 1) := by decide +kernel
theorem dX10_isPerson_14 : decode cX10_isPerson 14 = .ok (.iconst 3, 1) := by decide +kernel
theorem dX10_isPerson_15 : decode cX10_isPerson 15 = .ok (.if_icmp .eq 15, 3) := by decide +kernel
theorem dX10_isPerson_18 : decode cX10_isPerson 18 = .ok (.aload_n 0, 1) := by decide +kernel
theorem dX10_isPerson_19 : decode cX10_isPerson 19 = .ok (.iload_n 1, 1) := by decide +kernel
theorem dX10_isPerson_20 : decode cX10_isPerson 20 = .ok (.invokevirtual 315, 3) := by decide +kernel
theorem dX10_isPerson_23 : decode cX10_isPerson 23 = .ok (.ifCond .eq 7, 3) := by decide +kernel
theorem dX10_isPerson_26 : decode cX10_isPerson 26 = .ok (.iconst 1, 1) := by decide +kernel
theorem dX10_isPerson_27 : decode cX10_isPerson 27 = .ok (.goto 4, 3) := by decide +kernel
theorem dX10_isPerson_30 : decode cX10_isPerson 30 = .ok (.iconst 0, 1) := by decide +kernel
theorem dX10_isPerson_31 : decode cX10_isPerson 31 = .ok (.ireturn, 1) := by decide +kernel
theorem dX10_canMeetBy_0 : decode cX10_canMeetBy 0 = .ok (.iload_n 3, 1) := by decide +kernel
theorem dX10_canMeetBy_1 : decode cX10_canMeetBy 1 = .ok (.iload_n 1, 1) := by decide +kernel
theorem dX10_canMeetBy_2 : decode cX10_canMeetBy 2 = .ok (.if_icmp .eq 48, 3) := by decide +kernel
theorem dX10_canMeetBy_5 : decode cX10_canMeetBy 5 = .ok (.iload_n 3, 1) := by decide +kernel
theorem dX10_canMeetBy_6 : decode cX10_canMeetBy 6 = .ok (.iload_n 2, 1) := by decide +kernel
theorem dX10_canMeetBy_7 : decode cX10_canMeetBy 7 = .ok (.if_icmp .eq 43, 3) := by decide +kernel
theorem dX10_canMeetBy_10 : decode cX10_canMeetBy 10 = .ok (.aload_n 0, 1) := by decide +kernel
theorem dX10_canMeetBy_11 : decode cX10_canMeetBy 11 = .ok (.iload_n 3, 1) := by decide +kernel
theorem dX10_canMeetBy_12 : decode cX10_canMeetBy 12 = .ok (.invokevirtual 415, 3) := by decide +kernel
theorem dX10_canMeetBy_15 : decode cX10_canMeetBy 15 = .ok (.ifCond .eq 35, 3) := by decide +kernel
theorem dX10_canMeetBy_18 : decode cX10_canMeetBy 18 = .ok (.aload_n 0, 1) := by decide +kernel
theorem dX10_canMeetBy_19 : decode cX10_canMeetBy 19 = .ok (.getfield 96, 3) := by decide +kernel
theorem dX10_canMeetBy_22 : decode cX10_canMeetBy 22 = .ok (.iload_n 3, 1) := by decide +kernel
theorem dX10_canMeetBy_23 : decode cX10_canMeetBy 23 = .ok (.iaload, 1) := by decide +kernel
theorem dX10_canMeetBy_24 : decode cX10_canMeetBy 24 = .ok (.iload_n 1, 1) := by decide +kernel
theorem dX10_canMeetBy_25 : decode cX10_canMeetBy 25 = .ok (.ishr, 1) := by decide +kernel
theorem dX10_canMeetBy_26 : decode cX10_canMeetBy 26 = .ok (.iconst 1, 1) := by decide +kernel
theorem dX10_canMeetBy_27 : decode cX10_canMeetBy 27 = .ok (.iand, 1) := by decide +kernel
theorem dX10_canMeetBy_28 : decode cX10_canMeetBy 28 = .ok (.iconst 1, 1) := by decide +kernel
theorem dX10_canMeetBy_29 : decode cX10_canMeetBy 29 = .ok (.if_icmp .ne 21, 3) := by decide +kernel
theorem dX10_canMeetBy_32 : decode cX10_canMeetBy 32 = .ok (.aload_n 0, 1) := by decide +kernel
theorem dX10_canMeetBy_33 : decode cX10_canMeetBy 33 = .ok (.getfield 96, 3) := by decide +kernel
theorem dX10_canMeetBy_36 : decode cX10_canMeetBy 36 = .ok (.iload_n 3, 1) := by decide +kernel
theorem dX10_canMeetBy_37 : decode cX10_canMeetBy 37 = .ok (.iaload, 1) := by decide +kernel
theorem dX10_canMeetBy_38 : decode cX10_canMeetBy 38 = .ok (.iload_n 2, 1) := by decide +kernel
theorem dX10_canMeetBy_39 : decode cX10_canMeetBy 39 = .ok (.ishr, 1) := by decide +kernel
theorem dX10_canMeetBy_40 : decode cX10_canMeetBy 40 = .ok (.iconst 1, 1) := by decide +kernel
theorem dX10_canMeetBy_41 : decode cX10_canMeetBy 41 = .ok (.iand, 1) := by decide +kernel
theorem dX10_canMeetBy_42 : decode cX10_canMeetBy 42 = .ok (.iconst 1, 1) := by decide +kernel
theorem dX10_canMeetBy_43 : decode cX10_canMeetBy 43 = .ok (.if_icmp .ne 7, 3) := by decide +kernel
theorem dX10_canMeetBy_46 : decode cX10_canMeetBy 46 = .ok (.iconst 1, 1) := by decide +kernel
theorem dX10_canMeetBy_47 : decode cX10_canMeetBy 47 = .ok (.goto 4, 3) := by decide +kernel
theorem dX10_canMeetBy_50 : decode cX10_canMeetBy 50 = .ok (.iconst 0, 1) := by decide +kernel
theorem dX10_canMeetBy_51 : decode cX10_canMeetBy 51 = .ok (.ireturn, 1) := by decide +kernel
theorem dX10_canMeet_0 : decode cX10_canMeet 0 = .ok (.iconst 0, 1) := by decide +kernel
theorem dX10_canMeet_1 : decode cX10_canMeet 1 = .ok (.istore_n 3, 1) := by decide +kernel
theorem dX10_canMeet_2 : decode cX10_canMeet 2 = .ok (.iconst 0, 1) := by decide +kernel
theorem dX10_canMeet_3 : decode cX10_canMeet 3 = .ok (.istore 4, 2) := by decide +kernel
theorem dX10_canMeet_5 : decode cX10_canMeet 5 = .ok (.iload 4, 2) := by decide +kernel
theorem dX10_canMeet_7 : decode cX10_canMeet 7 = .ok (.aload_n 0, 1) := by decide +kernel
theorem dX10_canMeet_8 : decode cX10_canMeet 8 = .ok (.getfield 289, 3) := by decide +kernel
theorem dX10_canMeet_11 : decode cX10_canMeet 11 = .ok (.if_icmp .ge 30, 3) := by decide +kernel
theorem dX10_canMeet_14 : decode cX10_canMeet 14 = .ok (.iload_n 3, 1) := by decide +kernel
theorem dX10_canMeet_15 : decode cX10_canMeet 15 = .ok (.ifCond .ne 14, 3) := by decide +kernel
theorem dX10_canMeet_18 : decode cX10_canMeet 18 = .ok (.aload_n 0, 1) := by decide +kernel
theorem dX10_canMeet_19 : decode cX10_canMeet 19 = .ok (.iload_n 1, 1) := by decide +kernel
theorem dX10_canMeet_20 : decode cX10_canMeet 20 = .ok (.iload_n 2, 1) := by decide +kernel
theorem dX10_canMeet_21 : decode cX10_canMeet 21 = .ok (.iload 4, 2) := by decide +kernel
theorem dX10_canMeet_23 : decode cX10_canMeet 23 = .ok (.invokevirtual 418, 3) := by decide +kernel
theorem dX10_canMeet_26 : decode cX10_canMeet 26 = .ok (.ifCond .eq 7, 3) := by decide +kernel
theorem dX10_canMeet_29 : decode cX10_canMeet 29 = .ok (.iconst 1, 1) := by decide +kernel
theorem dX10_canMeet_30 : decode cX10_canMeet 30 = .ok (.goto 4, 3) := by decide +kernel
theorem dX10_canMeet_33 : decode cX10_canMeet 33 = .ok (.iconst 0, 1) := by decide +kernel
theorem dX10_canMeet_34 : decode cX10_canMeet 34 = .ok (.istore_n 3, 1) := by decide +kernel
theorem dX10_canMeet_35 : decode cX10_canMeet 35 = .ok (.iinc 4 1, 3) := by decide +kernel
theorem dX10_canMeet_38 : decode cX10_canMeet 38 = .ok (.goto (-33), 3) := by decide +kernel
theorem dX10_canMeet_41 : decode cX10_canMeet 41 = .ok (.iload_n 3, 1) := by decide +kernel
theorem dX10_canMeet_42 : decode cX10_canMeet 42 = .ok (.ifCond .eq 23, 3) := by decide +kernel
theorem dX10_canMeet_45 : decode cX10_canMeet 45 = .ok (.aload_n 0, 1) := by decide +kernel
theorem dX10_canMeet_46 : decode cX10_canMeet 46 = .ok (.iload_n 1, 1) := by decide +kernel
theorem dX10_canMeet_47 : decode cX10_canMeet 47 = .ok (.invokevirtual 415, 3) := by decide +kernel
theorem dX10_canMeet_50 : decode cX10_canMeet 50 = .ok (.ifCond .eq 15, 3) := by decide +kernel
theorem dX10_canMeet_53 : decode cX10_canMeet 53 = .ok (.aload_n 0, 1) := by decide +kernel
theorem dX10_canMeet_54 : decode cX10_canMeet 54 = .ok (.iload_n 2, 1) := by decide +kernel
theorem dX10_canMeet_55 : decode cX10_canMeet 55 = .ok (.invokevirtual 415, 3) := by decide +kernel
theorem dX10_canMeet_58 : decode cX10_canMeet 58 = .ok (.ifCond .eq 7, 3) := by decide +kernel
theorem dX10_canMeet_61 : decode cX10_canMeet 61 = .ok (.iconst 1, 1) := by decide +kernel
theorem dX10_canMeet_62 : decode cX10_canMeet 62 = .ok (.goto 4, 3) := by decide +kernel
theorem dX10_canMeet_65 : decode cX10_canMeet 65 = .ok (.iconst 0, 1) := by decide +kernel
theorem dX10_canMeet_66 : decode cX10_canMeet 66 = .ok (.ireturn, 1) := by decide +kernel
theorem dX10_meet_0 : decode cX10_meet 0 = .ok (.aload_n 0, 1) := by decide +kernel
theorem dX10_meet_1 : decode cX10_meet 1 = .ok (.iload_n 1, 1) := by decide +kernel
theorem dX10_meet_2 : decode cX10_meet 2 = .ok (.invokevirtual 415, 3) := by decide +kernel
theorem dX10_meet_5 : decode cX10_meet 5 = .ok (.ifCond .eq 40, 3) := by decide +kernel
theorem dX10_meet_8 : decode cX10_meet 8 = .ok (.aload_n 0, 1) := by decide +kernel
theorem dX10_meet_9 : decode cX10_meet 9 = .ok (.iload_n 2, 1) := by decide +kernel
theorem dX10_meet_10 : decode cX10_meet 10 = .ok (.invokevirtual 415, 3) := by decide +kernel
theorem dX10_meet_13 : decode cX10_meet 13 = .ok (.ifCond .eq 32, 3) := by decide +kernel
theorem dX10_meet_16 : decode cX10_meet 16 = .ok (.iload_n 1, 1) := by decide +kernel
theorem dX10_meet_17 : decode cX10_meet 17 = .ok (.iload_n 2, 1) := by decide +kernel
theorem dX10_meet_18 : decode cX10_meet 18 = .ok (.if_icmp .eq 27, 3) := by decide +kernel
theorem dX10_meet_21 : decode cX10_meet 21 = .ok (.aload_n 0, 1) := by decide +kernel
theorem dX10_meet_22 : decode cX10_meet 22 = .ok (.iload_n 1, 1) := by decide +kernel
theorem dX10_meet_23 : decode cX10_meet 23 = .ok (.iload_n 2, 1) := by decide +kernel
theorem dX10_meet_24 : decode cX10_meet 24 = .ok (.iload_n 3, 1) := by decide +kernel
theorem dX10_meet_25 : decode cX10_meet 25 = .ok (.invokevirtual 418, 3) := by decide +kernel
theorem dX10_meet_28 : decode cX10_meet 28 = .ok (.ifCond .eq 17, 3) := by decide +kernel
theorem dX10_meet_31 : decode cX10_meet 31 = .ok (.aload_n 0, 1) := by decide +kernel
theorem dX10_meet_32 : decode cX10_meet 32 = .ok (.getfield 99, 3) := by decide +kernel
theorem dX10_meet_35 : decode cX10_meet 35 = .ok (.bipush 12, 2) := by decide +kernel
theorem dX10_meet_37 : decode cX10_meet 37 = .ok (.iload_n 1, 1) := by decide +kernel
theorem dX10_meet_38 : decode cX10_meet 38 = .ok (.imul, 1) := by decide +kernel
theorem dX10_meet_39 : decode cX10_meet 39 = .ok (.iload_n 2, 1) := by decide +kernel
theorem dX10_meet_40 : decode cX10_meet 40 = .ok (.iadd, 1) := by decide +kernel
theorem dX10_meet_41 : decode cX10_meet 41 = .ok (.iaload, 1) := by decide +kernel
theorem dX10_meet_42 : decode cX10_meet 42 = .ok (.ifCond .le 5, 3) := by decide +kernel
theorem dX10_meet_45 : decode cX10_meet 45 = .ok (.iconst 0, 1) := by decide +kernel
theorem dX10_meet_46 : decode cX10_meet 46 = .ok (.ireturn, 1) := by decide +kernel
theorem dX10_meet_47 : decode cX10_meet 47 = .ok (.aload_n 0, 1) := by decide +kernel
theorem dX10_meet_48 : decode cX10_meet 48 = .ok (.getfield 99, 3) := by decide +kernel
theorem dX10_meet_51 : decode cX10_meet 51 = .ok (.bipush 12, 2) := by decide +kernel
theorem dX10_meet_53 : decode cX10_meet 53 = .ok (.iload_n 1, 1) := by decide +kernel
theorem dX10_meet_54 : decode cX10_meet 54 = .ok (.imul, 1) := by decide +kernel
theorem dX10_meet_55 : decode cX10_meet 55 = .ok (.iload_n 2, 1) := by decide +kernel
theorem dX10_meet_56 : decode cX10_meet 56 = .ok (.iadd, 1) := by decide +kernel
theorem dX10_meet_57 : decode cX10_meet 57 = .ok (.iconst 1, 1) := by decide +kernel
theorem dX10_meet_58 : decode cX10_meet 58 = .ok (.iastore, 1) := by decide +kernel
theorem dX10_meet_59 : decode cX10_meet 59 = .ok (.aload_n 0, 1) := by decide +kernel
theorem dX10_meet_60 : decode cX10_meet 60 = .ok (.getfield 96, 3) := by decide +kernel
theorem dX10_meet_63 : decode cX10_meet 63 = .ok (.iload_n 1, 1) := by decide +kernel
theorem dX10_meet_64 : decode cX10_meet 64 = .ok (.dup2, 1) := by decide +kernel
theorem dX10_meet_65 : decode cX10_meet 65 = .ok (.iaload, 1) := by decide +kernel
theorem dX10_meet_66 : decode cX10_meet 66 = .ok (.iconst 1, 1) := by decide +kernel
theorem dX10_meet_67 : decode cX10_meet 67 = .ok (.iload_n 2, 1) := by decide +kernel
theorem dX10_meet_68 : decode cX10_meet 68 = .ok (.ishl, 1) := by decide +kernel
theorem dX10_meet_69 : decode cX10_meet 69 = .ok (.ior, 1) := by decide +kernel
theorem dX10_meet_70 : decode cX10_meet 70 = .ok (.iastore, 1) := by decide +kernel
theorem dX10_meet_71 : decode cX10_meet 71 = .ok (.aload_n 0, 1) := by decide +kernel
theorem dX10_meet_72 : decode cX10_meet 72 = .ok (.getfield 96, 3) := by decide +kernel
theorem dX10_meet_75 : decode cX10_meet 75 = .ok (.iload_n 2, 1) := by decide +kernel
theorem dX10_meet_76 : decode cX10_meet 76 = .ok (.dup2, 1) := by decide +kernel
theorem dX10_meet_77 : decode cX10_meet 77 = .ok (.iaload, 1) := by decide +kernel
theorem dX10_meet_78 : decode cX10_meet 78 = .ok (.iconst 1, 1) := by decide +kernel
theorem dX10_meet_79 : decode cX10_meet 79 = .ok (.iload_n 1, 1) := by decide +kernel
theorem dX10_meet_80 : decode cX10_meet 80 = .ok (.ishl, 1) := by decide +kernel
theorem dX10_meet_81 : decode cX10_meet 81 = .ok (.ior, 1) := by decide +kernel
theorem dX10_meet_82 : decode cX10_meet 82 = .ok (.iastore, 1) := by decide +kernel
theorem dX10_meet_83 : decode cX10_meet 83 = .ok (.iconst 1, 1) := by decide +kernel
theorem dX10_meet_84 : decode cX10_meet 84 = .ok (.ireturn, 1) := by decide +kernel
theorem dX10_one_0 : decode cX10_one 0 = .ok (.aload_n 0, 1) := by decide +kernel
theorem dX10_one_1 : decode cX10_one 1 = .ok (.iload_n 1, 1) := by decide +kernel
theorem dX10_one_2 : decode cX10_one 2 = .ok (.invokevirtual 311, 3) := by decide +kernel
theorem dX10_one_5 : decode cX10_one 5 = .ok (.ifCond .ne 5, 3) := by decide +kernel
theorem dX10_one_8 : decode cX10_one 8 = .ok (.iconst (-1), 1) := by decide +kernel
theorem dX10_one_9 : decode cX10_one 9 = .ok (.ireturn, 1) := by decide +kernel
theorem dX10_one_10 : decode cX10_one 10 = .ok (.iload_n 2, 1) := by decide +kernel
theorem dX10_one_11 : decode cX10_one 11 = .ok (.tableswitch 84 0 2 #[25, 52, 77], 25) := by decide +kernel
theorem dX10_one_36 : decode cX10_one 36 = .ok (.aload_n 0, 1) := by decide +kernel
theorem dX10_one_37 : decode cX10_one 37 = .ok (.iload_n 1, 1) := by decide +kernel
theorem dX10_one_38 : decode cX10_one 38 = .ok (.invokevirtual 315, 3) := by decide +kernel
theorem dX10_one_41 : decode cX10_one 41 = .ok (.ifCond .eq 7, 3) := by decide +kernel
theorem dX10_one_44 : decode cX10_one 44 = .ok (.iconst 0, 1) := by decide +kernel
theorem dX10_one_45 : decode cX10_one 45 = .ok (.goto 17, 3) := by decide +kernel
theorem dX10_one_48 : decode cX10_one 48 = .ok (.aload_n 0, 1) := by decide +kernel
theorem dX10_one_49 : decode cX10_one 49 = .ok (.getfield 90, 3) := by decide +kernel
theorem dX10_one_52 : decode cX10_one 52 = .ok (.iload_n 1, 1) := by decide +kernel
theorem dX10_one_53 : decode cX10_one 53 = .ok (.iaload, 1) := by decide +kernel
theorem dX10_one_54 : decode cX10_one 54 = .ok (.ifCond .lt 7, 3) := by decide +kernel
theorem dX10_one_57 : decode cX10_one 57 = .ok (.iconst 1, 1) := by decide +kernel
theorem dX10_one_58 : decode cX10_one 58 = .ok (.goto 4, 3) := by decide +kernel
theorem dX10_one_61 : decode cX10_one 61 = .ok (.iconst 2, 1) := by decide +kernel
theorem dX10_one_62 : decode cX10_one 62 = .ok (.ireturn, 1) := by decide +kernel
theorem dX10_one_63 : decode cX10_one 63 = .ok (.aload_n 0, 1) := by decide +kernel
theorem dX10_one_64 : decode cX10_one 64 = .ok (.getfield 90, 3) := by decide +kernel
theorem dX10_one_67 : decode cX10_one 67 = .ok (.iload_n 1, 1) := by decide +kernel
theorem dX10_one_68 : decode cX10_one 68 = .ok (.iaload, 1) := by decide +kernel
theorem dX10_one_69 : decode cX10_one 69 = .ok (.ifCond .lt 12, 3) := by decide +kernel
theorem dX10_one_72 : decode cX10_one 72 = .ok (.aload_n 0, 1) := by decide +kernel
theorem dX10_one_73 : decode cX10_one 73 = .ok (.getfield 90, 3) := by decide +kernel
theorem dX10_one_76 : decode cX10_one 76 = .ok (.iload_n 1, 1) := by decide +kernel
theorem dX10_one_77 : decode cX10_one 77 = .ok (.iaload, 1) := by decide +kernel
theorem dX10_one_78 : decode cX10_one 78 = .ok (.goto 9, 3) := by decide +kernel
theorem dX10_one_81 : decode cX10_one 81 = .ok (.aload_n 0, 1) := by decide +kernel
theorem dX10_one_82 : decode cX10_one 82 = .ok (.getfield 93, 3) := by decide +kernel
theorem dX10_one_85 : decode cX10_one 85 = .ok (.iload_n 1, 1) := by decide +kernel
theorem dX10_one_86 : decode cX10_one 86 = .ok (.iaload, 1) := by decide +kernel
theorem dX10_one_87 : decode cX10_one 87 = .ok (.ireturn, 1) := by decide +kernel
theorem dX10_one_88 : decode cX10_one 88 = .ok (.aload_n 0, 1) := by decide +kernel
theorem dX10_one_89 : decode cX10_one 89 = .ok (.getfield 96, 3) := by decide +kernel
theorem dX10_one_92 : decode cX10_one 92 = .ok (.iload_n 1, 1) := by decide +kernel
theorem dX10_one_93 : decode cX10_one 93 = .ok (.iaload, 1) := by decide +kernel
theorem dX10_one_94 : decode cX10_one 94 = .ok (.ireturn, 1) := by decide +kernel
theorem dX10_one_95 : decode cX10_one 95 = .ok (.iconst (-1), 1) := by decide +kernel
theorem dX10_one_96 : decode cX10_one 96 = .ok (.ireturn, 1) := by decide +kernel
theorem dX10_thing_0 : decode cX10_thing 0 = .ok (.iload_n 1, 1) := by decide +kernel
theorem dX10_thing_1 : decode cX10_thing 1 = .ok (.ifCond .lt 11, 3) := by decide +kernel
theorem dX10_thing_4 : decode cX10_thing 4 = .ok (.iload_n 1, 1) := by decide +kernel
theorem dX10_thing_5 : decode cX10_thing 5 = .ok (.aload_n 0, 1) := by decide +kernel
theorem dX10_thing_6 : decode cX10_thing 6 = .ok (.getfield 391, 3) := by decide +kernel
theorem dX10_thing_9 : decode cX10_thing 9 = .ok (.if_icmp .lt 6, 3) := by decide +kernel
theorem dX10_thing_12 : decode cX10_thing 12 = .ok (.bipush (-4), 2) := by decide +kernel
theorem dX10_thing_14 : decode cX10_thing 14 = .ok (.ireturn, 1) := by decide +kernel
theorem dX10_thing_15 : decode cX10_thing 15 = .ok (.iload_n 2, 1) := by decide +kernel
theorem dX10_thing_16 : decode cX10_thing 16 = .ok (.tableswitch 71 0 4 #[36, 43, 50, 57, 64], 36) := by decide +kernel
theorem dX10_thing_52 : decode cX10_thing 52 = .ok (.aload_n 0, 1) := by decide +kernel
theorem dX10_thing_53 : decode cX10_thing 53 = .ok (.getfield 102, 3) := by decide +kernel
theorem dX10_thing_56 : decode cX10_thing 56 = .ok (.iload_n 1, 1) := by decide +kernel
theorem dX10_thing_57 : decode cX10_thing 57 = .ok (.iaload, 1) := by decide +kernel
theorem dX10_thing_58 : decode cX10_thing 58 = .ok (.ireturn, 1) := by decide +kernel
theorem dX10_thing_59 : decode cX10_thing 59 = .ok (.aload_n 0, 1) := by decide +kernel
theorem dX10_thing_60 : decode cX10_thing 60 = .ok (.getfield 105, 3) := by decide +kernel
theorem dX10_thing_63 : decode cX10_thing 63 = .ok (.iload_n 1, 1) := by decide +kernel
theorem dX10_thing_64 : decode cX10_thing 64 = .ok (.iaload, 1) := by decide +kernel
theorem dX10_thing_65 : decode cX10_thing 65 = .ok (.ireturn, 1) := by decide +kernel
theorem dX10_thing_66 : decode cX10_thing 66 = .ok (.aload_n 0, 1) := by decide +kernel
theorem dX10_thing_67 : decode cX10_thing 67 = .ok (.getfield 108, 3) := by decide +kernel
theorem dX10_thing_70 : decode cX10_thing 70 = .ok (.iload_n 1, 1) := by decide +kernel
theorem dX10_thing_71 : decode cX10_thing 71 = .ok (.iaload, 1) := by decide +kernel
theorem dX10_thing_72 : decode cX10_thing 72 = .ok (.ireturn, 1) := by decide +kernel
theorem dX10_thing_73 : decode cX10_thing 73 = .ok (.aload_n 0, 1) := by decide +kernel
theorem dX10_thing_74 : decode cX10_thing 74 = .ok (.getfield 111, 3) := by decide +kernel
theorem dX10_thing_77 : decode cX10_thing 77 = .ok (.iload_n 1, 1) := by decide +kernel
theorem dX10_thing_78 : decode cX10_thing 78 = .ok (.iaload, 1) := by decide +kernel
theorem dX10_thing_79 : decode cX10_thing 79 = .ok (.ireturn, 1) := by decide +kernel
theorem dX10_thing_80 : decode cX10_thing 80 = .ok (.aload_n 0, 1) := by decide +kernel
theorem dX10_thing_81 : decode cX10_thing 81 = .ok (.getfield 114, 3) := by decide +kernel
theorem dX10_thing_84 : decode cX10_thing 84 = .ok (.iload_n 1, 1) := by decide +kernel
theorem dX10_thing_85 : decode cX10_thing 85 = .ok (.iaload, 1) := by decide +kernel
theorem dX10_thing_86 : decode cX10_thing 86 = .ok (.ireturn, 1) := by decide +kernel
theorem dX10_thing_87 : decode cX10_thing 87 = .ok (.bipush (-4), 2) := by decide +kernel
theorem dX10_thing_89 : decode cX10_thing 89 = .ok (.ireturn, 1) := by decide +kernel
theorem dX10_gap_0 : decode cX10_gap 0 = .ok (.aload_n 0, 1) := by decide +kernel
theorem dX10_gap_1 : decode cX10_gap 1 = .ok (.iconst 0, 1) := by decide +kernel
theorem dX10_gap_2 : decode cX10_gap 2 = .ok (.putfield 308, 3) := by decide +kernel
theorem dX10_gap_5 : decode cX10_gap 5 = .ok (.aload_n 0, 1) := by decide +kernel
theorem dX10_gap_6 : decode cX10_gap 6 = .ok (.getfield 151, 3) := by decide +kernel
theorem dX10_gap_9 : decode cX10_gap 9 = .ok (.ifCond .lt 32, 3) := by decide +kernel
theorem dX10_gap_12 : decode cX10_gap 12 = .ok (.aload_n 0, 1) := by decide +kernel
theorem dX10_gap_13 : decode cX10_gap 13 = .ok (.getfield 154, 3) := by decide +kernel
theorem dX10_gap_16 : decode cX10_gap 16 = .ok (.ifCond .lt 25, 3) := by decide +kernel
theorem dX10_gap_19 : decode cX10_gap 19 = .ok (.aload_n 0, 1) := by decide +kernel
theorem dX10_gap_20 : decode cX10_gap 20 = .ok (.aload_n 0, 1) := by decide +kernel
theorem dX10_gap_21 : decode cX10_gap 21 = .ok (.getfield 151, 3) := by decide +kernel
theorem dX10_gap_24 : decode cX10_gap 24 = .ok (.invokevirtual 315, 3) := by decide +kernel
theorem dX10_gap_27 : decode cX10_gap 27 = .ok (.ifCond .eq 14, 3) := by decide +kernel
theorem dX10_gap_30 : decode cX10_gap 30 = .ok (.aload_n 0, 1) := by decide +kernel
theorem dX10_gap_31 : decode cX10_gap 31 = .ok (.aload_n 0, 1) := by decide +kernel
theorem dX10_gap_32 : decode cX10_gap 32 = .ok (.getfield 154, 3) := by decide +kernel
theorem dX10_gap_35 : decode cX10_gap 35 = .ok (.invokevirtual 315, 3) := by decide +kernel
theorem dX10_gap_38 : decode cX10_gap 38 = .ok (.ifCond .ne 7, 3) := by decide +kernel
theorem dX10_gap_41 : decode cX10_gap 41 = .ok (.iconst (-1), 1) := by decide +kernel
theorem dX10_gap_42 : decode cX10_gap 42 = .ok (.goto 8, 3) := by decide +kernel
theorem dX10_gap_45 : decode cX10_gap 45 = .ok (.aload_n 0, 1) := by decide +kernel
theorem dX10_gap_46 : decode cX10_gap 46 = .ok (.iconst 2, 1) := by decide +kernel
theorem dX10_gap_47 : decode cX10_gap 47 = .ok (.invokevirtual 337, 3) := by decide +kernel
theorem dX10_gap_50 : decode cX10_gap 50 = .ok (.ireturn, 1) := by decide +kernel
theorem dX10_entry_0 : decode cX10_entry 0 = .ok (.iload_n 3, 1) := by decide +kernel
theorem dX10_entry_1 : decode cX10_entry 1 = .ok (.ifCond .lt 18, 3) := by decide +kernel
theorem dX10_entry_4 : decode cX10_entry 4 = .ok (.iload_n 3, 1) := by decide +kernel
theorem dX10_entry_5 : decode cX10_entry 5 = .ok (.bipush 99, 2) := by decide +kernel
theorem dX10_entry_7 : decode cX10_entry 7 = .ok (.if_icmp .gt 12, 3) := by decide +kernel
theorem dX10_entry_10 : decode cX10_entry 10 = .ok (.aload_n 0, 1) := by decide +kernel
theorem dX10_entry_11 : decode cX10_entry 11 = .ok (.getfield 305, 3) := by decide +kernel
theorem dX10_entry_14 : decode cX10_entry 14 = .ok (.bipush 40, 2) := by decide +kernel
theorem dX10_entry_16 : decode cX10_entry 16 = .ok (.if_icmp .ne 5, 3) := by decide +kernel
theorem dX10_entry_19 : decode cX10_entry 19 = .ok (.iconst (-1), 1) := by decide +kernel
theorem dX10_entry_20 : decode cX10_entry 20 = .ok (.ireturn, 1) := by decide +kernel
theorem dX10_entry_21 : decode cX10_entry 21 = .ok (.aload_n 0, 1) := by decide +kernel
theorem dX10_entry_22 : decode cX10_entry 22 = .ok (.getfield 120, 3) := by decide +kernel
theorem dX10_entry_25 : decode cX10_entry 25 = .ok (.aload_n 0, 1) := by decide +kernel
theorem dX10_entry_26 : decode cX10_entry 26 = .ok (.getfield 305, 3) := by decide +kernel
theorem dX10_entry_29 : decode cX10_entry 29 = .ok (.iload_n 1, 1) := by decide +kernel
theorem dX10_entry_30 : decode cX10_entry 30 = .ok (.iastore, 1) := by decide +kernel
theorem dX10_entry_31 : decode cX10_entry 31 = .ok (.aload_n 0, 1) := by decide +kernel
theorem dX10_entry_32 : decode cX10_entry 32 = .ok (.getfield 123, 3) := by decide +kernel
theorem dX10_entry_35 : decode cX10_entry 35 = .ok (.aload_n 0, 1) := by decide +kernel
theorem dX10_entry_36 : decode cX10_entry 36 = .ok (.getfield 305, 3) := by decide +kernel
theorem dX10_entry_39 : decode cX10_entry 39 = .ok (.iload_n 2, 1) := by decide +kernel
theorem dX10_entry_40 : decode cX10_entry 40 = .ok (.iastore, 1) := by decide +kernel
theorem dX10_entry_41 : decode cX10_entry 41 = .ok (.aload_n 0, 1) := by decide +kernel
theorem dX10_entry_42 : decode cX10_entry 42 = .ok (.getfield 126, 3) := by decide +kernel
theorem dX10_entry_45 : decode cX10_entry 45 = .ok (.aload_n 0, 1) := by decide +kernel
theorem dX10_entry_46 : decode cX10_entry 46 = .ok (.getfield 305, 3) := by decide +kernel
theorem dX10_entry_49 : decode cX10_entry 49 = .ok (.iload_n 3, 1) := by decide +kernel
theorem dX10_entry_50 : decode cX10_entry 50 = .ok (.iastore, 1) := by decide +kernel
theorem dX10_entry_51 : decode cX10_entry 51 = .ok (.aload_n 0, 1) := by decide +kernel
theorem dX10_entry_52 : decode cX10_entry 52 = .ok (.getfield 129, 3) := by decide +kernel
theorem dX10_entry_55 : decode cX10_entry 55 = .ok (.aload_n 0, 1) := by decide +kernel
theorem dX10_entry_56 : decode cX10_entry 56 = .ok (.getfield 305, 3) := by decide +kernel
theorem dX10_entry_59 : decode cX10_entry 59 = .ok (.aload_n 0, 1) := by decide +kernel
theorem dX10_entry_60 : decode cX10_entry 60 = .ok (.getfield 421, 3) := by decide +kernel
theorem dX10_entry_63 : decode cX10_entry 63 = .ok (.iastore, 1) := by decide +kernel
theorem dX10_entry_64 : decode cX10_entry 64 = .ok (.aload_n 0, 1) := by decide +kernel
theorem dX10_entry_65 : decode cX10_entry 65 = .ok (.getfield 132, 3) := by decide +kernel
theorem dX10_entry_68 : decode cX10_entry 68 = .ok (.aload_n 0, 1) := by decide +kernel
theorem dX10_entry_69 : decode cX10_entry 69 = .ok (.getfield 305, 3) := by decide +kernel
theorem dX10_entry_72 : decode cX10_entry 72 = .ok (.iconst (-1), 1) := by decide +kernel
theorem dX10_entry_73 : decode cX10_entry 73 = .ok (.iastore, 1) := by decide +kernel
theorem dX10_entry_74 : decode cX10_entry 74 = .ok (.aload_n 0, 1) := by decide +kernel
theorem dX10_entry_75 : decode cX10_entry 75 = .ok (.dup, 1) := by decide +kernel
theorem dX10_entry_76 : decode cX10_entry 76 = .ok (.getfield 305, 3) := by decide +kernel
theorem dX10_entry_79 : decode cX10_entry 79 = .ok (.iconst 1, 1) := by decide +kernel
theorem dX10_entry_80 : decode cX10_entry 80 = .ok (.iadd, 1) := by decide +kernel
theorem dX10_entry_81 : decode cX10_entry 81 = .ok (.putfield 305, 3) := by decide +kernel
theorem dX10_entry_84 : decode cX10_entry 84 = .ok (.aload_n 0, 1) := by decide +kernel
theorem dX10_entry_85 : decode cX10_entry 85 = .ok (.getfield 305, 3) := by decide +kernel
theorem dX10_entry_88 : decode cX10_entry 88 = .ok (.iconst 1, 1) := by decide +kernel
theorem dX10_entry_89 : decode cX10_entry 89 = .ok (.isub, 1) := by decide +kernel
theorem dX10_entry_90 : decode cX10_entry 90 = .ok (.ireturn, 1) := by decide +kernel
theorem dX10_late_0 : decode cX10_late 0 = .ok (.iload_n 1, 1) := by decide +kernel
theorem dX10_late_1 : decode cX10_late 1 = .ok (.ifCond .lt 13, 3) := by decide +kernel
theorem dX10_late_4 : decode cX10_late 4 = .ok (.iload_n 1, 1) := by decide +kernel
theorem dX10_late_5 : decode cX10_late 5 = .ok (.iconst 1, 1) := by decide +kernel
theorem dX10_late_6 : decode cX10_late 6 = .ok (.aload_n 0, 1) := by decide +kernel
theorem dX10_late_7 : decode cX10_late 7 = .ok (.getfield 289, 3) := by decide +kernel
theorem dX10_late_10 : decode cX10_late 10 = .ok (.ishl, 1) := by decide +kernel
theorem dX10_late_11 : decode cX10_late 11 = .ok (.if_icmp .lt 7, 3) := by decide +kernel
theorem dX10_late_14 : decode cX10_late 14 = .ok (.iconst (-1), 1) := by decide +kernel
theorem dX10_late_15 : decode cX10_late 15 = .ok (.goto 10, 3) := by decide +kernel
theorem dX10_late_18 : decode cX10_late 18 = .ok (.aload_n 0, 1) := by decide +kernel
theorem dX10_late_19 : decode cX10_late 19 = .ok (.iconst 0, 1) := by decide +kernel
theorem dX10_late_20 : decode cX10_late 20 = .ok (.iload_n 1, 1) := by decide +kernel
theorem dX10_late_21 : decode cX10_late 21 = .ok (.iload_n 2, 1) := by decide +kernel
theorem dX10_late_22 : decode cX10_late 22 = .ok (.invokevirtual 424, 3) := by decide +kernel
theorem dX10_late_25 : decode cX10_late 25 = .ok (.ireturn, 1) := by decide +kernel
theorem dX10_taken_0 : decode cX10_taken 0 = .ok (.aload_n 0, 1) := by decide +kernel
theorem dX10_taken_1 : decode cX10_taken 1 = .ok (.iload_n 1, 1) := by decide +kernel
theorem dX10_taken_2 : decode cX10_taken 2 = .ok (.invokevirtual 382, 3) := by decide +kernel
theorem dX10_taken_5 : decode cX10_taken 5 = .ok (.ifCond .eq 13, 3) := by decide +kernel
theorem dX10_taken_8 : decode cX10_taken 8 = .ok (.aload_n 0, 1) := by decide +kernel
theorem dX10_taken_9 : decode cX10_taken 9 = .ok (.iconst 1, 1) := by decide +kernel
theorem dX10_taken_10 : decode cX10_taken 10 = .ok (.iload_n 1, 1) := by decide +kernel
theorem dX10_taken_11 : decode cX10_taken 11 = .ok (.iload_n 2, 1) := by decide +kernel
theorem dX10_taken_12 : decode cX10_taken 12 = .ok (.invokevirtual 424, 3) := by decide +kernel
theorem dX10_taken_15 : decode cX10_taken 15 = .ok (.goto 4, 3) := by decide +kernel
theorem dX10_taken_18 : decode cX10_taken 18 = .ok (.iconst (-1), 1) := by decide +kernel
theorem dX10_taken_19 : decode cX10_taken 19 = .ok (.ireturn, 1) := by decide +kernel
theorem dX10_untell_0 : decode cX10_untell 0 = .ok (.iload_n 1, 1) := by decide +kernel
theorem dX10_untell_1 : decode cX10_untell 1 = .ok (.ifCond .lt 20, 3) := by decide +kernel
theorem dX10_untell_4 : decode cX10_untell 4 = .ok (.iload_n 1, 1) := by decide +kernel
theorem dX10_untell_5 : decode cX10_untell 5 = .ok (.aload_n 0, 1) := by decide +kernel
theorem dX10_untell_6 : decode cX10_untell 6 = .ok (.getfield 305, 3) := by decide +kernel
theorem dX10_untell_9 : decode cX10_untell 9 = .ok (.if_icmp .ge 12, 3) := by decide +kernel
theorem dX10_untell_12 : decode cX10_untell 12 = .ok (.aload_n 0, 1) := by decide +kernel
theorem dX10_untell_13 : decode cX10_untell 13 = .ok (.getfield 132, 3) := by decide +kernel
theorem dX10_untell_16 : decode cX10_untell 16 = .ok (.iload_n 1, 1) := by decide +kernel
theorem dX10_untell_17 : decode cX10_untell 17 = .ok (.iaload, 1) := by decide +kernel
theorem dX10_untell_18 : decode cX10_untell 18 = .ok (.ifCond .lt 5, 3) := by decide +kernel
theorem dX10_untell_21 : decode cX10_untell 21 = .ok (.iconst 0, 1) := by decide +kernel
theorem dX10_untell_22 : decode cX10_untell 22 = .ok (.ireturn, 1) := by decide +kernel
theorem dX10_untell_23 : decode cX10_untell 23 = .ok (.aload_n 0, 1) := by decide +kernel
theorem dX10_untell_24 : decode cX10_untell 24 = .ok (.getfield 132, 3) := by decide +kernel
theorem dX10_untell_27 : decode cX10_untell 27 = .ok (.iload_n 1, 1) := by decide +kernel
theorem dX10_untell_28 : decode cX10_untell 28 = .ok (.aload_n 0, 1) := by decide +kernel
theorem dX10_untell_29 : decode cX10_untell 29 = .ok (.getfield 421, 3) := by decide +kernel
theorem dX10_untell_32 : decode cX10_untell 32 = .ok (.iastore, 1) := by decide +kernel
theorem dX10_untell_33 : decode cX10_untell 33 = .ok (.iconst 1, 1) := by decide +kernel
theorem dX10_untell_34 : decode cX10_untell 34 = .ok (.ireturn, 1) := by decide +kernel
theorem dX10_later_0 : decode cX10_later 0 = .ok (.iload_n 1, 1) := by decide +kernel
theorem dX10_later_1 : decode cX10_later 1 = .ok (.ifCond .lt 22, 3) := by decide +kernel
theorem dX10_later_4 : decode cX10_later 4 = .ok (.iload_n 1, 1) := by decide +kernel
theorem dX10_later_5 : decode cX10_later 5 = .ok (.sipush 1000, 3) := by decide +kernel
theorem dX10_later_8 : decode cX10_later 8 = .ok (.if_icmp .gt 15, 3) := by decide +kernel
theorem dX10_later_11 : decode cX10_later 11 = .ok (.aload_n 0, 1) := by decide +kernel
theorem dX10_later_12 : decode cX10_later 12 = .ok (.getfield 421, 3) := by decide +kernel
theorem dX10_later_15 : decode cX10_later 15 = .ok (.iload_n 1, 1) := by decide +kernel
theorem dX10_later_16 : decode cX10_later 16 = .ok (.iadd, 1) := by decide +kernel
theorem dX10_later_17 : decode cX10_later 17 = .ok (.ldc_w 427, 3) := by decide +kernel
theorem dX10_later_20 : decode cX10_later 20 = .ok (.if_icmp .le 5, 3) := by decide +kernel
theorem dX10_later_23 : decode cX10_later 23 = .ok (.iconst (-1), 1) := by decide +kernel
theorem dX10_later_24 : decode cX10_later 24 = .ok (.ireturn, 1) := by decide +kernel
theorem dX10_later_25 : decode cX10_later 25 = .ok (.aload_n 0, 1) := by decide +kernel
theorem dX10_later_26 : decode cX10_later 26 = .ok (.dup, 1) := by decide +kernel
theorem dX10_later_27 : decode cX10_later 27 = .ok (.getfield 421, 3) := by decide +kernel
theorem dX10_later_30 : decode cX10_later 30 = .ok (.iload_n 1, 1) := by decide +kernel
theorem dX10_later_31 : decode cX10_later 31 = .ok (.iadd, 1) := by decide +kernel
theorem dX10_later_32 : decode cX10_later 32 = .ok (.putfield 421, 3) := by decide +kernel
theorem dX10_later_35 : decode cX10_later 35 = .ok (.aload_n 0, 1) := by decide +kernel
theorem dX10_later_36 : decode cX10_later 36 = .ok (.getfield 421, 3) := by decide +kernel
theorem dX10_later_39 : decode cX10_later 39 = .ok (.ireturn, 1) := by decide +kernel
theorem dX10_counts_0 : decode cX10_counts 0 = .ok (.aload_n 0, 1) := by decide +kernel
theorem dX10_counts_1 : decode cX10_counts 1 = .ok (.getfield 120, 3) := by decide +kernel
theorem dX10_counts_4 : decode cX10_counts 4 = .ok (.iload_n 1, 1) := by decide +kernel
theorem dX10_counts_5 : decode cX10_counts 5 = .ok (.iaload, 1) := by decide +kernel
theorem dX10_counts_6 : decode cX10_counts 6 = .ok (.iload_n 2, 1) := by decide +kernel
theorem dX10_counts_7 : decode cX10_counts 7 = .ok (.if_icmp .ne 36, 3) := by decide +kernel
theorem dX10_counts_10 : decode cX10_counts 10 = .ok (.aload_n 0, 1) := by decide +kernel
theorem dX10_counts_11 : decode cX10_counts 11 = .ok (.getfield 129, 3) := by decide +kernel
theorem dX10_counts_14 : decode cX10_counts 14 = .ok (.iload_n 1, 1) := by decide +kernel
theorem dX10_counts_15 : decode cX10_counts 15 = .ok (.iaload, 1) := by decide +kernel
theorem dX10_counts_16 : decode cX10_counts 16 = .ok (.iload_n 3, 1) := by decide +kernel
theorem dX10_counts_17 : decode cX10_counts 17 = .ok (.if_icmp .gt 26, 3) := by decide +kernel
theorem dX10_counts_20 : decode cX10_counts 20 = .ok (.aload_n 0, 1) := by decide +kernel
theorem dX10_counts_21 : decode cX10_counts 21 = .ok (.getfield 132, 3) := by decide +kernel
theorem dX10_counts_24 : decode cX10_counts 24 = .ok (.iload_n 1, 1) := by decide +kernel
theorem dX10_counts_25 : decode cX10_counts 25 = .ok (.iaload, 1) := by decide +kernel
theorem dX10_counts_26 : decode cX10_counts 26 = .ok (.ifCond .lt 13, 3) := by decide +kernel
theorem dX10_counts_29 : decode cX10_counts 29 = .ok (.aload_n 0, 1) := by decide +kernel
theorem dX10_counts_30 : decode cX10_counts 30 = .ok (.getfield 132, 3) := by decide +kernel
theorem dX10_counts_33 : decode cX10_counts 33 = .ok (.iload_n 1, 1) := by decide +kernel
theorem dX10_counts_34 : decode cX10_counts 34 = .ok (.iaload, 1) := by decide +kernel
theorem dX10_counts_35 : decode cX10_counts 35 = .ok (.iload_n 3, 1) := by decide +kernel
theorem dX10_counts_36 : decode cX10_counts 36 = .ok (.if_icmp .le 7, 3) := by decide +kernel
theorem dX10_counts_39 : decode cX10_counts 39 = .ok (.iconst 1, 1) := by decide +kernel
theorem dX10_counts_40 : decode cX10_counts 40 = .ok (.goto 4, 3) := by decide +kernel
theorem dX10_counts_43 : decode cX10_counts 43 = .ok (.iconst 0, 1) := by decide +kernel
theorem dX10_counts_44 : decode cX10_counts 44 = .ok (.ireturn, 1) := by decide +kernel
theorem dX10_canBeSpies_0 : decode cX10_canBeSpies 0 = .ok (.iconst 1, 1) := by decide +kernel
theorem dX10_canBeSpies_1 : decode cX10_canBeSpies 1 = .ok (.istore_n 3, 1) := by decide +kernel
theorem dX10_canBeSpies_2 : decode cX10_canBeSpies 2 = .ok (.iconst 0, 1) := by decide +kernel
theorem dX10_canBeSpies_3 : decode cX10_canBeSpies 3 = .ok (.istore 4, 2) := by decide +kernel
theorem dX10_canBeSpies_5 : decode cX10_canBeSpies 5 = .ok (.iload 4, 2) := by decide +kernel
theorem dX10_canBeSpies_7 : decode cX10_canBeSpies 7 = .ok (.aload_n 0, 1) := by decide +kernel
theorem dX10_canBeSpies_8 : decode cX10_canBeSpies 8 = .ok (.getfield 305, 3) := by decide +kernel
theorem dX10_canBeSpies_11 : decode cX10_canBeSpies 11 = .ok (.if_icmp .ge 66, 3) := by decide +kernel
theorem dX10_canBeSpies_14 : decode cX10_canBeSpies 14 = .ok (.aload_n 0, 1) := by decide +kernel
theorem dX10_canBeSpies_15 : decode cX10_canBeSpies 15 = .ok (.getfield 126, 3) := by decide +kernel
theorem dX10_canBeSpies_18 : decode cX10_canBeSpies 18 = .ok (.iload 4, 2) := by decide +kernel
theorem dX10_canBeSpies_20 : decode cX10_canBeSpies 20 = .ok (.iaload, 1) := by decide +kernel
theorem dX10_canBeSpies_21 : decode cX10_canBeSpies 21 = .ok (.iload_n 1, 1) := by decide +kernel
theorem dX10_canBeSpies_22 : decode cX10_canBeSpies 22 = .ok (.aload_n 0, 1) := by decide +kernel
theorem dX10_canBeSpies_23 : decode cX10_canBeSpies 23 = .ok (.getfield 123, 3) := by decide +kernel
theorem dX10_canBeSpies_26 : decode cX10_canBeSpies 26 = .ok (.iload 4, 2) := by decide +kernel
theorem dX10_canBeSpies_28 : decode cX10_canBeSpies 28 = .ok (.iaload, 1) := by decide +kernel
theorem dX10_canBeSpies_29 : decode cX10_canBeSpies 29 = .ok (.iand, 1) := by decide +kernel
theorem dX10_canBeSpies_30 : decode cX10_canBeSpies 30 = .ok (.invokestatic 367, 3) := by decide +kernel
theorem dX10_canBeSpies_33 : decode cX10_canBeSpies 33 = .ok (.isub, 1) := by decide +kernel
theorem dX10_canBeSpies_34 : decode cX10_canBeSpies 34 = .ok (.istore 5, 2) := by decide +kernel
theorem dX10_canBeSpies_36 : decode cX10_canBeSpies 36 = .ok (.iload_n 3, 1) := by decide +kernel
theorem dX10_canBeSpies_37 : decode cX10_canBeSpies 37 = .ok (.ifCond .eq 32, 3) := by decide +kernel
theorem dX10_canBeSpies_40 : decode cX10_canBeSpies 40 = .ok (.aload_n 0, 1) := by decide +kernel
theorem dX10_canBeSpies_41 : decode cX10_canBeSpies 41 = .ok (.iload 4, 2) := by decide +kernel
theorem dX10_canBeSpies_43 : decode cX10_canBeSpies 43 = .ok (.iconst 0, 1) := by decide +kernel
theorem dX10_canBeSpies_44 : decode cX10_canBeSpies 44 = .ok (.iload_n 2, 1) := by decide +kernel
theorem dX10_canBeSpies_45 : decode cX10_canBeSpies 45 = .ok (.invokevirtual 428, 3) := by decide +kernel
theorem dX10_canBeSpies_48 : decode cX10_canBeSpies 48 = .ok (.ifCond .eq 17, 3) := by decide +kernel
theorem dX10_canBeSpies_51 : decode cX10_canBeSpies 51 = .ok (.iload 5, 2) := by decide +kernel
theorem dX10_canBeSpies_53 : decode cX10_canBeSpies 53 = .ok (.ifCond .lt 16, 3) := by decide +kernel
theorem dX10_canBeSpies_56 : decode cX10_canBeSpies 56 = .ok (.iload 5, 2) := by decide +kernel
theorem dX10_canBeSpies_58 : decode cX10_canBeSpies 58 = .ok (.aload_n 0, 1) := by decide +kernel
theorem dX10_canBeSpies_59 : decode cX10_canBeSpies 59 = .ok (.getfield 295, 3) := by decide +kernel
theorem dX10_canBeSpies_62 : decode cX10_canBeSpies 62 = .ok (.if_icmp .gt 7, 3) := by decide +kernel
theorem dX10_canBeSpies_65 : decode cX10_canBeSpies 65 = .ok (.iconst 1, 1) := by decide +kernel
theorem dX10_canBeSpies_66 : decode cX10_canBeSpies 66 = .ok (.goto 4, 3) := by decide +kernel
theorem dX10_canBeSpies_69 : decode cX10_canBeSpies 69 = .ok (.iconst 0, 1) := by decide +kernel
theorem dX10_canBeSpies_70 : decode cX10_canBeSpies 70 = .ok (.istore_n 3, 1) := by decide +kernel
theorem dX10_canBeSpies_71 : decode cX10_canBeSpies 71 = .ok (.iinc 4 1, 3) := by decide +kernel
theorem dX10_canBeSpies_74 : decode cX10_canBeSpies 74 = .ok (.goto (-69), 3) := by decide +kernel
theorem dX10_canBeSpies_77 : decode cX10_canBeSpies 77 = .ok (.iload_n 3, 1) := by decide +kernel
theorem dX10_canBeSpies_78 : decode cX10_canBeSpies 78 = .ok (.ireturn, 1) := by decide +kernel
theorem dX10_spies_0 : decode cX10_spies 0 = .ok (.iload_n 1, 1) := by decide +kernel
theorem dX10_spies_1 : decode cX10_spies 1 = .ok (.ifCond .lt 8, 3) := by decide +kernel
theorem dX10_spies_4 : decode cX10_spies 4 = .ok (.iload_n 1, 1) := by decide +kernel
theorem dX10_spies_5 : decode cX10_spies 5 = .ok (.iconst 2, 1) := by decide +kernel
theorem dX10_spies_6 : decode cX10_spies 6 = .ok (.if_icmp .le 5, 3) := by decide +kernel
theorem dX10_spies_9 : decode cX10_spies 9 = .ok (.iconst (-1), 1) := by decide +kernel
theorem dX10_spies_10 : decode cX10_spies 10 = .ok (.ireturn, 1) := by decide +kernel
theorem dX10_spies_11 : decode cX10_spies 11 = .ok (.iconst 0, 1) := by decide +kernel
theorem dX10_spies_12 : decode cX10_spies 12 = .ok (.istore_n 3, 1) := by decide +kernel
theorem dX10_spies_13 : decode cX10_spies 13 = .ok (.iconst 0, 1) := by decide +kernel
theorem dX10_spies_14 : decode cX10_spies 14 = .ok (.istore 4, 2) := by decide +kernel
theorem dX10_spies_16 : decode cX10_spies 16 = .ok (.iload 4, 2) := by decide +kernel
theorem dX10_spies_18 : decode cX10_spies 18 = .ok (.aload_n 0, 1) := by decide +kernel
theorem dX10_spies_19 : decode cX10_spies 19 = .ok (.getfield 289, 3) := by decide +kernel
theorem dX10_spies_22 : decode cX10_spies 22 = .ok (.if_icmp .ge 31, 3) := by decide +kernel
theorem dX10_spies_25 : decode cX10_spies 25 = .ok (.iload_n 3, 1) := by decide +kernel
theorem dX10_spies_26 : decode cX10_spies 26 = .ok (.aload_n 0, 1) := by decide +kernel
theorem dX10_spies_27 : decode cX10_spies 27 = .ok (.getfield 39, 3) := by decide +kernel
theorem dX10_spies_30 : decode cX10_spies 30 = .ok (.iload 4, 2) := by decide +kernel
theorem dX10_spies_32 : decode cX10_spies 32 = .ok (.iaload, 1) := by decide +kernel
theorem dX10_spies_33 : decode cX10_spies 33 = .ok (.iconst 3, 1) := by decide +kernel
theorem dX10_spies_34 : decode cX10_spies 34 = .ok (.if_icmp .ne 7, 3) := by decide +kernel
theorem dX10_spies_37 : decode cX10_spies 37 = .ok (.iconst 0, 1) := by decide +kernel
theorem dX10_spies_38 : decode cX10_spies 38 = .ok (.goto 7, 3) := by decide +kernel
theorem dX10_spies_41 : decode cX10_spies 41 = .ok (.iconst 1, 1) := by decide +kernel
theorem dX10_spies_42 : decode cX10_spies 42 = .ok (.iload 4, 2) := by decide +kernel
theorem dX10_spies_44 : decode cX10_spies 44 = .ok (.ishl, 1) := by decide +kernel
theorem dX10_spies_45 : decode cX10_spies 45 = .ok (.ior, 1) := by decide +kernel
theorem dX10_spies_46 : decode cX10_spies 46 = .ok (.istore_n 3, 1) := by decide +kernel
theorem dX10_spies_47 : decode cX10_spies 47 = .ok (.iinc 4 1, 3) := by decide +kernel
theorem dX10_spies_50 : decode cX10_spies 50 = .ok (.goto (-34), 3) := by decide +kernel
theorem dX10_spies_53 : decode cX10_spies 53 = .ok (.iconst 0, 1) := by decide +kernel
theorem dX10_spies_54 : decode cX10_spies 54 = .ok (.istore 4, 2) := by decide +kernel
theorem dX10_spies_56 : decode cX10_spies 56 = .ok (.iload_n 3, 1) := by decide +kernel
theorem dX10_spies_57 : decode cX10_spies 57 = .ok (.istore 5, 2) := by decide +kernel
theorem dX10_spies_59 : decode cX10_spies 59 = .ok (.iconst 0, 1) := by decide +kernel
theorem dX10_spies_60 : decode cX10_spies 60 = .ok (.istore 6, 2) := by decide +kernel
theorem dX10_spies_62 : decode cX10_spies 62 = .ok (.iconst 0, 1) := by decide +kernel
theorem dX10_spies_63 : decode cX10_spies 63 = .ok (.istore 7, 2) := by decide +kernel
theorem dX10_spies_65 : decode cX10_spies 65 = .ok (.iload 7, 2) := by decide +kernel
theorem dX10_spies_67 : decode cX10_spies 67 = .ok (.iload_n 3, 1) := by decide +kernel
theorem dX10_spies_68 : decode cX10_spies 68 = .ok (.if_icmp .gt 57, 3) := by decide +kernel
theorem dX10_spies_71 : decode cX10_spies 71 = .ok (.iload 7, 2) := by decide +kernel
theorem dX10_spies_73 : decode cX10_spies 73 = .ok (.iload_n 3, 1) := by decide +kernel
theorem dX10_spies_74 : decode cX10_spies 74 = .ok (.iconst (-1), 1) := by decide +kernel
theorem dX10_spies_75 : decode cX10_spies 75 = .ok (.ixor, 1) := by decide +kernel
theorem dX10_spies_76 : decode cX10_spies 76 = .ok (.iand, 1) := by decide +kernel
theorem dX10_spies_77 : decode cX10_spies 77 = .ok (.ifCond .ne 42, 3) := by decide +kernel
theorem dX10_spies_80 : decode cX10_spies 80 = .ok (.iload 7, 2) := by decide +kernel
theorem dX10_spies_82 : decode cX10_spies 82 = .ok (.invokestatic 367, 3) := by decide +kernel
theorem dX10_spies_85 : decode cX10_spies 85 = .ok (.iconst 3, 1) := by decide +kernel
theorem dX10_spies_86 : decode cX10_spies 86 = .ok (.if_icmp .gt 33, 3) := by decide +kernel
theorem dX10_spies_89 : decode cX10_spies 89 = .ok (.aload_n 0, 1) := by decide +kernel
theorem dX10_spies_90 : decode cX10_spies 90 = .ok (.iload 7, 2) := by decide +kernel
theorem dX10_spies_92 : decode cX10_spies 92 = .ok (.iload_n 2, 1) := by decide +kernel
theorem dX10_spies_93 : decode cX10_spies 93 = .ok (.invokevirtual 431, 3) := by decide +kernel
theorem dX10_spies_96 : decode cX10_spies 96 = .ok (.ifCond .ne 6, 3) := by decide +kernel
theorem dX10_spies_99 : decode cX10_spies 99 = .ok (.goto 20, 3) := by decide +kernel
theorem dX10_spies_102 : decode cX10_spies 102 = .ok (.iinc 4 1, 3) := by decide +kernel
theorem dX10_spies_105 : decode cX10_spies 105 = .ok (.iload 5, 2) := by decide +kernel
theorem dX10_spies_107 : decode cX10_spies 107 = .ok (.iload 7, 2) := by decide +kernel
theorem dX10_spies_109 : decode cX10_spies 109 = .ok (.iand, 1) := by decide +kernel
theorem dX10_spies_110 : decode cX10_spies 110 = .ok (.istore 5, 2) := by decide +kernel
theorem dX10_spies_112 : decode cX10_spies 112 = .ok (.iload 6, 2) := by decide +kernel
theorem dX10_spies_114 : decode cX10_spies 114 = .ok (.iload 7, 2) := by decide +kernel
theorem dX10_spies_116 : decode cX10_spies 116 = .ok (.ior, 1) := by decide +kernel
theorem dX10_spies_117 : decode cX10_spies 117 = .ok (.istore 6, 2) := by decide +kernel
theorem dX10_spies_119 : decode cX10_spies 119 = .ok (.iinc 7 1, 3) := by decide +kernel
theorem dX10_spies_122 : decode cX10_spies 122 = .ok (.goto (-57), 3) := by decide +kernel
theorem dX10_spies_125 : decode cX10_spies 125 = .ok (.iload_n 1, 1) := by decide +kernel
theorem dX10_spies_126 : decode cX10_spies 126 = .ok (.ifCond .ne 8, 3) := by decide +kernel
theorem dX10_spies_129 : decode cX10_spies 129 = .ok (.iload 4, 2) := by decide +kernel
theorem dX10_spies_131 : decode cX10_spies 131 = .ok (.goto 24, 3) := by decide +kernel
theorem dX10_spies_134 : decode cX10_spies 134 = .ok (.iload 4, 2) := by decide +kernel
theorem dX10_spies_136 : decode cX10_spies 136 = .ok (.ifCond .ne 7, 3) := by decide +kernel
theorem dX10_spies_139 : decode cX10_spies 139 = .ok (.iconst 0, 1) := by decide +kernel
theorem dX10_spies_140 : decode cX10_spies 140 = .ok (.goto 15, 3) := by decide +kernel
theorem dX10_spies_143 : decode cX10_spies 143 = .ok (.iload_n 1, 1) := by decide +kernel
theorem dX10_spies_144 : decode cX10_spies 144 = .ok (.iconst 1, 1) := by decide +kernel
theorem dX10_spies_145 : decode cX10_spies 145 = .ok (.if_icmp .ne 8, 3) := by decide +kernel
theorem dX10_spies_148 : decode cX10_spies 148 = .ok (.iload 5, 2) := by decide +kernel
theorem dX10_spies_150 : decode cX10_spies 150 = .ok (.goto 5, 3) := by decide +kernel
theorem dX10_spies_153 : decode cX10_spies 153 = .ok (.iload 6, 2) := by decide +kernel
theorem dX10_spies_155 : decode cX10_spies 155 = .ok (.ireturn, 1) := by decide +kernel
theorem dX10_isOrigin_0 : decode cX10_isOrigin 0 = .ok (.iconst 1, 1) := by decide +kernel
theorem dX10_isOrigin_1 : decode cX10_isOrigin 1 = .ok (.istore_n 3, 1) := by decide +kernel
theorem dX10_isOrigin_2 : decode cX10_isOrigin 2 = .ok (.iconst 0, 1) := by decide +kernel
theorem dX10_isOrigin_3 : decode cX10_isOrigin 3 = .ok (.istore 4, 2) := by decide +kernel
theorem dX10_isOrigin_5 : decode cX10_isOrigin 5 = .ok (.iload 4, 2) := by decide +kernel
theorem dX10_isOrigin_7 : decode cX10_isOrigin 7 = .ok (.aload_n 0, 1) := by decide +kernel
theorem dX10_isOrigin_8 : decode cX10_isOrigin 8 = .ok (.getfield 305, 3) := by decide +kernel
theorem dX10_isOrigin_11 : decode cX10_isOrigin 11 = .ok (.if_icmp .ge 69, 3) := by decide +kernel
theorem dX10_isOrigin_14 : decode cX10_isOrigin 14 = .ok (.iload_n 3, 1) := by decide +kernel
theorem dX10_isOrigin_15 : decode cX10_isOrigin 15 = .ok (.ifCond .eq 57, 3) := by decide +kernel
theorem dX10_isOrigin_18 : decode cX10_isOrigin 18 = .ok (.aload_n 0, 1) := by decide +kernel
theorem dX10_isOrigin_19 : decode cX10_isOrigin 19 = .ok (.iload 4, 2) := by decide +kernel
theorem dX10_isOrigin_21 : decode cX10_isOrigin 21 = .ok (.iconst 1, 1) := by decide +kernel
theorem dX10_isOrigin_22 : decode cX10_isOrigin 22 = .ok (.iload_n 2, 1) := by decide +kernel
theorem dX10_isOrigin_23 : decode cX10_isOrigin 23 = .ok (.invokevirtual 428, 3) := by decide +kernel
theorem dX10_isOrigin_26 : decode cX10_isOrigin 26 = .ok (.ifCond .eq 42, 3) := by decide +kernel
theorem dX10_isOrigin_29 : decode cX10_isOrigin 29 = .ok (.aload_n 0, 1) := by decide +kernel
theorem dX10_isOrigin_30 : decode cX10_isOrigin 30 = .ok (.getfield 81, 3) := by decide +kernel
theorem dX10_isOrigin_33 : decode cX10_isOrigin 33 = .ok (.aload_n 0, 1) := by decide +kernel
theorem dX10_isOrigin_34 : decode cX10_isOrigin 34 = .ok (.getfield 123, 3) := by decide +kernel
theorem dX10_isOrigin_37 : decode cX10_isOrigin 37 = .ok (.iload 4, 2) := by decide +kernel
theorem dX10_isOrigin_39 : decode cX10_isOrigin 39 = .ok (.iaload, 1) := by decide +kernel
theorem dX10_isOrigin_40 : decode cX10_isOrigin 40 = .ok (.iaload, 1) := by decide +kernel
theorem dX10_isOrigin_41 : decode cX10_isOrigin 41 = .ok (.ifCond .lt 31, 3) := by decide +kernel
theorem dX10_isOrigin_44 : decode cX10_isOrigin 44 = .ok (.aload_n 0, 1) := by decide +kernel
theorem dX10_isOrigin_45 : decode cX10_isOrigin 45 = .ok (.getfield 81, 3) := by decide +kernel
theorem dX10_isOrigin_48 : decode cX10_isOrigin 48 = .ok (.aload_n 0, 1) := by decide +kernel
theorem dX10_isOrigin_49 : decode cX10_isOrigin 49 = .ok (.getfield 123, 3) := by decide +kernel
theorem dX10_isOrigin_52 : decode cX10_isOrigin 52 = .ok (.iload 4, 2) := by decide +kernel
theorem dX10_isOrigin_54 : decode cX10_isOrigin 54 = .ok (.iaload, 1) := by decide +kernel
theorem dX10_isOrigin_55 : decode cX10_isOrigin 55 = .ok (.iaload, 1) := by decide +kernel
theorem dX10_isOrigin_56 : decode cX10_isOrigin 56 = .ok (.iload_n 1, 1) := by decide +kernel
theorem dX10_isOrigin_57 : decode cX10_isOrigin 57 = .ok (.iadd, 1) := by decide +kernel
theorem dX10_isOrigin_58 : decode cX10_isOrigin 58 = .ok (.aload_n 0, 1) := by decide +kernel
theorem dX10_isOrigin_59 : decode cX10_isOrigin 59 = .ok (.getfield 126, 3) := by decide +kernel
theorem dX10_isOrigin_62 : decode cX10_isOrigin 62 = .ok (.iload 4, 2) := by decide +kernel
theorem dX10_isOrigin_64 : decode cX10_isOrigin 64 = .ok (.iaload, 1) := by decide +kernel
theorem dX10_isOrigin_65 : decode cX10_isOrigin 65 = .ok (.if_icmp .ne 7, 3) := by decide +kernel
theorem dX10_isOrigin_68 : decode cX10_isOrigin 68 = .ok (.iconst 1, 1) := by decide +kernel
theorem dX10_isOrigin_69 : decode cX10_isOrigin 69 = .ok (.goto 4, 3) := by decide +kernel
theorem dX10_isOrigin_72 : decode cX10_isOrigin 72 = .ok (.iconst 0, 1) := by decide +kernel
theorem dX10_isOrigin_73 : decode cX10_isOrigin 73 = .ok (.istore_n 3, 1) := by decide +kernel
theorem dX10_isOrigin_74 : decode cX10_isOrigin 74 = .ok (.iinc 4 1, 3) := by decide +kernel
theorem dX10_isOrigin_77 : decode cX10_isOrigin 77 = .ok (.goto (-72), 3) := by decide +kernel
theorem dX10_isOrigin_80 : decode cX10_isOrigin 80 = .ok (.iload_n 3, 1) := by decide +kernel
theorem dX10_isOrigin_81 : decode cX10_isOrigin 81 = .ok (.ireturn, 1) := by decide +kernel
theorem dX10_origins_0 : decode cX10_origins 0 = .ok (.iload_n 1, 1) := by decide +kernel
theorem dX10_origins_1 : decode cX10_origins 1 = .ok (.ifCond .lt 8, 3) := by decide +kernel
theorem dX10_origins_4 : decode cX10_origins 4 = .ok (.iload_n 1, 1) := by decide +kernel
theorem dX10_origins_5 : decode cX10_origins 5 = .ok (.iconst 2, 1) := by decide +kernel
theorem dX10_origins_6 : decode cX10_origins 6 = .ok (.if_icmp .le 5, 3) := by decide +kernel
theorem dX10_origins_9 : decode cX10_origins 9 = .ok (.iconst (-1), 1) := by decide +kernel
theorem dX10_origins_10 : decode cX10_origins 10 = .ok (.ireturn, 1) := by decide +kernel
theorem dX10_origins_11 : decode cX10_origins 11 = .ok (.iconst 0, 1) := by decide +kernel
theorem dX10_origins_12 : decode cX10_origins 12 = .ok (.istore_n 3, 1) := by decide +kernel
theorem dX10_origins_13 : decode cX10_origins 13 = .ok (.iconst 0, 1) := by decide +kernel
theorem dX10_origins_14 : decode cX10_origins 14 = .ok (.istore 4, 2) := by decide +kernel
theorem dX10_origins_16 : decode cX10_origins 16 = .ok (.iconst (-1), 1) := by decide +kernel
theorem dX10_origins_17 : decode cX10_origins 17 = .ok (.istore 5, 2) := by decide +kernel
theorem dX10_origins_19 : decode cX10_origins 19 = .ok (.iconst 0, 1) := by decide +kernel
theorem dX10_origins_20 : decode cX10_origins 20 = .ok (.istore 6, 2) := by decide +kernel
theorem dX10_origins_22 : decode cX10_origins 22 = .ok (.iload 6, 2) := by decide +kernel
theorem dX10_origins_24 : decode cX10_origins 24 = .ok (.aload_n 0, 1) := by decide +kernel
theorem dX10_origins_25 : decode cX10_origins 25 = .ok (.getfield 289, 3) := by decide +kernel
theorem dX10_origins_28 : decode cX10_origins 28 = .ok (.if_icmp .ge 88, 3) := by decide +kernel
theorem dX10_origins_31 : decode cX10_origins 31 = .ok (.aload_n 0, 1) := by decide +kernel
theorem dX10_origins_32 : decode cX10_origins 32 = .ok (.iload 6, 2) := by decide +kernel
theorem dX10_origins_34 : decode cX10_origins 34 = .ok (.invokevirtual 382, 3) := by decide +kernel
theorem dX10_origins_37 : decode cX10_origins 37 = .ok (.ifCond .ne 6, 3) := by decide +kernel
theorem dX10_origins_40 : decode cX10_origins 40 = .ok (.goto 70, 3) := by decide +kernel
theorem dX10_origins_43 : decode cX10_origins 43 = .ok (.aload_n 0, 1) := by decide +kernel
theorem dX10_origins_44 : decode cX10_origins 44 = .ok (.iload 6, 2) := by decide +kernel
theorem dX10_origins_46 : decode cX10_origins 46 = .ok (.invokevirtual 385, 3) := by decide +kernel
theorem dX10_origins_49 : decode cX10_origins 49 = .ok (.iconst 0, 1) := by decide +kernel
theorem dX10_origins_50 : decode cX10_origins 50 = .ok (.istore 7, 2) := by decide +kernel
theorem dX10_origins_52 : decode cX10_origins 52 = .ok (.iload 7, 2) := by decide +kernel
theorem dX10_origins_54 : decode cX10_origins 54 = .ok (.bipush 99, 2) := by decide +kernel
theorem dX10_origins_56 : decode cX10_origins 56 = .ok (.if_icmp .gt 54, 3) := by decide +kernel
theorem dX10_origins_59 : decode cX10_origins 59 = .ok (.aload_n 0, 1) := by decide +kernel
theorem dX10_origins_60 : decode cX10_origins 60 = .ok (.iload 7, 2) := by decide +kernel
theorem dX10_origins_62 : decode cX10_origins 62 = .ok (.iload_n 2, 1) := by decide +kernel
theorem dX10_origins_63 : decode cX10_origins 63 = .ok (.invokevirtual 434, 3) := by decide +kernel
theorem dX10_origins_66 : decode cX10_origins 66 = .ok (.ifCond .ne 6, 3) := by decide +kernel
theorem dX10_origins_69 : decode cX10_origins 69 = .ok (.goto 35, 3) := by decide +kernel
theorem dX10_origins_72 : decode cX10_origins 72 = .ok (.iinc 3 1, 3) := by decide +kernel
theorem dX10_origins_75 : decode cX10_origins 75 = .ok (.iload 4, 2) := by decide +kernel
theorem dX10_origins_77 : decode cX10_origins 77 = .ok (.iconst 1, 1) := by decide +kernel
theorem dX10_origins_78 : decode cX10_origins 78 = .ok (.iload 6, 2) := by decide +kernel
theorem dX10_origins_80 : decode cX10_origins 80 = .ok (.ishl, 1) := by decide +kernel
theorem dX10_origins_81 : decode cX10_origins 81 = .ok (.ior, 1) := by decide +kernel
theorem dX10_origins_82 : decode cX10_origins 82 = .ok (.istore 4, 2) := by decide +kernel
theorem dX10_origins_84 : decode cX10_origins 84 = .ok (.iload 5, 2) := by decide +kernel
theorem dX10_origins_86 : decode cX10_origins 86 = .ok (.ifCond .ge 14, 3) := by decide +kernel
theorem dX10_origins_89 : decode cX10_origins 89 = .ok (.bipush 100, 2) := by decide +kernel
theorem dX10_origins_91 : decode cX10_origins 91 = .ok (.iload 6, 2) := by decide +kernel
theorem dX10_origins_93 : decode cX10_origins 93 = .ok (.imul, 1) := by decide +kernel
theorem dX10_origins_94 : decode cX10_origins 94 = .ok (.iload 7, 2) := by decide +kernel
theorem dX10_origins_96 : decode cX10_origins 96 = .ok (.iadd, 1) := by decide +kernel
theorem dX10_origins_97 : decode cX10_origins 97 = .ok (.goto 5, 3) := by decide +kernel
theorem dX10_origins_100 : decode cX10_origins 100 = .ok (.iload 5, 2) := by decide +kernel
theorem dX10_origins_102 : decode cX10_origins 102 = .ok (.istore 5, 2) := by decide +kernel
theorem dX10_origins_104 : decode cX10_origins 104 = .ok (.iinc 7 1, 3) := by decide +kernel
theorem dX10_origins_107 : decode cX10_origins 107 = .ok (.goto (-55), 3) := by decide +kernel
theorem dX10_origins_110 : decode cX10_origins 110 = .ok (.iinc 6 1, 3) := by decide +kernel
theorem dX10_origins_113 : decode cX10_origins 113 = .ok (.goto (-91), 3) := by decide +kernel
theorem dX10_origins_116 : decode cX10_origins 116 = .ok (.iload_n 1, 1) := by decide +kernel
theorem dX10_origins_117 : decode cX10_origins 117 = .ok (.ifCond .ne 7, 3) := by decide +kernel
theorem dX10_origins_120 : decode cX10_origins 120 = .ok (.iload_n 3, 1) := by decide +kernel
theorem dX10_origins_121 : decode cX10_origins 121 = .ok (.goto 15, 3) := by decide +kernel
theorem dX10_origins_124 : decode cX10_origins 124 = .ok (.iload_n 1, 1) := by decide +kernel
theorem dX10_origins_125 : decode cX10_origins 125 = .ok (.iconst 1, 1) := by decide +kernel
theorem dX10_origins_126 : decode cX10_origins 126 = .ok (.if_icmp .ne 8, 3) := by decide +kernel
theorem dX10_origins_129 : decode cX10_origins 129 = .ok (.iload 4, 2) := by decide +kernel
theorem dX10_origins_131 : decode cX10_origins 131 = .ok (.goto 5, 3) := by decide +kernel
theorem dX10_origins_134 : decode cX10_origins 134 = .ok (.iload 5, 2) := by decide +kernel
theorem dX10_origins_136 : decode cX10_origins 136 = .ok (.ireturn, 1) := by decide +kernel
theorem dX10_isBox_0 : decode cX10_isBox 0 = .ok (.iload_n 0, 1) := by decide +kernel
theorem dX10_isBox_1 : decode cX10_isBox 1 = .ok (.ifCond .lt 12, 3) := by decide +kernel
theorem dX10_isBox_4 : decode cX10_isBox 4 = .ok (.iload_n 0, 1) := by decide +kernel
theorem dX10_isBox_5 : decode cX10_isBox 5 = .ok (.iconst 3, 1) := by decide +kernel
theorem dX10_isBox_6 : decode cX10_isBox 6 = .ok (.if_icmp .ge 7, 3) := by decide +kernel
theorem dX10_isBox_9 : decode cX10_isBox 9 = .ok (.iconst 1, 1) := by decide +kernel
theorem dX10_isBox_10 : decode cX10_isBox 10 = .ok (.goto 4, 3) := by decide +kernel
theorem dX10_isBox_13 : decode cX10_isBox 13 = .ok (.iconst 0, 1) := by decide +kernel
theorem dX10_isBox_14 : decode cX10_isBox 14 = .ok (.ireturn, 1) := by decide +kernel
theorem dX10_image_0 : decode cX10_image 0 = .ok (.iload_n 1, 1) := by decide +kernel
theorem dX10_image_1 : decode cX10_image 1 = .ok (.invokestatic 437, 3) := by decide +kernel
theorem dX10_image_4 : decode cX10_image 4 = .ok (.ifCond .ne 5, 3) := by decide +kernel
theorem dX10_image_7 : decode cX10_image 7 = .ok (.iconst (-1), 1) := by decide +kernel
theorem dX10_image_8 : decode cX10_image 8 = .ok (.ireturn, 1) := by decide +kernel
theorem dX10_image_9 : decode cX10_image 9 = .ok (.aload_n 0, 1) := by decide +kernel
theorem dX10_image_10 : decode cX10_image 10 = .ok (.getfield 135, 3) := by decide +kernel
theorem dX10_image_13 : decode cX10_image 13 = .ok (.iload_n 1, 1) := by decide +kernel
theorem dX10_image_14 : decode cX10_image 14 = .ok (.iconst 1, 1) := by decide +kernel
theorem dX10_image_15 : decode cX10_image 15 = .ok (.bastore, 1) := by decide +kernel
theorem dX10_image_16 : decode cX10_image 16 = .ok (.aload_n 0, 1) := by decide +kernel
theorem dX10_image_17 : decode cX10_image 17 = .ok (.getfield 139, 3) := by decide +kernel
theorem dX10_image_20 : decode cX10_image 20 = .ok (.iconst 2, 1) := by decide +kernel
theorem dX10_image_21 : decode cX10_image 21 = .ok (.iload_n 1, 1) := by decide +kernel
theorem dX10_image_22 : decode cX10_image 22 = .ok (.imul, 1) := by decide +kernel
theorem dX10_image_23 : decode cX10_image 23 = .ok (.aload_n 0, 1) := by decide +kernel
theorem dX10_image_24 : decode cX10_image 24 = .ok (.getfield 388, 3) := by decide +kernel
theorem dX10_image_27 : decode cX10_image 27 = .ok (.iastore, 1) := by decide +kernel
theorem dX10_image_28 : decode cX10_image 28 = .ok (.aload_n 0, 1) := by decide +kernel
theorem dX10_image_29 : decode cX10_image 29 = .ok (.getfield 139, 3) := by decide +kernel
theorem dX10_image_32 : decode cX10_image 32 = .ok (.iconst 2, 1) := by decide +kernel
theorem dX10_image_33 : decode cX10_image 33 = .ok (.iload_n 1, 1) := by decide +kernel
theorem dX10_image_34 : decode cX10_image 34 = .ok (.imul, 1) := by decide +kernel
theorem dX10_image_35 : decode cX10_image 35 = .ok (.iconst 1, 1) := by decide +kernel
theorem dX10_image_36 : decode cX10_image 36 = .ok (.iadd, 1) := by decide +kernel
theorem dX10_image_37 : decode cX10_image 37 = .ok (.aload_n 0, 1) := by decide +kernel
theorem dX10_image_38 : decode cX10_image 38 = .ok (.getfield 391, 3) := by decide +kernel
theorem dX10_image_41 : decode cX10_image 41 = .ok (.iastore, 1) := by decide +kernel
theorem dX10_image_42 : decode cX10_image 42 = .ok (.iconst 0, 1) := by decide +kernel
theorem dX10_image_43 : decode cX10_image 43 = .ok (.istore_n 2, 1) := by decide +kernel
theorem dX10_image_44 : decode cX10_image 44 = .ok (.iload_n 2, 1) := by decide +kernel
theorem dX10_image_45 : decode cX10_image 45 = .ok (.bipush 12, 2) := by decide +kernel
theorem dX10_image_47 : decode cX10_image 47 = .ok (.if_icmp .ge 58, 3) := by decide +kernel
theorem dX10_image_50 : decode cX10_image 50 = .ok (.iconst 3, 1) := by decide +kernel
theorem dX10_image_51 : decode cX10_image 51 = .ok (.bipush 12, 2) := by decide +kernel
theorem dX10_image_53 : decode cX10_image 53 = .ok (.iload_n 1, 1) := by decide +kernel
theorem dX10_image_54 : decode cX10_image 54 = .ok (.imul, 1) := by decide +kernel
theorem dX10_image_55 : decode cX10_image 55 = .ok (.iload_n 2, 1) := by decide +kernel
theorem dX10_image_56 : decode cX10_image 56 = .ok (.iadd, 1) := by decide +kernel
theorem dX10_image_57 : decode cX10_image 57 = .ok (.imul, 1) := by decide +kernel
theorem dX10_image_58 : decode cX10_image 58 = .ok (.istore_n 3, 1) := by decide +kernel
theorem dX10_image_59 : decode cX10_image 59 = .ok (.aload_n 0, 1) := by decide +kernel
theorem dX10_image_60 : decode cX10_image 60 = .ok (.getfield 142, 3) := by decide +kernel
theorem dX10_image_63 : decode cX10_image 63 = .ok (.iload_n 3, 1) := by decide +kernel
theorem dX10_image_64 : decode cX10_image 64 = .ok (.aload_n 0, 1) := by decide +kernel
theorem dX10_image_65 : decode cX10_image 65 = .ok (.getfield 90, 3) := by decide +kernel
theorem dX10_image_68 : decode cX10_image 68 = .ok (.iload_n 2, 1) := by decide +kernel
theorem dX10_image_69 : decode cX10_image 69 = .ok (.iaload, 1) := by decide +kernel
theorem dX10_image_70 : decode cX10_image 70 = .ok (.iastore, 1) := by decide +kernel
theorem dX10_image_71 : decode cX10_image 71 = .ok (.aload_n 0, 1) := by decide +kernel
theorem dX10_image_72 : decode cX10_image 72 = .ok (.getfield 142, 3) := by decide +kernel
theorem dX10_image_75 : decode cX10_image 75 = .ok (.iload_n 3, 1) := by decide +kernel
theorem dX10_image_76 : decode cX10_image 76 = .ok (.iconst 1, 1) := by decide +kernel
theorem dX10_image_77 : decode cX10_image 77 = .ok (.iadd, 1) := by decide +kernel
theorem dX10_image_78 : decode cX10_image 78 = .ok (.aload_n 0, 1) := by decide +kernel
theorem dX10_image_79 : decode cX10_image 79 = .ok (.getfield 93, 3) := by decide +kernel
theorem dX10_image_82 : decode cX10_image 82 = .ok (.iload_n 2, 1) := by decide +kernel
theorem dX10_image_83 : decode cX10_image 83 = .ok (.iaload, 1) := by decide +kernel
theorem dX10_image_84 : decode cX10_image 84 = .ok (.iastore, 1) := by decide +kernel
theorem dX10_image_85 : decode cX10_image 85 = .ok (.aload_n 0, 1) := by decide +kernel
theorem dX10_image_86 : decode cX10_image 86 = .ok (.getfield 142, 3) := by decide +kernel
theorem dX10_image_89 : decode cX10_image 89 = .ok (.iload_n 3, 1) := by decide +kernel
theorem dX10_image_90 : decode cX10_image 90 = .ok (.iconst 2, 1) := by decide +kernel
theorem dX10_image_91 : decode cX10_image 91 = .ok (.iadd, 1) := by decide +kernel
theorem dX10_image_92 : decode cX10_image 92 = .ok (.aload_n 0, 1) := by decide +kernel
theorem dX10_image_93 : decode cX10_image 93 = .ok (.getfield 96, 3) := by decide +kernel
theorem dX10_image_96 : decode cX10_image 96 = .ok (.iload_n 2, 1) := by decide +kernel
theorem dX10_image_97 : decode cX10_image 97 = .ok (.iaload, 1) := by decide +kernel
theorem dX10_image_98 : decode cX10_image 98 = .ok (.iastore, 1) := by decide +kernel
theorem dX10_image_99 : decode cX10_image 99 = .ok (.iinc 2 1, 3) := by decide +kernel
theorem dX10_image_102 : decode cX10_image 102 = .ok (.goto (-58), 3) := by decide +kernel
theorem dX10_image_105 : decode cX10_image 105 = .ok (.iconst 0, 1) := by decide +kernel
theorem dX10_image_106 : decode cX10_image 106 = .ok (.istore_n 2, 1) := by decide +kernel
theorem dX10_image_107 : decode cX10_image 107 = .ok (.iload_n 2, 1) := by decide +kernel
theorem dX10_image_108 : decode cX10_image 108 = .ok (.sipush 144, 3) := by decide +kernel
theorem dX10_image_111 : decode cX10_image 111 = .ok (.if_icmp .ge 27, 3) := by decide +kernel
theorem dX10_image_114 : decode cX10_image 114 = .ok (.aload_n 0, 1) := by decide +kernel
theorem dX10_image_115 : decode cX10_image 115 = .ok (.getfield 145, 3) := by decide +kernel
theorem dX10_image_118 : decode cX10_image 118 = .ok (.sipush 144, 3) := by decide +kernel
theorem dX10_image_121 : decode cX10_image 121 = .ok (.iload_n 1, 1) := by decide +kernel
theorem dX10_image_122 : decode cX10_image 122 = .ok (.imul, 1) := by decide +kernel
theorem dX10_image_123 : decode cX10_image 123 = .ok (.iload_n 2, 1) := by decide +kernel
theorem dX10_image_124 : decode cX10_image 124 = .ok (.iadd, 1) := by decide +kernel
theorem dX10_image_125 : decode cX10_image 125 = .ok (.aload_n 0, 1) := by decide +kernel
theorem dX10_image_126 : decode cX10_image 126 = .ok (.getfield 99, 3) := by decide +kernel
theorem dX10_image_129 : decode cX10_image 129 = .ok (.iload_n 2, 1) := by decide +kernel
theorem dX10_image_130 : decode cX10_image 130 = .ok (.iaload, 1) := by decide +kernel
theorem dX10_image_131 : decode cX10_image 131 = .ok (.iastore, 1) := by decide +kernel
theorem dX10_image_132 : decode cX10_image 132 = .ok (.iinc 2 1, 3) := by decide +kernel
theorem dX10_image_135 : decode cX10_image 135 = .ok (.goto (-28), 3) := by decide +kernel
theorem dX10_image_138 : decode cX10_image 138 = .ok (.iconst 0, 1) := by decide +kernel
theorem dX10_image_139 : decode cX10_image 139 = .ok (.istore_n 2, 1) := by decide +kernel
theorem dX10_image_140 : decode cX10_image 140 = .ok (.iload_n 2, 1) := by decide +kernel
theorem dX10_image_141 : decode cX10_image 141 = .ok (.bipush 12, 2) := by decide +kernel
theorem dX10_image_143 : decode cX10_image 143 = .ok (.if_icmp .ge 86, 3) := by decide +kernel
theorem dX10_image_146 : decode cX10_image 146 = .ok (.iconst 5, 1) := by decide +kernel
theorem dX10_image_147 : decode cX10_image 147 = .ok (.bipush 12, 2) := by decide +kernel
theorem dX10_image_149 : decode cX10_image 149 = .ok (.iload_n 1, 1) := by decide +kernel
theorem dX10_image_150 : decode cX10_image 150 = .ok (.imul, 1) := by decide +kernel
theorem dX10_image_151 : decode cX10_image 151 = .ok (.iload_n 2, 1) := by decide +kernel
theorem dX10_image_152 : decode cX10_image 152 = .ok (.iadd, 1) := by decide +kernel
theorem dX10_image_153 : decode cX10_image 153 = .ok (.imul, 1) := by decide +kernel
theorem dX10_image_154 : decode cX10_image 154 = .ok (.istore_n 3, 1) := by decide +kernel
theorem dX10_image_155 : decode cX10_image 155 = .ok (.aload_n 0, 1) := by decide +kernel
theorem dX10_image_156 : decode cX10_image 156 = .ok (.getfield 148, 3) := by decide +kernel
theorem dX10_image_159 : decode cX10_image 159 = .ok (.iload_n 3, 1) := by decide +kernel
theorem dX10_image_160 : decode cX10_image 160 = .ok (.aload_n 0, 1) := by decide +kernel
theorem dX10_image_161 : decode cX10_image 161 = .ok (.getfield 102, 3) := by decide +kernel
theorem dX10_image_164 : decode cX10_image 164 = .ok (.iload_n 2, 1) := by decide +kernel
theorem dX10_image_165 : decode cX10_image 165 = .ok (.iaload, 1) := by decide +kernel
theorem dX10_image_166 : decode cX10_image 166 = .ok (.iastore, 1) := by decide +kernel
theorem dX10_image_167 : decode cX10_image 167 = .ok (.aload_n 0, 1) := by decide +kernel
theorem dX10_image_168 : decode cX10_image 168 = .ok (.getfield 148, 3) := by decide +kernel
theorem dX10_image_171 : decode cX10_image 171 = .ok (.iload_n 3, 1) := by decide +kernel
theorem dX10_image_172 : decode cX10_image 172 = .ok (.iconst 1, 1) := by decide +kernel
theorem dX10_image_173 : decode cX10_image 173 = .ok (.iadd, 1) := by decide +kernel
theorem dX10_image_174 : decode cX10_image 174 = .ok (.aload_n 0, 1) := by decide +kernel
theorem dX10_image_175 : decode cX10_image 175 = .ok (.getfield 105, 3) := by decide +kernel
theorem dX10_image_178 : decode cX10_image 178 = .ok (.iload_n 2, 1) := by decide +kernel
theorem dX10_image_179 : decode cX10_image 179 = .ok (.iaload, 1) := by decide +kernel
theorem dX10_image_180 : decode cX10_image 180 = .ok (.iastore, 1) := by decide +kernel
theorem dX10_image_181 : decode cX10_image 181 = .ok (.aload_n 0, 1) := by decide +kernel
theorem dX10_image_182 : decode cX10_image 182 = .ok (.getfield 148, 3) := by decide +kernel
theorem dX10_image_185 : decode cX10_image 185 = .ok (.iload_n 3, 1) := by decide +kernel
theorem dX10_image_186 : decode cX10_image 186 = .ok (.iconst 2, 1) := by decide +kernel
theorem dX10_image_187 : decode cX10_image 187 = .ok (.iadd, 1) := by decide +kernel
theorem dX10_image_188 : decode cX10_image 188 = .ok (.aload_n 0, 1) := by decide +kernel
theorem dX10_image_189 : decode cX10_image 189 = .ok (.getfield 108, 3) := by decide +kernel
theorem dX10_image_192 : decode cX10_image 192 = .ok (.iload_n 2, 1) := by decide +kernel
theorem dX10_image_193 : decode cX10_image 193 = .ok (.iaload, 1) := by decide +kernel
theorem dX10_image_194 : decode cX10_image 194 = .ok (.iastore, 1) := by decide +kernel
theorem dX10_image_195 : decode cX10_image 195 = .ok (.aload_n 0, 1) := by decide +kernel
theorem dX10_image_196 : decode cX10_image 196 = .ok (.getfield 148, 3) := by decide +kernel
theorem dX10_image_199 : decode cX10_image 199 = .ok (.iload_n 3, 1) := by decide +kernel
theorem dX10_image_200 : decode cX10_image 200 = .ok (.iconst 3, 1) := by decide +kernel
theorem dX10_image_201 : decode cX10_image 201 = .ok (.iadd, 1) := by decide +kernel
theorem dX10_image_202 : decode cX10_image 202 = .ok (.aload_n 0, 1) := by decide +kernel
theorem dX10_image_203 : decode cX10_image 203 = .ok (.getfield 111, 3) := by decide +kernel
theorem dX10_image_206 : decode cX10_image 206 = .ok (.iload_n 2, 1) := by decide +kernel
theorem dX10_image_207 : decode cX10_image 207 = .ok (.iaload, 1) := by decide +kernel
theorem dX10_image_208 : decode cX10_image 208 = .ok (.iastore, 1) := by decide +kernel
theorem dX10_image_209 : decode cX10_image 209 = .ok (.aload_n 0, 1) := by decide +kernel
theorem dX10_image_210 : decode cX10_image 210 = .ok (.getfield 148, 3) := by decide +kernel
theorem dX10_image_213 : decode cX10_image 213 = .ok (.iload_n 3, 1) := by decide +kernel
theorem dX10_image_214 : decode cX10_image 214 = .ok (.iconst 4, 1) := by decide +kernel
theorem dX10_image_215 : decode cX10_image 215 = .ok (.iadd, 1) := by decide +kernel
theorem dX10_image_216 : decode cX10_image 216 = .ok (.aload_n 0, 1) := by decide +kernel
theorem dX10_image_217 : decode cX10_image 217 = .ok (.getfield 114, 3) := by decide +kernel
theorem dX10_image_220 : decode cX10_image 220 = .ok (.iload_n 2, 1) := by decide +kernel
theorem dX10_image_221 : decode cX10_image 221 = .ok (.iaload, 1) := by decide +kernel
theorem dX10_image_222 : decode cX10_image 222 = .ok (.iastore, 1) := by decide +kernel
theorem dX10_image_223 : decode cX10_image 223 = .ok (.iinc 2 1, 3) := by decide +kernel
theorem dX10_image_226 : decode cX10_image 226 = .ok (.goto (-86), 3) := by decide +kernel
theorem dX10_image_229 : decode cX10_image 229 = .ok (.aload_n 0, 1) := by decide +kernel
theorem dX10_image_230 : decode cX10_image 230 = .ok (.getfield 388, 3) := by decide +kernel
theorem dX10_image_233 : decode cX10_image 233 = .ok (.ireturn, 1) := by decide +kernel
theorem dX10_back_0 : decode cX10_back 0 = .ok (.iload_n 1, 1) := by decide +kernel
theorem dX10_back_1 : decode cX10_back 1 = .ok (.invokestatic 437, 3) := by decide +kernel
theorem dX10_back_4 : decode cX10_back 4 = .ok (.ifCond .eq 12, 3) := by decide +kernel
theorem dX10_back_7 : decode cX10_back 7 = .ok (.aload_n 0, 1) := by decide +kernel
theorem dX10_back_8 : decode cX10_back 8 = .ok (.getfield 135, 3) := by decide +kernel
theorem dX10_back_11 : decode cX10_back 11 = .ok (.iload_n 1, 1) := by decide +kernel
theorem dX10_back_12 : decode cX10_back 12 = .ok (.baload, 1) := by decide +kernel
theorem dX10_back_13 : decode cX10_back 13 = .ok (.ifCond .ne 5, 3) := by decide +kernel
theorem dX10_back_16 : decode cX10_back 16 = .ok (.iconst (-1), 1) := by decide +kernel
theorem dX10_back_17 : decode cX10_back 17 = .ok (.ireturn, 1) := by decide +kernel
theorem dX10_back_18 : decode cX10_back 18 = .ok (.aload_n 0, 1) := by decide +kernel
theorem dX10_back_19 : decode cX10_back 19 = .ok (.aload_n 0, 1) := by decide +kernel
theorem dX10_back_20 : decode cX10_back 20 = .ok (.getfield 139, 3) := by decide +kernel
theorem dX10_back_23 : decode cX10_back 23 = .ok (.iconst 2, 1) := by decide +kernel
theorem dX10_back_24 : decode cX10_back 24 = .ok (.iload_n 1, 1) := by decide +kernel
theorem dX10_back_25 : decode cX10_back 25 = .ok (.imul, 1) := by decide +kernel
theorem dX10_back_26 : decode cX10_back 26 = .ok (.iaload, 1) := by decide +kernel
theorem dX10_back_27 : decode cX10_back 27 = .ok (.putfield 388, 3) := by decide +kernel
theorem dX10_back_30 : decode cX10_back 30 = .ok (.aload_n 0, 1) := by decide +kernel
theorem dX10_back_31 : decode cX10_back 31 = .ok (.aload_n 0, 1) := by decide +kernel
theorem dX10_back_32 : decode cX10_back 32 = .ok (.getfield 139, 3) := by decide +kernel
theorem dX10_back_35 : decode cX10_back 35 = .ok (.iconst 2, 1) := by decide +kernel
theorem dX10_back_36 : decode cX10_back 36 = .ok (.iload_n 1, 1) := by decide +kernel
theorem dX10_back_37 : decode cX10_back 37 = .ok (.imul, 1) := by decide +kernel
theorem dX10_back_38 : decode cX10_back 38 = .ok (.iconst 1, 1) := by decide +kernel
theorem dX10_back_39 : decode cX10_back 39 = .ok (.iadd, 1) := by decide +kernel
theorem dX10_back_40 : decode cX10_back 40 = .ok (.iaload, 1) := by decide +kernel
theorem dX10_back_41 : decode cX10_back 41 = .ok (.putfield 391, 3) := by decide +kernel
theorem dX10_back_44 : decode cX10_back 44 = .ok (.iconst 0, 1) := by decide +kernel
theorem dX10_back_45 : decode cX10_back 45 = .ok (.istore_n 2, 1) := by decide +kernel
theorem dX10_back_46 : decode cX10_back 46 = .ok (.iload_n 2, 1) := by decide +kernel
theorem dX10_back_47 : decode cX10_back 47 = .ok (.bipush 12, 2) := by decide +kernel
theorem dX10_back_49 : decode cX10_back 49 = .ok (.if_icmp .ge 58, 3) := by decide +kernel
theorem dX10_back_52 : decode cX10_back 52 = .ok (.iconst 3, 1) := by decide +kernel
theorem dX10_back_53 : decode cX10_back 53 = .ok (.bipush 12, 2) := by decide +kernel
theorem dX10_back_55 : decode cX10_back 55 = .ok (.iload_n 1, 1) := by decide +kernel
theorem dX10_back_56 : decode cX10_back 56 = .ok (.imul, 1) := by decide +kernel
theorem dX10_back_57 : decode cX10_back 57 = .ok (.iload_n 2, 1) := by decide +kernel
theorem dX10_back_58 : decode cX10_back 58 = .ok (.iadd, 1) := by decide +kernel
theorem dX10_back_59 : decode cX10_back 59 = .ok (.imul, 1) := by decide +kernel
theorem dX10_back_60 : decode cX10_back 60 = .ok (.istore_n 3, 1) := by decide +kernel
theorem dX10_back_61 : decode cX10_back 61 = .ok (.aload_n 0, 1) := by decide +kernel
theorem dX10_back_62 : decode cX10_back 62 = .ok (.getfield 90, 3) := by decide +kernel
theorem dX10_back_65 : decode cX10_back 65 = .ok (.iload_n 2, 1) := by decide +kernel
theorem dX10_back_66 : decode cX10_back 66 = .ok (.aload_n 0, 1) := by decide +kernel
theorem dX10_back_67 : decode cX10_back 67 = .ok (.getfield 142, 3) := by decide +kernel
theorem dX10_back_70 : decode cX10_back 70 = .ok (.iload_n 3, 1) := by decide +kernel
theorem dX10_back_71 : decode cX10_back 71 = .ok (.iaload, 1) := by decide +kernel
theorem dX10_back_72 : decode cX10_back 72 = .ok (.iastore, 1) := by decide +kernel
theorem dX10_back_73 : decode cX10_back 73 = .ok (.aload_n 0, 1) := by decide +kernel
theorem dX10_back_74 : decode cX10_back 74 = .ok (.getfield 93, 3) := by decide +kernel
theorem dX10_back_77 : decode cX10_back 77 = .ok (.iload_n 2, 1) := by decide +kernel
theorem dX10_back_78 : decode cX10_back 78 = .ok (.aload_n 0, 1) := by decide +kernel
theorem dX10_back_79 : decode cX10_back 79 = .ok (.getfield 142, 3) := by decide +kernel
theorem dX10_back_82 : decode cX10_back 82 = .ok (.iload_n 3, 1) := by decide +kernel
theorem dX10_back_83 : decode cX10_back 83 = .ok (.iconst 1, 1) := by decide +kernel
theorem dX10_back_84 : decode cX10_back 84 = .ok (.iadd, 1) := by decide +kernel
theorem dX10_back_85 : decode cX10_back 85 = .ok (.iaload, 1) := by decide +kernel
theorem dX10_back_86 : decode cX10_back 86 = .ok (.iastore, 1) := by decide +kernel
theorem dX10_back_87 : decode cX10_back 87 = .ok (.aload_n 0, 1) := by decide +kernel
theorem dX10_back_88 : decode cX10_back 88 = .ok (.getfield 96, 3) := by decide +kernel
theorem dX10_back_91 : decode cX10_back 91 = .ok (.iload_n 2, 1) := by decide +kernel
theorem dX10_back_92 : decode cX10_back 92 = .ok (.aload_n 0, 1) := by decide +kernel
theorem dX10_back_93 : decode cX10_back 93 = .ok (.getfield 142, 3) := by decide +kernel
theorem dX10_back_96 : decode cX10_back 96 = .ok (.iload_n 3, 1) := by decide +kernel
theorem dX10_back_97 : decode cX10_back 97 = .ok (.iconst 2, 1) := by decide +kernel
theorem dX10_back_98 : decode cX10_back 98 = .ok (.iadd, 1) := by decide +kernel
theorem dX10_back_99 : decode cX10_back 99 = .ok (.iaload, 1) := by decide +kernel
theorem dX10_back_100 : decode cX10_back 100 = .ok (.iastore, 1) := by decide +kernel
theorem dX10_back_101 : decode cX10_back 101 = .ok (.iinc 2 1, 3) := by decide +kernel
theorem dX10_back_104 : decode cX10_back 104 = .ok (.goto (-58), 3) := by decide +kernel
theorem dX10_back_107 : decode cX10_back 107 = .ok (.iconst 0, 1) := by decide +kernel
theorem dX10_back_108 : decode cX10_back 108 = .ok (.istore_n 2, 1) := by decide +kernel
theorem dX10_back_109 : decode cX10_back 109 = .ok (.iload_n 2, 1) := by decide +kernel
theorem dX10_back_110 : decode cX10_back 110 = .ok (.sipush 144, 3) := by decide +kernel
theorem dX10_back_113 : decode cX10_back 113 = .ok (.if_icmp .ge 27, 3) := by decide +kernel
theorem dX10_back_116 : decode cX10_back 116 = .ok (.aload_n 0, 1) := by decide +kernel
theorem dX10_back_117 : decode cX10_back 117 = .ok (.getfield 99, 3) := by decide +kernel
theorem dX10_back_120 : decode cX10_back 120 = .ok (.iload_n 2, 1) := by decide +kernel
theorem dX10_back_121 : decode cX10_back 121 = .ok (.aload_n 0, 1) := by decide +kernel
theorem dX10_back_122 : decode cX10_back 122 = .ok (.getfield 145, 3) := by decide +kernel
theorem dX10_back_125 : decode cX10_back 125 = .ok (.sipush 144, 3) := by decide +kernel
theorem dX10_back_128 : decode cX10_back 128 = .ok (.iload_n 1, 1) := by decide +kernel
theorem dX10_back_129 : decode cX10_back 129 = .ok (.imul, 1) := by decide +kernel
theorem dX10_back_130 : decode cX10_back 130 = .ok (.iload_n 2, 1) := by decide +kernel
theorem dX10_back_131 : decode cX10_back 131 = .ok (.iadd, 1) := by decide +kernel
theorem dX10_back_132 : decode cX10_back 132 = .ok (.iaload, 1) := by decide +kernel
theorem dX10_back_133 : decode cX10_back 133 = .ok (.iastore, 1) := by decide +kernel
theorem dX10_back_134 : decode cX10_back 134 = .ok (.iinc 2 1, 3) := by decide +kernel
theorem dX10_back_137 : decode cX10_back 137 = .ok (.goto (-28), 3) := by decide +kernel
theorem dX10_back_140 : decode cX10_back 140 = .ok (.iconst 0, 1) := by decide +kernel
theorem dX10_back_141 : decode cX10_back 141 = .ok (.istore_n 2, 1) := by decide +kernel
theorem dX10_back_142 : decode cX10_back 142 = .ok (.iload_n 2, 1) := by decide +kernel
theorem dX10_back_143 : decode cX10_back 143 = .ok (.bipush 12, 2) := by decide +kernel
theorem dX10_back_145 : decode cX10_back 145 = .ok (.if_icmp .ge 86, 3) := by decide +kernel
theorem dX10_back_148 : decode cX10_back 148 = .ok (.iconst 5, 1) := by decide +kernel
theorem dX10_back_149 : decode cX10_back 149 = .ok (.bipush 12, 2) := by decide +kernel
theorem dX10_back_151 : decode cX10_back 151 = .ok (.iload_n 1, 1) := by decide +kernel
theorem dX10_back_152 : decode cX10_back 152 = .ok (.imul, 1) := by decide +kernel
theorem dX10_back_153 : decode cX10_back 153 = .ok (.iload_n 2, 1) := by decide +kernel
theorem dX10_back_154 : decode cX10_back 154 = .ok (.iadd, 1) := by decide +kernel
theorem dX10_back_155 : decode cX10_back 155 = .ok (.imul, 1) := by decide +kernel
theorem dX10_back_156 : decode cX10_back 156 = .ok (.istore_n 3, 1) := by decide +kernel
theorem dX10_back_157 : decode cX10_back 157 = .ok (.aload_n 0, 1) := by decide +kernel
theorem dX10_back_158 : decode cX10_back 158 = .ok (.getfield 102, 3) := by decide +kernel
theorem dX10_back_161 : decode cX10_back 161 = .ok (.iload_n 2, 1) := by decide +kernel
theorem dX10_back_162 : decode cX10_back 162 = .ok (.aload_n 0, 1) := by decide +kernel
theorem dX10_back_163 : decode cX10_back 163 = .ok (.getfield 148, 3) := by decide +kernel
theorem dX10_back_166 : decode cX10_back 166 = .ok (.iload_n 3, 1) := by decide +kernel
theorem dX10_back_167 : decode cX10_back 167 = .ok (.iaload, 1) := by decide +kernel
theorem dX10_back_168 : decode cX10_back 168 = .ok (.iastore, 1) := by decide +kernel
theorem dX10_back_169 : decode cX10_back 169 = .ok (.aload_n 0, 1) := by decide +kernel
theorem dX10_back_170 : decode cX10_back 170 = .ok (.getfield 105, 3) := by decide +kernel
theorem dX10_back_173 : decode cX10_back 173 = .ok (.iload_n 2, 1) := by decide +kernel
theorem dX10_back_174 : decode cX10_back 174 = .ok (.aload_n 0, 1) := by decide +kernel
theorem dX10_back_175 : decode cX10_back 175 = .ok (.getfield 148, 3) := by decide +kernel
theorem dX10_back_178 : decode cX10_back 178 = .ok (.iload_n 3, 1) := by decide +kernel
theorem dX10_back_179 : decode cX10_back 179 = .ok (.iconst 1, 1) := by decide +kernel
theorem dX10_back_180 : decode cX10_back 180 = .ok (.iadd, 1) := by decide +kernel
theorem dX10_back_181 : decode cX10_back 181 = .ok (.iaload, 1) := by decide +kernel
theorem dX10_back_182 : decode cX10_back 182 = .ok (.iastore, 1) := by decide +kernel
theorem dX10_back_183 : decode cX10_back 183 = .ok (.aload_n 0, 1) := by decide +kernel
theorem dX10_back_184 : decode cX10_back 184 = .ok (.getfield 108, 3) := by decide +kernel
theorem dX10_back_187 : decode cX10_back 187 = .ok (.iload_n 2, 1) := by decide +kernel
theorem dX10_back_188 : decode cX10_back 188 = .ok (.aload_n 0, 1) := by decide +kernel
theorem dX10_back_189 : decode cX10_back 189 = .ok (.getfield 148, 3) := by decide +kernel
theorem dX10_back_192 : decode cX10_back 192 = .ok (.iload_n 3, 1) := by decide +kernel
theorem dX10_back_193 : decode cX10_back 193 = .ok (.iconst 2, 1) := by decide +kernel
theorem dX10_back_194 : decode cX10_back 194 = .ok (.iadd, 1) := by decide +kernel
theorem dX10_back_195 : decode cX10_back 195 = .ok (.iaload, 1) := by decide +kernel
theorem dX10_back_196 : decode cX10_back 196 = .ok (.iastore, 1) := by decide +kernel
theorem dX10_back_197 : decode cX10_back 197 = .ok (.aload_n 0, 1) := by decide +kernel
theorem dX10_back_198 : decode cX10_back 198 = .ok (.getfield 111, 3) := by decide +kernel
theorem dX10_back_201 : decode cX10_back 201 = .ok (.iload_n 2, 1) := by decide +kernel
theorem dX10_back_202 : decode cX10_back 202 = .ok (.aload_n 0, 1) := by decide +kernel
theorem dX10_back_203 : decode cX10_back 203 = .ok (.getfield 148, 3) := by decide +kernel
theorem dX10_back_206 : decode cX10_back 206 = .ok (.iload_n 3, 1) := by decide +kernel
theorem dX10_back_207 : decode cX10_back 207 = .ok (.iconst 3, 1) := by decide +kernel
theorem dX10_back_208 : decode cX10_back 208 = .ok (.iadd, 1) := by decide +kernel
theorem dX10_back_209 : decode cX10_back 209 = .ok (.iaload, 1) := by decide +kernel
theorem dX10_back_210 : decode cX10_back 210 = .ok (.iastore, 1) := by decide +kernel
theorem dX10_back_211 : decode cX10_back 211 = .ok (.aload_n 0, 1) := by decide +kernel
theorem dX10_back_212 : decode cX10_back 212 = .ok (.getfield 114, 3) := by decide +kernel
theorem dX10_back_215 : decode cX10_back 215 = .ok (.iload_n 2, 1) := by decide +kernel
theorem dX10_back_216 : decode cX10_back 216 = .ok (.aload_n 0, 1) := by decide +kernel
theorem dX10_back_217 : decode cX10_back 217 = .ok (.getfield 148, 3) := by decide +kernel
theorem dX10_back_220 : decode cX10_back 220 = .ok (.iload_n 3, 1) := by decide +kernel
theorem dX10_back_221 : decode cX10_back 221 = .ok (.iconst 4, 1) := by decide +kernel
theorem dX10_back_222 : decode cX10_back 222 = .ok (.iadd, 1) := by decide +kernel
theorem dX10_back_223 : decode cX10_back 223 = .ok (.iaload, 1) := by decide +kernel
theorem dX10_back_224 : decode cX10_back 224 = .ok (.iastore, 1) := by decide +kernel
theorem dX10_back_225 : decode cX10_back 225 = .ok (.iinc 2 1, 3) := by decide +kernel
theorem dX10_back_228 : decode cX10_back 228 = .ok (.goto (-86), 3) := by decide +kernel
theorem dX10_back_231 : decode cX10_back 231 = .ok (.aload_n 0, 1) := by decide +kernel
theorem dX10_back_232 : decode cX10_back 232 = .ok (.getfield 388, 3) := by decide +kernel
theorem dX10_back_235 : decode cX10_back 235 = .ok (.ireturn, 1) := by decide +kernel
theorem dX10_thingsAt_0 : decode cX10_thingsAt 0 = .ok (.iconst 0, 1) := by decide +kernel
theorem dX10_thingsAt_1 : decode cX10_thingsAt 1 = .ok (.istore_n 2, 1) := by decide +kernel
theorem dX10_thingsAt_2 : decode cX10_thingsAt 2 = .ok (.iconst 0, 1) := by decide +kernel
theorem dX10_thingsAt_3 : decode cX10_thingsAt 3 = .ok (.istore_n 3, 1) := by decide +kernel
theorem dX10_thingsAt_4 : decode cX10_thingsAt 4 = .ok (.iload_n 3, 1) := by decide +kernel
theorem dX10_thingsAt_5 : decode cX10_thingsAt 5 = .ok (.aload_n 0, 1) := by decide +kernel
theorem dX10_thingsAt_6 : decode cX10_thingsAt 6 = .ok (.getfield 391, 3) := by decide +kernel
theorem dX10_thingsAt_9 : decode cX10_thingsAt 9 = .ok (.if_icmp .ge 27, 3) := by decide +kernel
theorem dX10_thingsAt_12 : decode cX10_thingsAt 12 = .ok (.iload_n 2, 1) := by decide +kernel
theorem dX10_thingsAt_13 : decode cX10_thingsAt 13 = .ok (.aload_n 0, 1) := by decide +kernel
theorem dX10_thingsAt_14 : decode cX10_thingsAt 14 = .ok (.getfield 102, 3) := by decide +kernel
theorem dX10_thingsAt_17 : decode cX10_thingsAt 17 = .ok (.iload_n 3, 1) := by decide +kernel
theorem dX10_thingsAt_18 : decode cX10_thingsAt 18 = .ok (.iaload, 1) := by decide +kernel
theorem dX10_thingsAt_19 : decode cX10_thingsAt 19 = .ok (.iload_n 1, 1) := by decide +kernel
theorem dX10_thingsAt_20 : decode cX10_thingsAt 20 = .ok (.if_icmp .ne 7, 3) := by decide +kernel
theorem dX10_thingsAt_23 : decode cX10_thingsAt 23 = .ok (.iconst 1, 1) := by decide +kernel
theorem dX10_thingsAt_24 : decode cX10_thingsAt 24 = .ok (.goto 4, 3) := by decide +kernel
theorem dX10_thingsAt_27 : decode cX10_thingsAt 27 = .ok (.iconst 0, 1) := by decide +kernel
theorem dX10_thingsAt_28 : decode cX10_thingsAt 28 = .ok (.iadd, 1) := by decide +kernel
theorem dX10_thingsAt_29 : decode cX10_thingsAt 29 = .ok (.istore_n 2, 1) := by decide +kernel
theorem dX10_thingsAt_30 : decode cX10_thingsAt 30 = .ok (.iinc 3 1, 3) := by decide +kernel
theorem dX10_thingsAt_33 : decode cX10_thingsAt 33 = .ok (.goto (-29), 3) := by decide +kernel
theorem dX10_thingsAt_36 : decode cX10_thingsAt 36 = .ok (.iload_n 2, 1) := by decide +kernel
theorem dX10_thingsAt_37 : decode cX10_thingsAt 37 = .ok (.ireturn, 1) := by decide +kernel
theorem dX10_about_0 : decode cX10_about 0 = .ok (.iload_n 1, 1) := by decide +kernel
theorem dX10_about_1 : decode cX10_about 1 = .ok (.tableswitch 127 0 11 #[63, 68, 73, 78, 83, 88, 93, 98, 103, 108, 113, 120], 63) := by decide +kernel
theorem dX10_about_64 : decode cX10_about 64 = .ok (.aload_n 0, 1) := by decide +kernel
theorem dX10_about_65 : decode cX10_about 65 = .ok (.getfield 289, 3) := by decide +kernel
theorem dX10_about_68 : decode cX10_about 68 = .ok (.ireturn, 1) := by decide +kernel
theorem dX10_about_69 : decode cX10_about 69 = .ok (.aload_n 0, 1) := by decide +kernel
theorem dX10_about_70 : decode cX10_about 70 = .ok (.getfield 292, 3) := by decide +kernel
theorem dX10_about_73 : decode cX10_about 73 = .ok (.ireturn, 1) := by decide +kernel
theorem dX10_about_74 : decode cX10_about 74 = .ok (.aload_n 0, 1) := by decide +kernel
theorem dX10_about_75 : decode cX10_about 75 = .ok (.getfield 151, 3) := by decide +kernel
theorem dX10_about_78 : decode cX10_about 78 = .ok (.ireturn, 1) := by decide +kernel
theorem dX10_about_79 : decode cX10_about 79 = .ok (.aload_n 0, 1) := by decide +kernel
theorem dX10_about_80 : decode cX10_about 80 = .ok (.getfield 154, 3) := by decide +kernel
theorem dX10_about_83 : decode cX10_about 83 = .ok (.ireturn, 1) := by decide +kernel
theorem dX10_about_84 : decode cX10_about 84 = .ok (.aload_n 0, 1) := by decide +kernel
theorem dX10_about_85 : decode cX10_about 85 = .ok (.getfield 388, 3) := by decide +kernel
theorem dX10_about_88 : decode cX10_about 88 = .ok (.ireturn, 1) := by decide +kernel
theorem dX10_about_89 : decode cX10_about 89 = .ok (.aload_n 0, 1) := by decide +kernel
theorem dX10_about_90 : decode cX10_about 90 = .ok (.getfield 391, 3) := by decide +kernel
theorem dX10_about_93 : decode cX10_about 93 = .ok (.ireturn, 1) := by decide +kernel
theorem dX10_about_94 : decode cX10_about 94 = .ok (.aload_n 0, 1) := by decide +kernel
theorem dX10_about_95 : decode cX10_about 95 = .ok (.getfield 305, 3) := by decide +kernel
theorem dX10_about_98 : decode cX10_about 98 = .ok (.ireturn, 1) := by decide +kernel
theorem dX10_about_99 : decode cX10_about 99 = .ok (.aload_n 0, 1) := by decide +kernel
theorem dX10_about_100 : decode cX10_about 100 = .ok (.getfield 421, 3) := by decide +kernel
theorem dX10_about_103 : decode cX10_about 103 = .ok (.ireturn, 1) := by decide +kernel
theorem dX10_about_104 : decode cX10_about 104 = .ok (.aload_n 0, 1) := by decide +kernel
theorem dX10_about_105 : decode cX10_about 105 = .ok (.getfield 157, 3) := by decide +kernel
theorem dX10_about_108 : decode cX10_about 108 = .ok (.ireturn, 1) := by decide +kernel
theorem dX10_about_109 : decode cX10_about 109 = .ok (.aload_n 0, 1) := by decide +kernel
theorem dX10_about_110 : decode cX10_about 110 = .ok (.getfield 308, 3) := by decide +kernel
theorem dX10_about_113 : decode cX10_about 113 = .ok (.ireturn, 1) := by decide +kernel
theorem dX10_about_114 : decode cX10_about 114 = .ok (.aload_n 0, 1) := by decide +kernel
theorem dX10_about_115 : decode cX10_about 115 = .ok (.bipush (-3), 2) := by decide +kernel
theorem dX10_about_117 : decode cX10_about 117 = .ok (.invokevirtual 440, 3) := by decide +kernel
theorem dX10_about_120 : decode cX10_about 120 = .ok (.ireturn, 1) := by decide +kernel
theorem dX10_about_121 : decode cX10_about 121 = .ok (.aload_n 0, 1) := by decide +kernel
theorem dX10_about_122 : decode cX10_about 122 = .ok (.bipush (-2), 2) := by decide +kernel
theorem dX10_about_124 : decode cX10_about 124 = .ok (.invokevirtual 440, 3) := by decide +kernel
theorem dX10_about_127 : decode cX10_about 127 = .ok (.ireturn, 1) := by decide +kernel
theorem dX10_about_128 : decode cX10_about 128 = .ok (.iconst (-1), 1) := by decide +kernel
theorem dX10_about_129 : decode cX10_about 129 = .ok (.ireturn, 1) := by decide +kernel
theorem dJ6_bitCount_0f7a4_0 : decode cJ6_bitCount_0f7a4 0 = .ok (.iload_n 0, 1) := by decide +kernel
theorem dJ6_bitCount_0f7a4_1 : decode cJ6_bitCount_0f7a4 1 = .ok (.iload_n 0, 1) := by decide +kernel
theorem dJ6_bitCount_0f7a4_2 : decode cJ6_bitCount_0f7a4 2 = .ok (.iconst 1, 1) := by decide +kernel
theorem dJ6_bitCount_0f7a4_3 : decode cJ6_bitCount_0f7a4 3 = .ok (.iushr, 1) := by decide +kernel
theorem dJ6_bitCount_0f7a4_4 : decode cJ6_bitCount_0f7a4 4 = .ok (.ldc_w 265, 3) := by decide +kernel
theorem dJ6_bitCount_0f7a4_7 : decode cJ6_bitCount_0f7a4 7 = .ok (.iand, 1) := by decide +kernel
theorem dJ6_bitCount_0f7a4_8 : decode cJ6_bitCount_0f7a4 8 = .ok (.isub, 1) := by decide +kernel
theorem dJ6_bitCount_0f7a4_9 : decode cJ6_bitCount_0f7a4 9 = .ok (.istore_n 0, 1) := by decide +kernel
theorem dJ6_bitCount_0f7a4_10 : decode cJ6_bitCount_0f7a4 10 = .ok (.iload_n 0, 1) := by decide +kernel
theorem dJ6_bitCount_0f7a4_11 : decode cJ6_bitCount_0f7a4 11 = .ok (.ldc_w 266, 3) := by decide +kernel
theorem dJ6_bitCount_0f7a4_14 : decode cJ6_bitCount_0f7a4 14 = .ok (.iand, 1) := by decide +kernel
theorem dJ6_bitCount_0f7a4_15 : decode cJ6_bitCount_0f7a4 15 = .ok (.iload_n 0, 1) := by decide +kernel
theorem dJ6_bitCount_0f7a4_16 : decode cJ6_bitCount_0f7a4 16 = .ok (.iconst 2, 1) := by decide +kernel
theorem dJ6_bitCount_0f7a4_17 : decode cJ6_bitCount_0f7a4 17 = .ok (.iushr, 1) := by decide +kernel
theorem dJ6_bitCount_0f7a4_18 : decode cJ6_bitCount_0f7a4 18 = .ok (.ldc_w 266, 3) := by decide +kernel
theorem dJ6_bitCount_0f7a4_21 : decode cJ6_bitCount_0f7a4 21 = .ok (.iand, 1) := by decide +kernel
theorem dJ6_bitCount_0f7a4_22 : decode cJ6_bitCount_0f7a4 22 = .ok (.iadd, 1) := by decide +kernel
theorem dJ6_bitCount_0f7a4_23 : decode cJ6_bitCount_0f7a4 23 = .ok (.istore_n 0, 1) := by decide +kernel
theorem dJ6_bitCount_0f7a4_24 : decode cJ6_bitCount_0f7a4 24 = .ok (.iload_n 0, 1) := by decide +kernel
theorem dJ6_bitCount_0f7a4_25 : decode cJ6_bitCount_0f7a4 25 = .ok (.iload_n 0, 1) := by decide +kernel
theorem dJ6_bitCount_0f7a4_26 : decode cJ6_bitCount_0f7a4 26 = .ok (.iconst 4, 1) := by decide +kernel
theorem dJ6_bitCount_0f7a4_27 : decode cJ6_bitCount_0f7a4 27 = .ok (.iushr, 1) := by decide +kernel
theorem dJ6_bitCount_0f7a4_28 : decode cJ6_bitCount_0f7a4 28 = .ok (.iadd, 1) := by decide +kernel
theorem dJ6_bitCount_0f7a4_29 : decode cJ6_bitCount_0f7a4 29 = .ok (.ldc_w 267, 3) := by decide +kernel
theorem dJ6_bitCount_0f7a4_32 : decode cJ6_bitCount_0f7a4 32 = .ok (.iand, 1) := by decide +kernel
theorem dJ6_bitCount_0f7a4_33 : decode cJ6_bitCount_0f7a4 33 = .ok (.istore_n 0, 1) := by decide +kernel
theorem dJ6_bitCount_0f7a4_34 : decode cJ6_bitCount_0f7a4 34 = .ok (.iload_n 0, 1) := by decide +kernel
theorem dJ6_bitCount_0f7a4_35 : decode cJ6_bitCount_0f7a4 35 = .ok (.iload_n 0, 1) := by decide +kernel
theorem dJ6_bitCount_0f7a4_36 : decode cJ6_bitCount_0f7a4 36 = .ok (.bipush 8, 2) := by decide +kernel
theorem dJ6_bitCount_0f7a4_38 : decode cJ6_bitCount_0f7a4 38 = .ok (.iushr, 1) := by decide +kernel
theorem dJ6_bitCount_0f7a4_39 : decode cJ6_bitCount_0f7a4 39 = .ok (.iadd, 1) := by decide +kernel
theorem dJ6_bitCount_0f7a4_40 : decode cJ6_bitCount_0f7a4 40 = .ok (.istore_n 0, 1) := by decide +kernel
theorem dJ6_bitCount_0f7a4_41 : decode cJ6_bitCount_0f7a4 41 = .ok (.iload_n 0, 1) := by decide +kernel
theorem dJ6_bitCount_0f7a4_42 : decode cJ6_bitCount_0f7a4 42 = .ok (.iload_n 0, 1) := by decide +kernel
theorem dJ6_bitCount_0f7a4_43 : decode cJ6_bitCount_0f7a4 43 = .ok (.bipush 16, 2) := by decide +kernel
theorem dJ6_bitCount_0f7a4_45 : decode cJ6_bitCount_0f7a4 45 = .ok (.iushr, 1) := by decide +kernel
theorem dJ6_bitCount_0f7a4_46 : decode cJ6_bitCount_0f7a4 46 = .ok (.iadd, 1) := by decide +kernel
theorem dJ6_bitCount_0f7a4_47 : decode cJ6_bitCount_0f7a4 47 = .ok (.istore_n 0, 1) := by decide +kernel
theorem dJ6_bitCount_0f7a4_48 : decode cJ6_bitCount_0f7a4 48 = .ok (.iload_n 0, 1) := by decide +kernel
theorem dJ6_bitCount_0f7a4_49 : decode cJ6_bitCount_0f7a4 49 = .ok (.bipush 63, 2) := by decide +kernel
theorem dJ6_bitCount_0f7a4_51 : decode cJ6_bitCount_0f7a4 51 = .ok (.iand, 1) := by decide +kernel
theorem dJ6_bitCount_0f7a4_52 : decode cJ6_bitCount_0f7a4 52 = .ok (.ireturn, 1) := by decide +kernel
theorem dJ9_min_7cf53_0 : decode cJ9_min_7cf53 0 = .ok (.iload_n 0, 1) := by decide +kernel
theorem dJ9_min_7cf53_1 : decode cJ9_min_7cf53 1 = .ok (.iload_n 1, 1) := by decide +kernel
theorem dJ9_min_7cf53_2 : decode cJ9_min_7cf53 2 = .ok (.if_icmp .gt 7, 3) := by decide +kernel
theorem dJ9_min_7cf53_5 : decode cJ9_min_7cf53 5 = .ok (.iload_n 0, 1) := by decide +kernel
theorem dJ9_min_7cf53_6 : decode cJ9_min_7cf53 6 = .ok (.goto 4, 3) := by decide +kernel
theorem dJ9_min_7cf53_9 : decode cJ9_min_7cf53 9 = .ok (.iload_n 1, 1) := by decide +kernel
theorem dJ9_min_7cf53_10 : decode cJ9_min_7cf53 10 = .ok (.ireturn, 1) := by decide +kernel
theorem dJ9_min_f86c9_0 : decode cJ9_min_f86c9 0 = .ok (.lload_n 0, 1) := by decide +kernel
theorem dJ9_min_f86c9_1 : decode cJ9_min_f86c9 1 = .ok (.lload_n 2, 1) := by decide +kernel
theorem dJ9_min_f86c9_2 : decode cJ9_min_f86c9 2 = .ok (.lcmp, 1) := by decide +kernel
theorem dJ9_min_f86c9_3 : decode cJ9_min_f86c9 3 = .ok (.ifCond .gt 7, 3) := by decide +kernel
theorem dJ9_min_f86c9_6 : decode cJ9_min_f86c9 6 = .ok (.lload_n 0, 1) := by decide +kernel
theorem dJ9_min_f86c9_7 : decode cJ9_min_f86c9 7 = .ok (.goto 4, 3) := by decide +kernel
theorem dJ9_min_f86c9_10 : decode cJ9_min_f86c9 10 = .ok (.lload_n 2, 1) := by decide +kernel
theorem dJ9_min_f86c9_11 : decode cJ9_min_f86c9 11 = .ok (.lreturn, 1) := by decide +kernel
theorem dJ7_fill_d0a16_0 : decode cJ7_fill_d0a16 0 = .ok (.iconst 0, 1) := by decide +kernel
theorem dJ7_fill_d0a16_1 : decode cJ7_fill_d0a16 1 = .ok (.istore_n 3, 1) := by decide +kernel
theorem dJ7_fill_d0a16_2 : decode cJ7_fill_d0a16 2 = .ok (.aload_n 0, 1) := by decide +kernel
theorem dJ7_fill_d0a16_3 : decode cJ7_fill_d0a16 3 = .ok (.arraylength, 1) := by decide +kernel
theorem dJ7_fill_d0a16_4 : decode cJ7_fill_d0a16 4 = .ok (.istore 4, 2) := by decide +kernel
theorem dJ7_fill_d0a16_6 : decode cJ7_fill_d0a16 6 = .ok (.iload_n 3, 1) := by decide +kernel
theorem dJ7_fill_d0a16_7 : decode cJ7_fill_d0a16 7 = .ok (.iload 4, 2) := by decide +kernel
theorem dJ7_fill_d0a16_9 : decode cJ7_fill_d0a16 9 = .ok (.if_icmp .ge 13, 3) := by decide +kernel
theorem dJ7_fill_d0a16_12 : decode cJ7_fill_d0a16 12 = .ok (.aload_n 0, 1) := by decide +kernel
theorem dJ7_fill_d0a16_13 : decode cJ7_fill_d0a16 13 = .ok (.iload_n 3, 1) := by decide +kernel
theorem dJ7_fill_d0a16_14 : decode cJ7_fill_d0a16 14 = .ok (.lload_n 1, 1) := by decide +kernel
theorem dJ7_fill_d0a16_15 : decode cJ7_fill_d0a16 15 = .ok (.lastore, 1) := by decide +kernel
theorem dJ7_fill_d0a16_16 : decode cJ7_fill_d0a16 16 = .ok (.iinc 3 1, 3) := by decide +kernel
theorem dJ7_fill_d0a16_19 : decode cJ7_fill_d0a16 19 = .ok (.goto (-13), 3) := by decide +kernel
theorem dJ7_fill_d0a16_22 : decode cJ7_fill_d0a16 22 = .ok (.return_, 1) := by decide +kernel
theorem dJ7_fill_53178_0 : decode cJ7_fill_53178 0 = .ok (.iconst 0, 1) := by decide +kernel
theorem dJ7_fill_53178_1 : decode cJ7_fill_53178 1 = .ok (.istore_n 2, 1) := by decide +kernel
theorem dJ7_fill_53178_2 : decode cJ7_fill_53178 2 = .ok (.aload_n 0, 1) := by decide +kernel
theorem dJ7_fill_53178_3 : decode cJ7_fill_53178 3 = .ok (.arraylength, 1) := by decide +kernel
theorem dJ7_fill_53178_4 : decode cJ7_fill_53178 4 = .ok (.istore_n 3, 1) := by decide +kernel
theorem dJ7_fill_53178_5 : decode cJ7_fill_53178 5 = .ok (.iload_n 2, 1) := by decide +kernel
theorem dJ7_fill_53178_6 : decode cJ7_fill_53178 6 = .ok (.iload_n 3, 1) := by decide +kernel
theorem dJ7_fill_53178_7 : decode cJ7_fill_53178 7 = .ok (.if_icmp .ge 13, 3) := by decide +kernel
theorem dJ7_fill_53178_10 : decode cJ7_fill_53178 10 = .ok (.aload_n 0, 1) := by decide +kernel
theorem dJ7_fill_53178_11 : decode cJ7_fill_53178 11 = .ok (.iload_n 2, 1) := by decide +kernel
theorem dJ7_fill_53178_12 : decode cJ7_fill_53178 12 = .ok (.iload_n 1, 1) := by decide +kernel
theorem dJ7_fill_53178_13 : decode cJ7_fill_53178 13 = .ok (.iastore, 1) := by decide +kernel
theorem dJ7_fill_53178_14 : decode cJ7_fill_53178 14 = .ok (.iinc 2 1, 3) := by decide +kernel
theorem dJ7_fill_53178_17 : decode cJ7_fill_53178 17 = .ok (.goto (-12), 3) := by decide +kernel
theorem dJ7_fill_53178_20 : decode cJ7_fill_53178 20 = .ok (.return_, 1) := by decide +kernel
theorem dL_law_0 : decode cL_law 0 = .ok (.new 7, 3) := by decide +kernel
theorem dL_law_3 : decode cL_law 3 = .ok (.dup, 1) := by decide +kernel
theorem dL_law_4 : decode cL_law 4 = .ok (.invokespecial 9, 3) := by decide +kernel
theorem dL_law_7 : decode cL_law 7 = .ok (.astore_n 1, 1) := by decide +kernel
theorem dL_law_8 : decode cL_law 8 = .ok (.new 10, 3) := by decide +kernel
theorem dL_law_11 : decode cL_law 11 = .ok (.dup, 1) := by decide +kernel
theorem dL_law_12 : decode cL_law 12 = .ok (.invokespecial 12, 3) := by decide +kernel
theorem dL_law_15 : decode cL_law 15 = .ok (.astore_n 2, 1) := by decide +kernel
theorem dL_law_16 : decode cL_law 16 = .ok (.iconst 0, 1) := by decide +kernel
theorem dL_law_17 : decode cL_law 17 = .ok (.istore_n 3, 1) := by decide +kernel
theorem dL_law_18 : decode cL_law 18 = .ok (.iload_n 3, 1) := by decide +kernel
theorem dL_law_19 : decode cL_law 19 = .ok (.aload_n 0, 1) := by decide +kernel
theorem dL_law_20 : decode cL_law 20 = .ok (.arraylength, 1) := by decide +kernel
theorem dL_law_21 : decode cL_law 21 = .ok (.bipush 6, 2) := by decide +kernel
theorem dL_law_23 : decode cL_law 23 = .ok (.isub, 1) := by decide +kernel
theorem dL_law_24 : decode cL_law 24 = .ok (.if_icmp .gt 884, 3) := by decide +kernel
theorem dL_law_27 : decode cL_law 27 = .ok (.aload_n 0, 1) := by decide +kernel
theorem dL_law_28 : decode cL_law 28 = .ok (.iload_n 3, 1) := by decide +kernel
theorem dL_law_29 : decode cL_law 29 = .ok (.iaload, 1) := by decide +kernel
theorem dL_law_30 : decode cL_law 30 = .ok (.bipush 31, 2) := by decide +kernel
theorem dL_law_32 : decode cL_law 32 = .ok (.iand, 1) := by decide +kernel
theorem dL_law_33 : decode cL_law 33 = .ok (.tableswitch 869 0 28 #[131, 194, 217, 230, 253, 276, 289, 313, 326, 349, 362, 375, 418, 441, 454, 477, 500, 543, 576, 609, 622, 655, 688, 711, 734, 767, 800, 823, 846], 131) := by decide +kernel
theorem dL_law_164 : decode cL_law 164 = .ok (.aload_n 1, 1) := by decide +kernel
theorem dL_law_165 : decode cL_law 165 = .ok (.aload_n 0, 1) := by decide +kernel
theorem dL_law_166 : decode cL_law 166 = .ok (.iload_n 3, 1) := by decide +kernel
theorem dL_law_167 : decode cL_law 167 = .ok (.iconst 1, 1) := by decide +kernel
theorem dL_law_168 : decode cL_law 168 = .ok (.iadd, 1) := by decide +kernel
theorem dL_law_169 : decode cL_law 169 = .ok (.iaload, 1) := by decide +kernel
theorem dL_law_170 : decode cL_law 170 = .ok (.aload_n 0, 1) := by decide +kernel
theorem dL_law_171 : decode cL_law 171 = .ok (.iload_n 3, 1) := by decide +kernel
theorem dL_law_172 : decode cL_law 172 = .ok (.iconst 2, 1) := by decide +kernel
theorem dL_law_173 : decode cL_law 173 = .ok (.iadd, 1) := by decide +kernel
theorem dL_law_174 : decode cL_law 174 = .ok (.iaload, 1) := by decide +kernel
theorem dL_law_175 : decode cL_law 175 = .ok (.aload_n 0, 1) := by decide +kernel
theorem dL_law_176 : decode cL_law 176 = .ok (.iload_n 3, 1) := by decide +kernel
theorem dL_law_177 : decode cL_law 177 = .ok (.iconst 3, 1) := by decide +kernel
theorem dL_law_178 : decode cL_law 178 = .ok (.iadd, 1) := by decide +kernel
theorem dL_law_179 : decode cL_law 179 = .ok (.iaload, 1) := by decide +kernel
theorem dL_law_180 : decode cL_law 180 = .ok (.aload_n 0, 1) := by decide +kernel
theorem dL_law_181 : decode cL_law 181 = .ok (.iload_n 3, 1) := by decide +kernel
theorem dL_law_182 : decode cL_law 182 = .ok (.iconst 4, 1) := by decide +kernel
theorem dL_law_183 : decode cL_law 183 = .ok (.iadd, 1) := by decide +kernel
theorem dL_law_184 : decode cL_law 184 = .ok (.iaload, 1) := by decide +kernel
theorem dL_law_185 : decode cL_law 185 = .ok (.aload_n 0, 1) := by decide +kernel
theorem dL_law_186 : decode cL_law 186 = .ok (.iload_n 3, 1) := by decide +kernel
theorem dL_law_187 : decode cL_law 187 = .ok (.iconst 5, 1) := by decide +kernel
theorem dL_law_188 : decode cL_law 188 = .ok (.iadd, 1) := by decide +kernel
theorem dL_law_189 : decode cL_law 189 = .ok (.iaload, 1) := by decide +kernel
theorem dL_law_190 : decode cL_law 190 = .ok (.invokevirtual 13, 3) := by decide +kernel
theorem dL_law_193 : decode cL_law 193 = .ok (.aload_n 2, 1) := by decide +kernel
theorem dL_law_194 : decode cL_law 194 = .ok (.aload_n 0, 1) := by decide +kernel
theorem dL_law_195 : decode cL_law 195 = .ok (.iload_n 3, 1) := by decide +kernel
theorem dL_law_196 : decode cL_law 196 = .ok (.iconst 1, 1) := by decide +kernel
theorem dL_law_197 : decode cL_law 197 = .ok (.iadd, 1) := by decide +kernel
theorem dL_law_198 : decode cL_law 198 = .ok (.iaload, 1) := by decide +kernel
theorem dL_law_199 : decode cL_law 199 = .ok (.aload_n 0, 1) := by decide +kernel
theorem dL_law_200 : decode cL_law 200 = .ok (.iload_n 3, 1) := by decide +kernel
theorem dL_law_201 : decode cL_law 201 = .ok (.iconst 2, 1) := by decide +kernel
theorem dL_law_202 : decode cL_law 202 = .ok (.iadd, 1) := by decide +kernel
theorem dL_law_203 : decode cL_law 203 = .ok (.iaload, 1) := by decide +kernel
theorem dL_law_204 : decode cL_law 204 = .ok (.aload_n 0, 1) := by decide +kernel
theorem dL_law_205 : decode cL_law 205 = .ok (.iload_n 3, 1) := by decide +kernel
theorem dL_law_206 : decode cL_law 206 = .ok (.iconst 3, 1) := by decide +kernel
theorem dL_law_207 : decode cL_law 207 = .ok (.iadd, 1) := by decide +kernel
theorem dL_law_208 : decode cL_law 208 = .ok (.iaload, 1) := by decide +kernel
theorem dL_law_209 : decode cL_law 209 = .ok (.aload_n 0, 1) := by decide +kernel
theorem dL_law_210 : decode cL_law 210 = .ok (.iload_n 3, 1) := by decide +kernel
theorem dL_law_211 : decode cL_law 211 = .ok (.iconst 4, 1) := by decide +kernel
theorem dL_law_212 : decode cL_law 212 = .ok (.iadd, 1) := by decide +kernel
theorem dL_law_213 : decode cL_law 213 = .ok (.iaload, 1) := by decide +kernel
theorem dL_law_214 : decode cL_law 214 = .ok (.aload_n 0, 1) := by decide +kernel
theorem dL_law_215 : decode cL_law 215 = .ok (.iload_n 3, 1) := by decide +kernel
theorem dL_law_216 : decode cL_law 216 = .ok (.iconst 5, 1) := by decide +kernel
theorem dL_law_217 : decode cL_law 217 = .ok (.iadd, 1) := by decide +kernel
theorem dL_law_218 : decode cL_law 218 = .ok (.iaload, 1) := by decide +kernel
theorem dL_law_219 : decode cL_law 219 = .ok (.invokevirtual 17, 3) := by decide +kernel
theorem dL_law_222 : decode cL_law 222 = .ok (.if_icmp .eq 680, 3) := by decide +kernel
theorem dL_law_225 : decode cL_law 225 = .ok (.iconst 0, 1) := by decide +kernel
theorem dL_law_226 : decode cL_law 226 = .ok (.ireturn, 1) := by decide +kernel
theorem dL_law_227 : decode cL_law 227 = .ok (.aload_n 1, 1) := by decide +kernel
theorem dL_law_228 : decode cL_law 228 = .ok (.aload_n 0, 1) := by decide +kernel
theorem dL_law_229 : decode cL_law 229 = .ok (.iload_n 3, 1) := by decide +kernel
theorem dL_law_230 : decode cL_law 230 = .ok (.iconst 1, 1) := by decide +kernel
theorem dL_law_231 : decode cL_law 231 = .ok (.iadd, 1) := by decide +kernel
theorem dL_law_232 : decode cL_law 232 = .ok (.iaload, 1) := by decide +kernel
theorem dL_law_233 : decode cL_law 233 = .ok (.invokevirtual 18, 3) := by decide +kernel
theorem dL_law_236 : decode cL_law 236 = .ok (.aload_n 2, 1) := by decide +kernel
theorem dL_law_237 : decode cL_law 237 = .ok (.aload_n 0, 1) := by decide +kernel
theorem dL_law_238 : decode cL_law 238 = .ok (.iload_n 3, 1) := by decide +kernel
theorem dL_law_239 : decode cL_law 239 = .ok (.iconst 1, 1) := by decide +kernel
theorem dL_law_240 : decode cL_law 240 = .ok (.iadd, 1) := by decide +kernel
theorem dL_law_241 : decode cL_law 241 = .ok (.iaload, 1) := by decide +kernel
theorem dL_law_242 : decode cL_law 242 = .ok (.invokevirtual 22, 3) := by decide +kernel
theorem dL_law_245 : decode cL_law 245 = .ok (.if_icmp .eq 657, 3) := by decide +kernel
theorem dL_law_248 : decode cL_law 248 = .ok (.iconst 0, 1) := by decide +kernel
theorem dL_law_249 : decode cL_law 249 = .ok (.ireturn, 1) := by decide +kernel
theorem dL_law_250 : decode cL_law 250 = .ok (.aload_n 1, 1) := by decide +kernel
theorem dL_law_251 : decode cL_law 251 = .ok (.invokevirtual 23, 3) := by decide +kernel
theorem dL_law_254 : decode cL_law 254 = .ok (.aload_n 2, 1) := by decide +kernel
theorem dL_law_255 : decode cL_law 255 = .ok (.invokevirtual 27, 3) := by decide +kernel
theorem dL_law_258 : decode cL_law 258 = .ok (.if_icmp .eq 644, 3) := by decide +kernel
theorem dL_law_261 : decode cL_law 261 = .ok (.iconst 0, 1) := by decide +kernel
theorem dL_law_262 : decode cL_law 262 = .ok (.ireturn, 1) := by decide +kernel
theorem dL_law_263 : decode cL_law 263 = .ok (.aload_n 1, 1) := by decide +kernel
theorem dL_law_264 : decode cL_law 264 = .ok (.aload_n 0, 1) := by decide +kernel
theorem dL_law_265 : decode cL_law 265 = .ok (.iload_n 3, 1) := by decide +kernel
theorem dL_law_266 : decode cL_law 266 = .ok (.iconst 1, 1) := by decide +kernel
theorem dL_law_267 : decode cL_law 267 = .ok (.iadd, 1) := by decide +kernel
theorem dL_law_268 : decode cL_law 268 = .ok (.iaload, 1) := by decide +kernel
theorem dL_law_269 : decode cL_law 269 = .ok (.invokevirtual 28, 3) := by decide +kernel
theorem dL_law_272 : decode cL_law 272 = .ok (.aload_n 2, 1) := by decide +kernel
theorem dL_law_273 : decode cL_law 273 = .ok (.aload_n 0, 1) := by decide +kernel
theorem dL_law_274 : decode cL_law 274 = .ok (.iload_n 3, 1) := by decide +kernel
theorem dL_law_275 : decode cL_law 275 = .ok (.iconst 1, 1) := by decide +kernel
theorem dL_law_276 : decode cL_law 276 = .ok (.iadd, 1) := by decide +kernel
theorem dL_law_277 : decode cL_law 277 = .ok (.iaload, 1) := by decide +kernel
theorem dL_law_278 : decode cL_law 278 = .ok (.invokevirtual 31, 3) := by decide +kernel
theorem dL_law_281 : decode cL_law 281 = .ok (.if_icmp .eq 621, 3) := by decide +kernel
theorem dL_law_284 : decode cL_law 284 = .ok (.iconst 0, 1) := by decide +kernel
theorem dL_law_285 : decode cL_law 285 = .ok (.ireturn, 1) := by decide +kernel
theorem dL_law_286 : decode cL_law 286 = .ok (.aload_n 1, 1) := by decide +kernel
theorem dL_law_287 : decode cL_law 287 = .ok (.aload_n 0, 1) := by decide +kernel
theorem dL_law_288 : decode cL_law 288 = .ok (.iload_n 3, 1) := by decide +kernel
theorem dL_law_289 : decode cL_law 289 = .ok (.iconst 1, 1) := by decide +kernel
theorem dL_law_290 : decode cL_law 290 = .ok (.iadd, 1) := by decide +kernel
theorem dL_law_291 : decode cL_law 291 = .ok (.iaload, 1) := by decide +kernel
theorem dL_law_292 : decode cL_law 292 = .ok (.invokevirtual 32, 3) := by decide +kernel
theorem dL_law_295 : decode cL_law 295 = .ok (.aload_n 2, 1) := by decide +kernel
theorem dL_law_296 : decode cL_law 296 = .ok (.aload_n 0, 1) := by decide +kernel
theorem dL_law_297 : decode cL_law 297 = .ok (.iload_n 3, 1) := by decide +kernel
theorem dL_law_298 : decode cL_law 298 = .ok (.iconst 1, 1) := by decide +kernel
theorem dL_law_299 : decode cL_law 299 = .ok (.iadd, 1) := by decide +kernel
theorem dL_law_300 : decode cL_law 300 = .ok (.iaload, 1) := by decide +kernel
theorem dL_law_301 : decode cL_law 301 = .ok (.invokevirtual 35, 3) := by decide +kernel
theorem dL_law_304 : decode cL_law 304 = .ok (.if_icmp .eq 598, 3) := by decide +kernel
theorem dL_law_307 : decode cL_law 307 = .ok (.iconst 0, 1) := by decide +kernel
theorem dL_law_308 : decode cL_law 308 = .ok (.ireturn, 1) := by decide +kernel
theorem dL_law_309 : decode cL_law 309 = .ok (.aload_n 1, 1) := by decide +kernel
theorem dL_law_310 : decode cL_law 310 = .ok (.invokevirtual 36, 3) := by decide +kernel
theorem dL_law_313 : decode cL_law 313 = .ok (.aload_n 2, 1) := by decide +kernel
theorem dL_law_314 : decode cL_law 314 = .ok (.invokevirtual 39, 3) := by decide +kernel
theorem dL_law_317 : decode cL_law 317 = .ok (.if_icmp .eq 585, 3) := by decide +kernel
theorem dL_law_320 : decode cL_law 320 = .ok (.iconst 0, 1) := by decide +kernel
theorem dL_law_321 : decode cL_law 321 = .ok (.ireturn, 1) := by decide +kernel
theorem dL_law_322 : decode cL_law 322 = .ok (.aload_n 1, 1) := by decide +kernel
theorem dL_law_323 : decode cL_law 323 = .ok (.aload_n 0, 1) := by decide +kernel
theorem dL_law_324 : decode cL_law 324 = .ok (.iload_n 3, 1) := by decide +kernel
theorem dL_law_325 : decode cL_law 325 = .ok (.iconst 1, 1) := by decide +kernel
theorem dL_law_326 : decode cL_law 326 = .ok (.iadd, 1) := by decide +kernel
theorem dL_law_327 : decode cL_law 327 = .ok (.iaload, 1) := by decide +kernel
theorem dL_law_328 : decode cL_law 328 = .ok (.invokevirtual 40, 3) := by decide +kernel
theorem dL_law_331 : decode cL_law 331 = .ok (.aload_n 2, 1) := by decide +kernel
theorem dL_law_332 : decode cL_law 332 = .ok (.aload_n 0, 1) := by decide +kernel
theorem dL_law_333 : decode cL_law 333 = .ok (.iload_n 3, 1) := by decide +kernel
theorem dL_law_334 : decode cL_law 334 = .ok (.iconst 1, 1) := by decide +kernel
theorem dL_law_335 : decode cL_law 335 = .ok (.iadd, 1) := by decide +kernel
theorem dL_law_336 : decode cL_law 336 = .ok (.iaload, 1) := by decide +kernel
theorem dL_law_337 : decode cL_law 337 = .ok (.invokevirtual 44, 3) := by decide +kernel
theorem dL_law_340 : decode cL_law 340 = .ok (.lcmp, 1) := by decide +kernel
theorem dL_law_341 : decode cL_law 341 = .ok (.ifCond .eq 561, 3) := by decide +kernel
theorem dL_law_344 : decode cL_law 344 = .ok (.iconst 0, 1) := by decide +kernel
theorem dL_law_345 : decode cL_law 345 = .ok (.ireturn, 1) := by decide +kernel
theorem dL_law_346 : decode cL_law 346 = .ok (.aload_n 1, 1) := by decide +kernel
theorem dL_law_347 : decode cL_law 347 = .ok (.invokevirtual 45, 3) := by decide +kernel
theorem dL_law_350 : decode cL_law 350 = .ok (.aload_n 2, 1) := by decide +kernel
theorem dL_law_351 : decode cL_law 351 = .ok (.invokevirtual 48, 3) := by decide +kernel
theorem dL_law_354 : decode cL_law 354 = .ok (.if_icmp .eq 548, 3) := by decide +kernel
theorem dL_law_357 : decode cL_law 357 = .ok (.iconst 0, 1) := by decide +kernel
theorem dL_law_358 : decode cL_law 358 = .ok (.ireturn, 1) := by decide +kernel
theorem dL_law_359 : decode cL_law 359 = .ok (.aload_n 1, 1) := by decide +kernel
theorem dL_law_360 : decode cL_law 360 = .ok (.aload_n 0, 1) := by decide +kernel
theorem dL_law_361 : decode cL_law 361 = .ok (.iload_n 3, 1) := by decide +kernel
theorem dL_law_362 : decode cL_law 362 = .ok (.iconst 1, 1) := by decide +kernel
theorem dL_law_363 : decode cL_law 363 = .ok (.iadd, 1) := by decide +kernel
theorem dL_law_364 : decode cL_law 364 = .ok (.iaload, 1) := by decide +kernel
theorem dL_law_365 : decode cL_law 365 = .ok (.invokevirtual 49, 3) := by decide +kernel
theorem dL_law_368 : decode cL_law 368 = .ok (.aload_n 2, 1) := by decide +kernel
theorem dL_law_369 : decode cL_law 369 = .ok (.aload_n 0, 1) := by decide +kernel
theorem dL_law_370 : decode cL_law 370 = .ok (.iload_n 3, 1) := by decide +kernel
theorem dL_law_371 : decode cL_law 371 = .ok (.iconst 1, 1) := by decide +kernel
theorem dL_law_372 : decode cL_law 372 = .ok (.iadd, 1) := by decide +kernel
theorem dL_law_373 : decode cL_law 373 = .ok (.iaload, 1) := by decide +kernel
theorem dL_law_374 : decode cL_law 374 = .ok (.invokevirtual 52, 3) := by decide +kernel
theorem dL_law_377 : decode cL_law 377 = .ok (.if_icmp .eq 525, 3) := by decide +kernel
theorem dL_law_380 : decode cL_law 380 = .ok (.iconst 0, 1) := by decide +kernel
theorem dL_law_381 : decode cL_law 381 = .ok (.ireturn, 1) := by decide +kernel
theorem dL_law_382 : decode cL_law 382 = .ok (.aload_n 1, 1) := by decide +kernel
theorem dL_law_383 : decode cL_law 383 = .ok (.invokevirtual 53, 3) := by decide +kernel
theorem dL_law_386 : decode cL_law 386 = .ok (.aload_n 2, 1) := by decide +kernel
theorem dL_law_387 : decode cL_law 387 = .ok (.invokevirtual 56, 3) := by decide +kernel
theorem dL_law_390 : decode cL_law 390 = .ok (.if_icmp .eq 512, 3) := by decide +kernel
theorem dL_law_393 : decode cL_law 393 = .ok (.iconst 0, 1) := by decide +kernel
theorem dL_law_394 : decode cL_law 394 = .ok (.ireturn, 1) := by decide +kernel
theorem dL_law_395 : decode cL_law 395 = .ok (.aload_n 1, 1) := by decide +kernel
theorem dL_law_396 : decode cL_law 396 = .ok (.invokevirtual 57, 3) := by decide +kernel
theorem dL_law_399 : decode cL_law 399 = .ok (.aload_n 2, 1) := by decide +kernel
theorem dL_law_400 : decode cL_law 400 = .ok (.invokevirtual 60, 3) := by decide +kernel
theorem dL_law_403 : decode cL_law 403 = .ok (.if_icmp .eq 499, 3) := by decide +kernel
theorem dL_law_406 : decode cL_law 406 = .ok (.iconst 0, 1) := by decide +kernel
theorem dL_law_407 : decode cL_law 407 = .ok (.ireturn, 1) := by decide +kernel
theorem dL_law_408 : decode cL_law 408 = .ok (.aload_n 1, 1) := by decide +kernel
theorem dL_law_409 : decode cL_law 409 = .ok (.aload_n 0, 1) := by decide +kernel
theorem dL_law_410 : decode cL_law 410 = .ok (.iload_n 3, 1) := by decide +kernel
theorem dL_law_411 : decode cL_law 411 = .ok (.iconst 1, 1) := by decide +kernel
theorem dL_law_412 : decode cL_law 412 = .ok (.iadd, 1) := by decide +kernel
theorem dL_law_413 : decode cL_law 413 = .ok (.iaload, 1) := by decide +kernel
theorem dL_law_414 : decode cL_law 414 = .ok (.aload_n 0, 1) := by decide +kernel
theorem dL_law_415 : decode cL_law 415 = .ok (.iload_n 3, 1) := by decide +kernel
theorem dL_law_416 : decode cL_law 416 = .ok (.iconst 2, 1) := by decide +kernel
theorem dL_law_417 : decode cL_law 417 = .ok (.iadd, 1) := by decide +kernel
theorem dL_law_418 : decode cL_law 418 = .ok (.iaload, 1) := by decide +kernel
theorem dL_law_419 : decode cL_law 419 = .ok (.aload_n 0, 1) := by decide +kernel
theorem dL_law_420 : decode cL_law 420 = .ok (.iload_n 3, 1) := by decide +kernel
theorem dL_law_421 : decode cL_law 421 = .ok (.iconst 3, 1) := by decide +kernel
theorem dL_law_422 : decode cL_law 422 = .ok (.iadd, 1) := by decide +kernel
theorem dL_law_423 : decode cL_law 423 = .ok (.iaload, 1) := by decide +kernel
theorem dL_law_424 : decode cL_law 424 = .ok (.invokevirtual 61, 3) := by decide +kernel
theorem dL_law_427 : decode cL_law 427 = .ok (.aload_n 2, 1) := by decide +kernel
theorem dL_law_428 : decode cL_law 428 = .ok (.aload_n 0, 1) := by decide +kernel
theorem dL_law_429 : decode cL_law 429 = .ok (.iload_n 3, 1) := by decide +kernel
theorem dL_law_430 : decode cL_law 430 = .ok (.iconst 1, 1) := by decide +kernel
theorem dL_law_431 : decode cL_law 431 = .ok (.iadd, 1) := by decide +kernel
theorem dL_law_432 : decode cL_law 432 = .ok (.iaload, 1) := by decide +kernel
theorem dL_law_433 : decode cL_law 433 = .ok (.aload_n 0, 1) := by decide +kernel
theorem dL_law_434 : decode cL_law 434 = .ok (.iload_n 3, 1) := by decide +kernel
theorem dL_law_435 : decode cL_law 435 = .ok (.iconst 2, 1) := by decide +kernel
theorem dL_law_436 : decode cL_law 436 = .ok (.iadd, 1) := by decide +kernel
theorem dL_law_437 : decode cL_law 437 = .ok (.iaload, 1) := by decide +kernel
theorem dL_law_438 : decode cL_law 438 = .ok (.aload_n 0, 1) := by decide +kernel
theorem dL_law_439 : decode cL_law 439 = .ok (.iload_n 3, 1) := by decide +kernel
theorem dL_law_440 : decode cL_law 440 = .ok (.iconst 3, 1) := by decide +kernel
theorem dL_law_441 : decode cL_law 441 = .ok (.iadd, 1) := by decide +kernel
theorem dL_law_442 : decode cL_law 442 = .ok (.iaload, 1) := by decide +kernel
theorem dL_law_443 : decode cL_law 443 = .ok (.invokevirtual 65, 3) := by decide +kernel
theorem dL_law_446 : decode cL_law 446 = .ok (.if_icmp .eq 456, 3) := by decide +kernel
theorem dL_law_449 : decode cL_law 449 = .ok (.iconst 0, 1) := by decide +kernel
theorem dL_law_450 : decode cL_law 450 = .ok (.ireturn, 1) := by decide +kernel
theorem dL_law_451 : decode cL_law 451 = .ok (.aload_n 1, 1) := by decide +kernel
theorem dL_law_452 : decode cL_law 452 = .ok (.aload_n 0, 1) := by decide +kernel
theorem dL_law_453 : decode cL_law 453 = .ok (.iload_n 3, 1) := by decide +kernel
theorem dL_law_454 : decode cL_law 454 = .ok (.iconst 1, 1) := by decide +kernel
theorem dL_law_455 : decode cL_law 455 = .ok (.iadd, 1) := by decide +kernel
theorem dL_law_456 : decode cL_law 456 = .ok (.iaload, 1) := by decide +kernel
theorem dL_law_457 : decode cL_law 457 = .ok (.invokevirtual 66, 3) := by decide +kernel
theorem dL_law_460 : decode cL_law 460 = .ok (.aload_n 2, 1) := by decide +kernel
theorem dL_law_461 : decode cL_law 461 = .ok (.aload_n 0, 1) := by decide +kernel
theorem dL_law_462 : decode cL_law 462 = .ok (.iload_n 3, 1) := by decide +kernel
theorem dL_law_463 : decode cL_law 463 = .ok (.iconst 1, 1) := by decide +kernel
theorem dL_law_464 : decode cL_law 464 = .ok (.iadd, 1) := by decide +kernel
theorem dL_law_465 : decode cL_law 465 = .ok (.iaload, 1) := by decide +kernel
theorem dL_law_466 : decode cL_law 466 = .ok (.invokevirtual 69, 3) := by decide +kernel
theorem dL_law_469 : decode cL_law 469 = .ok (.if_icmp .eq 433, 3) := by decide +kernel
theorem dL_law_472 : decode cL_law 472 = .ok (.iconst 0, 1) := by decide +kernel
theorem dL_law_473 : decode cL_law 473 = .ok (.ireturn, 1) := by decide +kernel
theorem dL_law_474 : decode cL_law 474 = .ok (.aload_n 1, 1) := by decide +kernel
theorem dL_law_475 : decode cL_law 475 = .ok (.invokevirtual 70, 3) := by decide +kernel
theorem dL_law_478 : decode cL_law 478 = .ok (.aload_n 2, 1) := by decide +kernel
theorem dL_law_479 : decode cL_law 479 = .ok (.invokevirtual 73, 3) := by decide +kernel
theorem dL_law_482 : decode cL_law 482 = .ok (.if_icmp .eq 420, 3) := by decide +kernel
theorem dL_law_485 : decode cL_law 485 = .ok (.iconst 0, 1) := by decide +kernel
theorem dL_law_486 : decode cL_law 486 = .ok (.ireturn, 1) := by decide +kernel
theorem dL_law_487 : decode cL_law 487 = .ok (.aload_n 1, 1) := by decide +kernel
theorem dL_law_488 : decode cL_law 488 = .ok (.aload_n 0, 1) := by decide +kernel
theorem dL_law_489 : decode cL_law 489 = .ok (.iload_n 3, 1) := by decide +kernel
theorem dL_law_490 : decode cL_law 490 = .ok (.iconst 1, 1) := by decide +kernel
theorem dL_law_491 : decode cL_law 491 = .ok (.iadd, 1) := by decide +kernel
theorem dL_law_492 : decode cL_law 492 = .ok (.iaload, 1) := by decide +kernel
theorem dL_law_493 : decode cL_law 493 = .ok (.invokevirtual 74, 3) := by decide +kernel
theorem dL_law_496 : decode cL_law 496 = .ok (.aload_n 2, 1) := by decide +kernel
theorem dL_law_497 : decode cL_law 497 = .ok (.aload_n 0, 1) := by decide +kernel
theorem dL_law_498 : decode cL_law 498 = .ok (.iload_n 3, 1) := by decide +kernel
theorem dL_law_499 : decode cL_law 499 = .ok (.iconst 1, 1) := by decide +kernel
theorem dL_law_500 : decode cL_law 500 = .ok (.iadd, 1) := by decide +kernel
theorem dL_law_501 : decode cL_law 501 = .ok (.iaload, 1) := by decide +kernel
theorem dL_law_502 : decode cL_law 502 = .ok (.invokevirtual 77, 3) := by decide +kernel
theorem dL_law_505 : decode cL_law 505 = .ok (.if_icmp .eq 397, 3) := by decide +kernel
theorem dL_law_508 : decode cL_law 508 = .ok (.iconst 0, 1) := by decide +kernel
theorem dL_law_509 : decode cL_law 509 = .ok (.ireturn, 1) := by decide +kernel
theorem dL_law_510 : decode cL_law 510 = .ok (.aload_n 1, 1) := by decide +kernel
theorem dL_law_511 : decode cL_law 511 = .ok (.aload_n 0, 1) := by decide +kernel
theorem dL_law_512 : decode cL_law 512 = .ok (.iload_n 3, 1) := by decide +kernel
theorem dL_law_513 : decode cL_law 513 = .ok (.iconst 1, 1) := by decide +kernel
theorem dL_law_514 : decode cL_law 514 = .ok (.iadd, 1) := by decide +kernel
theorem dL_law_515 : decode cL_law 515 = .ok (.iaload, 1) := by decide +kernel
theorem dL_law_516 : decode cL_law 516 = .ok (.invokevirtual 78, 3) := by decide +kernel
theorem dL_law_519 : decode cL_law 519 = .ok (.aload_n 2, 1) := by decide +kernel
theorem dL_law_520 : decode cL_law 520 = .ok (.aload_n 0, 1) := by decide +kernel
theorem dL_law_521 : decode cL_law 521 = .ok (.iload_n 3, 1) := by decide +kernel
theorem dL_law_522 : decode cL_law 522 = .ok (.iconst 1, 1) := by decide +kernel
theorem dL_law_523 : decode cL_law 523 = .ok (.iadd, 1) := by decide +kernel
theorem dL_law_524 : decode cL_law 524 = .ok (.iaload, 1) := by decide +kernel
theorem dL_law_525 : decode cL_law 525 = .ok (.invokevirtual 81, 3) := by decide +kernel
theorem dL_law_528 : decode cL_law 528 = .ok (.if_icmp .eq 374, 3) := by decide +kernel
theorem dL_law_531 : decode cL_law 531 = .ok (.iconst 0, 1) := by decide +kernel
theorem dL_law_532 : decode cL_law 532 = .ok (.ireturn, 1) := by decide +kernel
theorem dL_law_533 : decode cL_law 533 = .ok (.aload_n 1, 1) := by decide +kernel
theorem dL_law_534 : decode cL_law 534 = .ok (.aload_n 0, 1) := by decide +kernel
theorem dL_law_535 : decode cL_law 535 = .ok (.iload_n 3, 1) := by decide +kernel
theorem dL_law_536 : decode cL_law 536 = .ok (.iconst 1, 1) := by decide +kernel
theorem dL_law_537 : decode cL_law 537 = .ok (.iadd, 1) := by decide +kernel
theorem dL_law_538 : decode cL_law 538 = .ok (.iaload, 1) := by decide +kernel
theorem dL_law_539 : decode cL_law 539 = .ok (.aload_n 0, 1) := by decide +kernel
theorem dL_law_540 : decode cL_law 540 = .ok (.iload_n 3, 1) := by decide +kernel
theorem dL_law_541 : decode cL_law 541 = .ok (.iconst 2, 1) := by decide +kernel
theorem dL_law_542 : decode cL_law 542 = .ok (.iadd, 1) := by decide +kernel
theorem dL_law_543 : decode cL_law 543 = .ok (.iaload, 1) := by decide +kernel
theorem dL_law_544 : decode cL_law 544 = .ok (.aload_n 0, 1) := by decide +kernel
theorem dL_law_545 : decode cL_law 545 = .ok (.iload_n 3, 1) := by decide +kernel
theorem dL_law_546 : decode cL_law 546 = .ok (.iconst 3, 1) := by decide +kernel
theorem dL_law_547 : decode cL_law 547 = .ok (.iadd, 1) := by decide +kernel
theorem dL_law_548 : decode cL_law 548 = .ok (.iaload, 1) := by decide +kernel
theorem dL_law_549 : decode cL_law 549 = .ok (.invokevirtual 82, 3) := by decide +kernel
theorem dL_law_552 : decode cL_law 552 = .ok (.aload_n 2, 1) := by decide +kernel
theorem dL_law_553 : decode cL_law 553 = .ok (.aload_n 0, 1) := by decide +kernel
theorem dL_law_554 : decode cL_law 554 = .ok (.iload_n 3, 1) := by decide +kernel
theorem dL_law_555 : decode cL_law 555 = .ok (.iconst 1, 1) := by decide +kernel
theorem dL_law_556 : decode cL_law 556 = .ok (.iadd, 1) := by decide +kernel
theorem dL_law_557 : decode cL_law 557 = .ok (.iaload, 1) := by decide +kernel
theorem dL_law_558 : decode cL_law 558 = .ok (.aload_n 0, 1) := by decide +kernel
theorem dL_law_559 : decode cL_law 559 = .ok (.iload_n 3, 1) := by decide +kernel
theorem dL_law_560 : decode cL_law 560 = .ok (.iconst 2, 1) := by decide +kernel
theorem dL_law_561 : decode cL_law 561 = .ok (.iadd, 1) := by decide +kernel
theorem dL_law_562 : decode cL_law 562 = .ok (.iaload, 1) := by decide +kernel
theorem dL_law_563 : decode cL_law 563 = .ok (.aload_n 0, 1) := by decide +kernel
theorem dL_law_564 : decode cL_law 564 = .ok (.iload_n 3, 1) := by decide +kernel
theorem dL_law_565 : decode cL_law 565 = .ok (.iconst 3, 1) := by decide +kernel
theorem dL_law_566 : decode cL_law 566 = .ok (.iadd, 1) := by decide +kernel
theorem dL_law_567 : decode cL_law 567 = .ok (.iaload, 1) := by decide +kernel
theorem dL_law_568 : decode cL_law 568 = .ok (.invokevirtual 86, 3) := by decide +kernel
theorem dL_law_571 : decode cL_law 571 = .ok (.if_icmp .eq 331, 3) := by decide +kernel
theorem dL_law_574 : decode cL_law 574 = .ok (.iconst 0, 1) := by decide +kernel
theorem dL_law_575 : decode cL_law 575 = .ok (.ireturn, 1) := by decide +kernel
theorem dL_law_576 : decode cL_law 576 = .ok (.aload_n 1, 1) := by decide +kernel
theorem dL_law_577 : decode cL_law 577 = .ok (.aload_n 0, 1) := by decide +kernel
theorem dL_law_578 : decode cL_law 578 = .ok (.iload_n 3, 1) := by decide +kernel
theorem dL_law_579 : decode cL_law 579 = .ok (.iconst 1, 1) := by decide +kernel
theorem dL_law_580 : decode cL_law 580 = .ok (.iadd, 1) := by decide +kernel
theorem dL_law_581 : decode cL_law 581 = .ok (.iaload, 1) := by decide +kernel
theorem dL_law_582 : decode cL_law 582 = .ok (.aload_n 0, 1) := by decide +kernel
theorem dL_law_583 : decode cL_law 583 = .ok (.iload_n 3, 1) := by decide +kernel
theorem dL_law_584 : decode cL_law 584 = .ok (.iconst 2, 1) := by decide +kernel
theorem dL_law_585 : decode cL_law 585 = .ok (.iadd, 1) := by decide +kernel
theorem dL_law_586 : decode cL_law 586 = .ok (.iaload, 1) := by decide +kernel
theorem dL_law_587 : decode cL_law 587 = .ok (.invokevirtual 87, 3) := by decide +kernel
theorem dL_law_590 : decode cL_law 590 = .ok (.aload_n 2, 1) := by decide +kernel
theorem dL_law_591 : decode cL_law 591 = .ok (.aload_n 0, 1) := by decide +kernel
theorem dL_law_592 : decode cL_law 592 = .ok (.iload_n 3, 1) := by decide +kernel
theorem dL_law_593 : decode cL_law 593 = .ok (.iconst 1, 1) := by decide +kernel
theorem dL_law_594 : decode cL_law 594 = .ok (.iadd, 1) := by decide +kernel
theorem dL_law_595 : decode cL_law 595 = .ok (.iaload, 1) := by decide +kernel
theorem dL_law_596 : decode cL_law 596 = .ok (.aload_n 0, 1) := by decide +kernel
theorem dL_law_597 : decode cL_law 597 = .ok (.iload_n 3, 1) := by decide +kernel
theorem dL_law_598 : decode cL_law 598 = .ok (.iconst 2, 1) := by decide +kernel
theorem dL_law_599 : decode cL_law 599 = .ok (.iadd, 1) := by decide +kernel
theorem dL_law_600 : decode cL_law 600 = .ok (.iaload, 1) := by decide +kernel
theorem dL_law_601 : decode cL_law 601 = .ok (.invokevirtual 91, 3) := by decide +kernel
theorem dL_law_604 : decode cL_law 604 = .ok (.if_icmp .eq 298, 3) := by decide +kernel
theorem dL_law_607 : decode cL_law 607 = .ok (.iconst 0, 1) := by decide +kernel
theorem dL_law_608 : decode cL_law 608 = .ok (.ireturn, 1) := by decide +kernel
theorem dL_law_609 : decode cL_law 609 = .ok (.aload_n 1, 1) := by decide +kernel
theorem dL_law_610 : decode cL_law 610 = .ok (.aload_n 0, 1) := by decide +kernel
theorem dL_law_611 : decode cL_law 611 = .ok (.iload_n 3, 1) := by decide +kernel
theorem dL_law_612 : decode cL_law 612 = .ok (.iconst 1, 1) := by decide +kernel
theorem dL_law_613 : decode cL_law 613 = .ok (.iadd, 1) := by decide +kernel
theorem dL_law_614 : decode cL_law 614 = .ok (.iaload, 1) := by decide +kernel
theorem dL_law_615 : decode cL_law 615 = .ok (.aload_n 0, 1) := by decide +kernel
theorem dL_law_616 : decode cL_law 616 = .ok (.iload_n 3, 1) := by decide +kernel
theorem dL_law_617 : decode cL_law 617 = .ok (.iconst 2, 1) := by decide +kernel
theorem dL_law_618 : decode cL_law 618 = .ok (.iadd, 1) := by decide +kernel
theorem dL_law_619 : decode cL_law 619 = .ok (.iaload, 1) := by decide +kernel
theorem dL_law_620 : decode cL_law 620 = .ok (.invokevirtual 92, 3) := by decide +kernel
theorem dL_law_623 : decode cL_law 623 = .ok (.aload_n 2, 1) := by decide +kernel
theorem dL_law_624 : decode cL_law 624 = .ok (.aload_n 0, 1) := by decide +kernel
theorem dL_law_625 : decode cL_law 625 = .ok (.iload_n 3, 1) := by decide +kernel
theorem dL_law_626 : decode cL_law 626 = .ok (.iconst 1, 1) := by decide +kernel
theorem dL_law_627 : decode cL_law 627 = .ok (.iadd, 1) := by decide +kernel
theorem dL_law_628 : decode cL_law 628 = .ok (.iaload, 1) := by decide +kernel
theorem dL_law_629 : decode cL_law 629 = .ok (.aload_n 0, 1) := by decide +kernel
theorem dL_law_630 : decode cL_law 630 = .ok (.iload_n 3, 1) := by decide +kernel
theorem dL_law_631 : decode cL_law 631 = .ok (.iconst 2, 1) := by decide +kernel
theorem dL_law_632 : decode cL_law 632 = .ok (.iadd, 1) := by decide +kernel
theorem dL_law_633 : decode cL_law 633 = .ok (.iaload, 1) := by decide +kernel
theorem dL_law_634 : decode cL_law 634 = .ok (.invokevirtual 95, 3) := by decide +kernel
theorem dL_law_637 : decode cL_law 637 = .ok (.if_icmp .eq 265, 3) := by decide +kernel
theorem dL_law_640 : decode cL_law 640 = .ok (.iconst 0, 1) := by decide +kernel
theorem dL_law_641 : decode cL_law 641 = .ok (.ireturn, 1) := by decide +kernel
theorem dL_law_642 : decode cL_law 642 = .ok (.aload_n 1, 1) := by decide +kernel
theorem dL_law_643 : decode cL_law 643 = .ok (.invokevirtual 96, 3) := by decide +kernel
theorem dL_law_646 : decode cL_law 646 = .ok (.aload_n 2, 1) := by decide +kernel
theorem dL_law_647 : decode cL_law 647 = .ok (.invokevirtual 99, 3) := by decide +kernel
theorem dL_law_650 : decode cL_law 650 = .ok (.if_icmp .eq 252, 3) := by decide +kernel
theorem dL_law_653 : decode cL_law 653 = .ok (.iconst 0, 1) := by decide +kernel
theorem dL_law_654 : decode cL_law 654 = .ok (.ireturn, 1) := by decide +kernel
theorem dL_law_655 : decode cL_law 655 = .ok (.aload_n 1, 1) := by decide +kernel
theorem dL_law_656 : decode cL_law 656 = .ok (.aload_n 0, 1) := by decide +kernel
theorem dL_law_657 : decode cL_law 657 = .ok (.iload_n 3, 1) := by decide +kernel
theorem dL_law_658 : decode cL_law 658 = .ok (.iconst 1, 1) := by decide +kernel
theorem dL_law_659 : decode cL_law 659 = .ok (.iadd, 1) := by decide +kernel
theorem dL_law_660 : decode cL_law 660 = .ok (.iaload, 1) := by decide +kernel
theorem dL_law_661 : decode cL_law 661 = .ok (.aload_n 0, 1) := by decide +kernel
theorem dL_law_662 : decode cL_law 662 = .ok (.iload_n 3, 1) := by decide +kernel
theorem dL_law_663 : decode cL_law 663 = .ok (.iconst 2, 1) := by decide +kernel
theorem dL_law_664 : decode cL_law 664 = .ok (.iadd, 1) := by decide +kernel
theorem dL_law_665 : decode cL_law 665 = .ok (.iaload, 1) := by decide +kernel
theorem dL_law_666 : decode cL_law 666 = .ok (.invokevirtual 100, 3) := by decide +kernel
theorem dL_law_669 : decode cL_law 669 = .ok (.aload_n 2, 1) := by decide +kernel
theorem dL_law_670 : decode cL_law 670 = .ok (.aload_n 0, 1) := by decide +kernel
theorem dL_law_671 : decode cL_law 671 = .ok (.iload_n 3, 1) := by decide +kernel
theorem dL_law_672 : decode cL_law 672 = .ok (.iconst 1, 1) := by decide +kernel
theorem dL_law_673 : decode cL_law 673 = .ok (.iadd, 1) := by decide +kernel
theorem dL_law_674 : decode cL_law 674 = .ok (.iaload, 1) := by decide +kernel
theorem dL_law_675 : decode cL_law 675 = .ok (.aload_n 0, 1) := by decide +kernel
theorem dL_law_676 : decode cL_law 676 = .ok (.iload_n 3, 1) := by decide +kernel
theorem dL_law_677 : decode cL_law 677 = .ok (.iconst 2, 1) := by decide +kernel
theorem dL_law_678 : decode cL_law 678 = .ok (.iadd, 1) := by decide +kernel
theorem dL_law_679 : decode cL_law 679 = .ok (.iaload, 1) := by decide +kernel
theorem dL_law_680 : decode cL_law 680 = .ok (.invokevirtual 103, 3) := by decide +kernel
theorem dL_law_683 : decode cL_law 683 = .ok (.if_icmp .eq 219, 3) := by decide +kernel
theorem dL_law_686 : decode cL_law 686 = .ok (.iconst 0, 1) := by decide +kernel
theorem dL_law_687 : decode cL_law 687 = .ok (.ireturn, 1) := by decide +kernel
theorem dL_law_688 : decode cL_law 688 = .ok (.aload_n 1, 1) := by decide +kernel
theorem dL_law_689 : decode cL_law 689 = .ok (.aload_n 0, 1) := by decide +kernel
theorem dL_law_690 : decode cL_law 690 = .ok (.iload_n 3, 1) := by decide +kernel
theorem dL_law_691 : decode cL_law 691 = .ok (.iconst 1, 1) := by decide +kernel
theorem dL_law_692 : decode cL_law 692 = .ok (.iadd, 1) := by decide +kernel
theorem dL_law_693 : decode cL_law 693 = .ok (.iaload, 1) := by decide +kernel
theorem dL_law_694 : decode cL_law 694 = .ok (.aload_n 0, 1) := by decide +kernel
theorem dL_law_695 : decode cL_law 695 = .ok (.iload_n 3, 1) := by decide +kernel
theorem dL_law_696 : decode cL_law 696 = .ok (.iconst 2, 1) := by decide +kernel
theorem dL_law_697 : decode cL_law 697 = .ok (.iadd, 1) := by decide +kernel
theorem dL_law_698 : decode cL_law 698 = .ok (.iaload, 1) := by decide +kernel
theorem dL_law_699 : decode cL_law 699 = .ok (.invokevirtual 104, 3) := by decide +kernel
theorem dL_law_702 : decode cL_law 702 = .ok (.aload_n 2, 1) := by decide +kernel
theorem dL_law_703 : decode cL_law 703 = .ok (.aload_n 0, 1) := by decide +kernel
theorem dL_law_704 : decode cL_law 704 = .ok (.iload_n 3, 1) := by decide +kernel
theorem dL_law_705 : decode cL_law 705 = .ok (.iconst 1, 1) := by decide +kernel
theorem dL_law_706 : decode cL_law 706 = .ok (.iadd, 1) := by decide +kernel
theorem dL_law_707 : decode cL_law 707 = .ok (.iaload, 1) := by decide +kernel
theorem dL_law_708 : decode cL_law 708 = .ok (.aload_n 0, 1) := by decide +kernel
theorem dL_law_709 : decode cL_law 709 = .ok (.iload_n 3, 1) := by decide +kernel
theorem dL_law_710 : decode cL_law 710 = .ok (.iconst 2, 1) := by decide +kernel
theorem dL_law_711 : decode cL_law 711 = .ok (.iadd, 1) := by decide +kernel
theorem dL_law_712 : decode cL_law 712 = .ok (.iaload, 1) := by decide +kernel
theorem dL_law_713 : decode cL_law 713 = .ok (.invokevirtual 107, 3) := by decide +kernel
theorem dL_law_716 : decode cL_law 716 = .ok (.if_icmp .eq 186, 3) := by decide +kernel
theorem dL_law_719 : decode cL_law 719 = .ok (.iconst 0, 1) := by decide +kernel
theorem dL_law_720 : decode cL_law 720 = .ok (.ireturn, 1) := by decide +kernel
theorem dL_law_721 : decode cL_law 721 = .ok (.aload_n 1, 1) := by decide +kernel
theorem dL_law_722 : decode cL_law 722 = .ok (.aload_n 0, 1) := by decide +kernel
theorem dL_law_723 : decode cL_law 723 = .ok (.iload_n 3, 1) := by decide +kernel
theorem dL_law_724 : decode cL_law 724 = .ok (.iconst 1, 1) := by decide +kernel
theorem dL_law_725 : decode cL_law 725 = .ok (.iadd, 1) := by decide +kernel
theorem dL_law_726 : decode cL_law 726 = .ok (.iaload, 1) := by decide +kernel
theorem dL_law_727 : decode cL_law 727 = .ok (.invokevirtual 108, 3) := by decide +kernel
theorem dL_law_730 : decode cL_law 730 = .ok (.aload_n 2, 1) := by decide +kernel
theorem dL_law_731 : decode cL_law 731 = .ok (.aload_n 0, 1) := by decide +kernel
theorem dL_law_732 : decode cL_law 732 = .ok (.iload_n 3, 1) := by decide +kernel
theorem dL_law_733 : decode cL_law 733 = .ok (.iconst 1, 1) := by decide +kernel
theorem dL_law_734 : decode cL_law 734 = .ok (.iadd, 1) := by decide +kernel
theorem dL_law_735 : decode cL_law 735 = .ok (.iaload, 1) := by decide +kernel
theorem dL_law_736 : decode cL_law 736 = .ok (.invokevirtual 112, 3) := by decide +kernel
theorem dL_law_739 : decode cL_law 739 = .ok (.if_icmp .eq 163, 3) := by decide +kernel
theorem dL_law_742 : decode cL_law 742 = .ok (.iconst 0, 1) := by decide +kernel
theorem dL_law_743 : decode cL_law 743 = .ok (.ireturn, 1) := by decide +kernel
theorem dL_law_744 : decode cL_law 744 = .ok (.aload_n 1, 1) := by decide +kernel
theorem dL_law_745 : decode cL_law 745 = .ok (.aload_n 0, 1) := by decide +kernel
theorem dL_law_746 : decode cL_law 746 = .ok (.iload_n 3, 1) := by decide +kernel
theorem dL_law_747 : decode cL_law 747 = .ok (.iconst 1, 1) := by decide +kernel
theorem dL_law_748 : decode cL_law 748 = .ok (.iadd, 1) := by decide +kernel
theorem dL_law_749 : decode cL_law 749 = .ok (.iaload, 1) := by decide +kernel
theorem dL_law_750 : decode cL_law 750 = .ok (.invokevirtual 113, 3) := by decide +kernel
theorem dL_law_753 : decode cL_law 753 = .ok (.aload_n 2, 1) := by decide +kernel
theorem dL_law_754 : decode cL_law 754 = .ok (.aload_n 0, 1) := by decide +kernel
theorem dL_law_755 : decode cL_law 755 = .ok (.iload_n 3, 1) := by decide +kernel
theorem dL_law_756 : decode cL_law 756 = .ok (.iconst 1, 1) := by decide +kernel
theorem dL_law_757 : decode cL_law 757 = .ok (.iadd, 1) := by decide +kernel
theorem dL_law_758 : decode cL_law 758 = .ok (.iaload, 1) := by decide +kernel
theorem dL_law_759 : decode cL_law 759 = .ok (.invokevirtual 116, 3) := by decide +kernel
theorem dL_law_762 : decode cL_law 762 = .ok (.if_icmp .eq 140, 3) := by decide +kernel
theorem dL_law_765 : decode cL_law 765 = .ok (.iconst 0, 1) := by decide +kernel
theorem dL_law_766 : decode cL_law 766 = .ok (.ireturn, 1) := by decide +kernel
theorem dL_law_767 : decode cL_law 767 = .ok (.aload_n 1, 1) := by decide +kernel
theorem dL_law_768 : decode cL_law 768 = .ok (.aload_n 0, 1) := by decide +kernel
theorem dL_law_769 : decode cL_law 769 = .ok (.iload_n 3, 1) := by decide +kernel
theorem dL_law_770 : decode cL_law 770 = .ok (.iconst 1, 1) := by decide +kernel
theorem dL_law_771 : decode cL_law 771 = .ok (.iadd, 1) := by decide +kernel
theorem dL_law_772 : decode cL_law 772 = .ok (.iaload, 1) := by decide +kernel
theorem dL_law_773 : decode cL_law 773 = .ok (.aload_n 0, 1) := by decide +kernel
theorem dL_law_774 : decode cL_law 774 = .ok (.iload_n 3, 1) := by decide +kernel
theorem dL_law_775 : decode cL_law 775 = .ok (.iconst 2, 1) := by decide +kernel
theorem dL_law_776 : decode cL_law 776 = .ok (.iadd, 1) := by decide +kernel
theorem dL_law_777 : decode cL_law 777 = .ok (.iaload, 1) := by decide +kernel
theorem dL_law_778 : decode cL_law 778 = .ok (.invokevirtual 117, 3) := by decide +kernel
theorem dL_law_781 : decode cL_law 781 = .ok (.aload_n 2, 1) := by decide +kernel
theorem dL_law_782 : decode cL_law 782 = .ok (.aload_n 0, 1) := by decide +kernel
theorem dL_law_783 : decode cL_law 783 = .ok (.iload_n 3, 1) := by decide +kernel
theorem dL_law_784 : decode cL_law 784 = .ok (.iconst 1, 1) := by decide +kernel
theorem dL_law_785 : decode cL_law 785 = .ok (.iadd, 1) := by decide +kernel
theorem dL_law_786 : decode cL_law 786 = .ok (.iaload, 1) := by decide +kernel
theorem dL_law_787 : decode cL_law 787 = .ok (.aload_n 0, 1) := by decide +kernel
theorem dL_law_788 : decode cL_law 788 = .ok (.iload_n 3, 1) := by decide +kernel
theorem dL_law_789 : decode cL_law 789 = .ok (.iconst 2, 1) := by decide +kernel
theorem dL_law_790 : decode cL_law 790 = .ok (.iadd, 1) := by decide +kernel
theorem dL_law_791 : decode cL_law 791 = .ok (.iaload, 1) := by decide +kernel
theorem dL_law_792 : decode cL_law 792 = .ok (.invokevirtual 120, 3) := by decide +kernel
theorem dL_law_795 : decode cL_law 795 = .ok (.if_icmp .eq 107, 3) := by decide +kernel
theorem dL_law_798 : decode cL_law 798 = .ok (.iconst 0, 1) := by decide +kernel
theorem dL_law_799 : decode cL_law 799 = .ok (.ireturn, 1) := by decide +kernel
theorem dL_law_800 : decode cL_law 800 = .ok (.aload_n 1, 1) := by decide +kernel
theorem dL_law_801 : decode cL_law 801 = .ok (.aload_n 0, 1) := by decide +kernel
theorem dL_law_802 : decode cL_law 802 = .ok (.iload_n 3, 1) := by decide +kernel
theorem dL_law_803 : decode cL_law 803 = .ok (.iconst 1, 1) := by decide +kernel
theorem dL_law_804 : decode cL_law 804 = .ok (.iadd, 1) := by decide +kernel
theorem dL_law_805 : decode cL_law 805 = .ok (.iaload, 1) := by decide +kernel
theorem dL_law_806 : decode cL_law 806 = .ok (.aload_n 0, 1) := by decide +kernel
theorem dL_law_807 : decode cL_law 807 = .ok (.iload_n 3, 1) := by decide +kernel
theorem dL_law_808 : decode cL_law 808 = .ok (.iconst 2, 1) := by decide +kernel
theorem dL_law_809 : decode cL_law 809 = .ok (.iadd, 1) := by decide +kernel
theorem dL_law_810 : decode cL_law 810 = .ok (.iaload, 1) := by decide +kernel
theorem dL_law_811 : decode cL_law 811 = .ok (.invokevirtual 121, 3) := by decide +kernel
theorem dL_law_814 : decode cL_law 814 = .ok (.aload_n 2, 1) := by decide +kernel
theorem dL_law_815 : decode cL_law 815 = .ok (.aload_n 0, 1) := by decide +kernel
theorem dL_law_816 : decode cL_law 816 = .ok (.iload_n 3, 1) := by decide +kernel
theorem dL_law_817 : decode cL_law 817 = .ok (.iconst 1, 1) := by decide +kernel
theorem dL_law_818 : decode cL_law 818 = .ok (.iadd, 1) := by decide +kernel
theorem dL_law_819 : decode cL_law 819 = .ok (.iaload, 1) := by decide +kernel
theorem dL_law_820 : decode cL_law 820 = .ok (.aload_n 0, 1) := by decide +kernel
theorem dL_law_821 : decode cL_law 821 = .ok (.iload_n 3, 1) := by decide +kernel
theorem dL_law_822 : decode cL_law 822 = .ok (.iconst 2, 1) := by decide +kernel
theorem dL_law_823 : decode cL_law 823 = .ok (.iadd, 1) := by decide +kernel
theorem dL_law_824 : decode cL_law 824 = .ok (.iaload, 1) := by decide +kernel
theorem dL_law_825 : decode cL_law 825 = .ok (.invokevirtual 124, 3) := by decide +kernel
theorem dL_law_828 : decode cL_law 828 = .ok (.if_icmp .eq 74, 3) := by decide +kernel
theorem dL_law_831 : decode cL_law 831 = .ok (.iconst 0, 1) := by decide +kernel
theorem dL_law_832 : decode cL_law 832 = .ok (.ireturn, 1) := by decide +kernel
theorem dL_law_833 : decode cL_law 833 = .ok (.aload_n 1, 1) := by decide +kernel
theorem dL_law_834 : decode cL_law 834 = .ok (.aload_n 0, 1) := by decide +kernel
theorem dL_law_835 : decode cL_law 835 = .ok (.iload_n 3, 1) := by decide +kernel
theorem dL_law_836 : decode cL_law 836 = .ok (.iconst 1, 1) := by decide +kernel
theorem dL_law_837 : decode cL_law 837 = .ok (.iadd, 1) := by decide +kernel
theorem dL_law_838 : decode cL_law 838 = .ok (.iaload, 1) := by decide +kernel
theorem dL_law_839 : decode cL_law 839 = .ok (.invokevirtual 125, 3) := by decide +kernel
theorem dL_law_842 : decode cL_law 842 = .ok (.aload_n 2, 1) := by decide +kernel
theorem dL_law_843 : decode cL_law 843 = .ok (.aload_n 0, 1) := by decide +kernel
theorem dL_law_844 : decode cL_law 844 = .ok (.iload_n 3, 1) := by decide +kernel
theorem dL_law_845 : decode cL_law 845 = .ok (.iconst 1, 1) := by decide +kernel
theorem dL_law_846 : decode cL_law 846 = .ok (.iadd, 1) := by decide +kernel
theorem dL_law_847 : decode cL_law 847 = .ok (.iaload, 1) := by decide +kernel
theorem dL_law_848 : decode cL_law 848 = .ok (.invokevirtual 128, 3) := by decide +kernel
theorem dL_law_851 : decode cL_law 851 = .ok (.if_icmp .eq 51, 3) := by decide +kernel
theorem dL_law_854 : decode cL_law 854 = .ok (.iconst 0, 1) := by decide +kernel
theorem dL_law_855 : decode cL_law 855 = .ok (.ireturn, 1) := by decide +kernel
theorem dL_law_856 : decode cL_law 856 = .ok (.aload_n 1, 1) := by decide +kernel
theorem dL_law_857 : decode cL_law 857 = .ok (.aload_n 0, 1) := by decide +kernel
theorem dL_law_858 : decode cL_law 858 = .ok (.iload_n 3, 1) := by decide +kernel
theorem dL_law_859 : decode cL_law 859 = .ok (.iconst 1, 1) := by decide +kernel
theorem dL_law_860 : decode cL_law 860 = .ok (.iadd, 1) := by decide +kernel
theorem dL_law_861 : decode cL_law 861 = .ok (.iaload, 1) := by decide +kernel
theorem dL_law_862 : decode cL_law 862 = .ok (.invokevirtual 129, 3) := by decide +kernel
theorem dL_law_865 : decode cL_law 865 = .ok (.aload_n 2, 1) := by decide +kernel
theorem dL_law_866 : decode cL_law 866 = .ok (.aload_n 0, 1) := by decide +kernel
theorem dL_law_867 : decode cL_law 867 = .ok (.iload_n 3, 1) := by decide +kernel
theorem dL_law_868 : decode cL_law 868 = .ok (.iconst 1, 1) := by decide +kernel
theorem dL_law_869 : decode cL_law 869 = .ok (.iadd, 1) := by decide +kernel
theorem dL_law_870 : decode cL_law 870 = .ok (.iaload, 1) := by decide +kernel
theorem dL_law_871 : decode cL_law 871 = .ok (.invokevirtual 132, 3) := by decide +kernel
theorem dL_law_874 : decode cL_law 874 = .ok (.if_icmp .eq 28, 3) := by decide +kernel
theorem dL_law_877 : decode cL_law 877 = .ok (.iconst 0, 1) := by decide +kernel
theorem dL_law_878 : decode cL_law 878 = .ok (.ireturn, 1) := by decide +kernel
theorem dL_law_879 : decode cL_law 879 = .ok (.aload_n 1, 1) := by decide +kernel
theorem dL_law_880 : decode cL_law 880 = .ok (.aload_n 0, 1) := by decide +kernel
theorem dL_law_881 : decode cL_law 881 = .ok (.iload_n 3, 1) := by decide +kernel
theorem dL_law_882 : decode cL_law 882 = .ok (.iconst 1, 1) := by decide +kernel
theorem dL_law_883 : decode cL_law 883 = .ok (.iadd, 1) := by decide +kernel
theorem dL_law_884 : decode cL_law 884 = .ok (.iaload, 1) := by decide +kernel
theorem dL_law_885 : decode cL_law 885 = .ok (.invokevirtual 133, 3) := by decide +kernel
theorem dL_law_888 : decode cL_law 888 = .ok (.aload_n 2, 1) := by decide +kernel
theorem dL_law_889 : decode cL_law 889 = .ok (.aload_n 0, 1) := by decide +kernel
theorem dL_law_890 : decode cL_law 890 = .ok (.iload_n 3, 1) := by decide +kernel
theorem dL_law_891 : decode cL_law 891 = .ok (.iconst 1, 1) := by decide +kernel
theorem dL_law_892 : decode cL_law 892 = .ok (.iadd, 1) := by decide +kernel
theorem dL_law_893 : decode cL_law 893 = .ok (.iaload, 1) := by decide +kernel
theorem dL_law_894 : decode cL_law 894 = .ok (.invokevirtual 136, 3) := by decide +kernel
theorem dL_law_897 : decode cL_law 897 = .ok (.if_icmp .eq 5, 3) := by decide +kernel
theorem dL_law_900 : decode cL_law 900 = .ok (.iconst 0, 1) := by decide +kernel
theorem dL_law_901 : decode cL_law 901 = .ok (.ireturn, 1) := by decide +kernel
theorem dL_law_902 : decode cL_law 902 = .ok (.iinc 3 6, 3) := by decide +kernel
theorem dL_law_905 : decode cL_law 905 = .ok (.goto (-887), 3) := by decide +kernel
theorem dL_law_908 : decode cL_law 908 = .ok (.iconst 1, 1) := by decide +kernel
theorem dL_law_909 : decode cL_law 909 = .ok (.ireturn, 1) := by decide +kernel
