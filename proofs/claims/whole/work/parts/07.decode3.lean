theorem dX6_best_49 : decode cX6_best 49 = .ok (.isub, 1) := by decide +kernel
theorem dX6_best_50 : decode cX6_best 50 = .ok (.iaload, 1) := by decide +kernel
theorem dX6_best_51 : decode cX6_best 51 = .ok (.if_icmp .eq 6, 3) := by decide +kernel
theorem dX6_best_54 : decode cX6_best 54 = .ok (.goto 18, 3) := by decide +kernel
theorem dX6_best_57 : decode cX6_best 57 = .ok (.iload_n 2, 1) := by decide +kernel
theorem dX6_best_58 : decode cX6_best 58 = .ok (.iload_n 1, 1) := by decide +kernel
theorem dX6_best_59 : decode cX6_best 59 = .ok (.if_icmp .ne 10, 3) := by decide +kernel
theorem dX6_best_62 : decode cX6_best 62 = .ok (.aload_n 0, 1) := by decide +kernel
theorem dX6_best_63 : decode cX6_best 63 = .ok (.getfield 51, 3) := by decide +kernel
theorem dX6_best_66 : decode cX6_best 66 = .ok (.iload_n 3, 1) := by decide +kernel
theorem dX6_best_67 : decode cX6_best 67 = .ok (.iaload, 1) := by decide +kernel
theorem dX6_best_68 : decode cX6_best 68 = .ok (.ireturn, 1) := by decide +kernel
theorem dX6_best_69 : decode cX6_best 69 = .ok (.iinc 2 1, 3) := by decide +kernel
theorem dX6_best_72 : decode cX6_best 72 = .ok (.iinc 3 1, 3) := by decide +kernel
theorem dX6_best_75 : decode cX6_best 75 = .ok (.goto (-58), 3) := by decide +kernel
theorem dX6_best_78 : decode cX6_best 78 = .ok (.iconst (-1), 1) := by decide +kernel
theorem dX6_best_79 : decode cX6_best 79 = .ok (.ireturn, 1) := by decide +kernel
theorem dX6_values_0 : decode cX6_values 0 = .ok (.aload_n 0, 1) := by decide +kernel
theorem dX6_values_1 : decode cX6_values 1 = .ok (.iconst 0, 1) := by decide +kernel
theorem dX6_values_2 : decode cX6_values 2 = .ok (.putfield 170, 3) := by decide +kernel
theorem dX6_values_5 : decode cX6_values 5 = .ok (.iconst 1, 1) := by decide +kernel
theorem dX6_values_6 : decode cX6_values 6 = .ok (.istore_n 3, 1) := by decide +kernel
theorem dX6_values_7 : decode cX6_values 7 = .ok (.iconst 0, 1) := by decide +kernel
theorem dX6_values_8 : decode cX6_values 8 = .ok (.istore 4, 2) := by decide +kernel
theorem dX6_values_10 : decode cX6_values 10 = .ok (.iload 4, 2) := by decide +kernel
theorem dX6_values_12 : decode cX6_values 12 = .ok (.iconst 2, 1) := by decide +kernel
theorem dX6_values_13 : decode cX6_values 13 = .ok (.if_icmp .ge 152, 3) := by decide +kernel
theorem dX6_values_16 : decode cX6_values 16 = .ok (.iload 4, 2) := by decide +kernel
theorem dX6_values_18 : decode cX6_values 18 = .ok (.ifCond .ne 7, 3) := by decide +kernel
theorem dX6_values_21 : decode cX6_values 21 = .ok (.aload_n 1, 1) := by decide +kernel
theorem dX6_values_22 : decode cX6_values 22 = .ok (.goto 4, 3) := by decide +kernel
theorem dX6_values_25 : decode cX6_values 25 = .ok (.aload_n 2, 1) := by decide +kernel
theorem dX6_values_26 : decode cX6_values 26 = .ok (.astore 5, 2) := by decide +kernel
theorem dX6_values_28 : decode cX6_values 28 = .ok (.iconst 1, 1) := by decide +kernel
theorem dX6_values_29 : decode cX6_values 29 = .ok (.istore 6, 2) := by decide +kernel
theorem dX6_values_31 : decode cX6_values 31 = .ok (.iload 6, 2) := by decide +kernel
theorem dX6_values_33 : decode cX6_values 33 = .ok (.aload 5, 2) := by decide +kernel
theorem dX6_values_35 : decode cX6_values 35 = .ok (.arraylength, 1) := by decide +kernel
theorem dX6_values_36 : decode cX6_values 36 = .ok (.if_icmp .ge 123, 3) := by decide +kernel
theorem dX6_values_39 : decode cX6_values 39 = .ok (.aload 5, 2) := by decide +kernel
theorem dX6_values_41 : decode cX6_values 41 = .ok (.iload 6, 2) := by decide +kernel
theorem dX6_values_43 : decode cX6_values 43 = .ok (.iaload, 1) := by decide +kernel
theorem dX6_values_44 : decode cX6_values 44 = .ok (.ifCond .ne 6, 3) := by decide +kernel
theorem dX6_values_47 : decode cX6_values 47 = .ok (.goto 106, 3) := by decide +kernel
theorem dX6_values_50 : decode cX6_values 50 = .ok (.aload_n 0, 1) := by decide +kernel
theorem dX6_values_51 : decode cX6_values 51 = .ok (.getfield 170, 3) := by decide +kernel
theorem dX6_values_54 : decode cX6_values 54 = .ok (.bipush 30, 2) := by decide +kernel
theorem dX6_values_56 : decode cX6_values 56 = .ok (.if_icmp .ne 5, 3) := by decide +kernel
theorem dX6_values_59 : decode cX6_values 59 = .ok (.iconst 0, 1) := by decide +kernel
theorem dX6_values_60 : decode cX6_values 60 = .ok (.ireturn, 1) := by decide +kernel
theorem dX6_values_61 : decode cX6_values 61 = .ok (.aload_n 0, 1) := by decide +kernel
theorem dX6_values_62 : decode cX6_values 62 = .ok (.getfield 57, 3) := by decide +kernel
theorem dX6_values_65 : decode cX6_values 65 = .ok (.aload_n 0, 1) := by decide +kernel
theorem dX6_values_66 : decode cX6_values 66 = .ok (.getfield 170, 3) := by decide +kernel
theorem dX6_values_69 : decode cX6_values 69 = .ok (.iload 6, 2) := by decide +kernel
theorem dX6_values_71 : decode cX6_values 71 = .ok (.iastore, 1) := by decide +kernel
theorem dX6_values_72 : decode cX6_values 72 = .ok (.aload_n 0, 1) := by decide +kernel
theorem dX6_values_73 : decode cX6_values 73 = .ok (.getfield 60, 3) := by decide +kernel
theorem dX6_values_76 : decode cX6_values 76 = .ok (.aload_n 0, 1) := by decide +kernel
theorem dX6_values_77 : decode cX6_values 77 = .ok (.getfield 170, 3) := by decide +kernel
theorem dX6_values_80 : decode cX6_values 80 = .ok (.aload 5, 2) := by decide +kernel
theorem dX6_values_82 : decode cX6_values 82 = .ok (.iload 6, 2) := by decide +kernel
theorem dX6_values_84 : decode cX6_values 84 = .ok (.iaload, 1) := by decide +kernel
theorem dX6_values_85 : decode cX6_values 85 = .ok (.iastore, 1) := by decide +kernel
theorem dX6_values_86 : decode cX6_values 86 = .ok (.aload_n 0, 1) := by decide +kernel
theorem dX6_values_87 : decode cX6_values 87 = .ok (.getfield 66, 3) := by decide +kernel
theorem dX6_values_90 : decode cX6_values 90 = .ok (.aload_n 0, 1) := by decide +kernel
theorem dX6_values_91 : decode cX6_values 91 = .ok (.getfield 170, 3) := by decide +kernel
theorem dX6_values_94 : decode cX6_values 94 = .ok (.iload 4, 2) := by decide +kernel
theorem dX6_values_96 : decode cX6_values 96 = .ok (.iconst 1, 1) := by decide +kernel
theorem dX6_values_97 : decode cX6_values 97 = .ok (.if_icmp .ne 7, 3) := by decide +kernel
theorem dX6_values_100 : decode cX6_values 100 = .ok (.iconst 1, 1) := by decide +kernel
theorem dX6_values_101 : decode cX6_values 101 = .ok (.goto 4, 3) := by decide +kernel
theorem dX6_values_104 : decode cX6_values 104 = .ok (.iconst 0, 1) := by decide +kernel
theorem dX6_values_105 : decode cX6_values 105 = .ok (.bastore, 1) := by decide +kernel
theorem dX6_values_106 : decode cX6_values 106 = .ok (.aload_n 0, 1) := by decide +kernel
theorem dX6_values_107 : decode cX6_values 107 = .ok (.getfield 63, 3) := by decide +kernel
theorem dX6_values_110 : decode cX6_values 110 = .ok (.aload_n 0, 1) := by decide +kernel
theorem dX6_values_111 : decode cX6_values 111 = .ok (.getfield 170, 3) := by decide +kernel
theorem dX6_values_114 : decode cX6_values 114 = .ok (.iload_n 3, 1) := by decide +kernel
theorem dX6_values_115 : decode cX6_values 115 = .ok (.iastore, 1) := by decide +kernel
theorem dX6_values_116 : decode cX6_values 116 = .ok (.aload_n 0, 1) := by decide +kernel
theorem dX6_values_117 : decode cX6_values 117 = .ok (.dup, 1) := by decide +kernel
theorem dX6_values_118 : decode cX6_values 118 = .ok (.getfield 170, 3) := by decide +kernel
theorem dX6_values_121 : decode cX6_values 121 = .ok (.iconst 1, 1) := by decide +kernel
theorem dX6_values_122 : decode cX6_values 122 = .ok (.iadd, 1) := by decide +kernel
theorem dX6_values_123 : decode cX6_values 123 = .ok (.putfield 170, 3) := by decide +kernel
theorem dX6_values_126 : decode cX6_values 126 = .ok (.iload_n 3, 1) := by decide +kernel
theorem dX6_values_127 : decode cX6_values 127 = .ok (.sipush 20000, 3) := by decide +kernel
theorem dX6_values_130 : decode cX6_values 130 = .ok (.aload 5, 2) := by decide +kernel
theorem dX6_values_132 : decode cX6_values 132 = .ok (.iload 6, 2) := by decide +kernel
theorem dX6_values_134 : decode cX6_values 134 = .ok (.iaload, 1) := by decide +kernel
theorem dX6_values_135 : decode cX6_values 135 = .ok (.iconst 1, 1) := by decide +kernel
theorem dX6_values_136 : decode cX6_values 136 = .ok (.iadd, 1) := by decide +kernel
theorem dX6_values_137 : decode cX6_values 137 = .ok (.idiv, 1) := by decide +kernel
theorem dX6_values_138 : decode cX6_values 138 = .ok (.if_icmp .le 5, 3) := by decide +kernel
theorem dX6_values_141 : decode cX6_values 141 = .ok (.iconst 0, 1) := by decide +kernel
theorem dX6_values_142 : decode cX6_values 142 = .ok (.ireturn, 1) := by decide +kernel
theorem dX6_values_143 : decode cX6_values 143 = .ok (.iload_n 3, 1) := by decide +kernel
theorem dX6_values_144 : decode cX6_values 144 = .ok (.aload 5, 2) := by decide +kernel
theorem dX6_values_146 : decode cX6_values 146 = .ok (.iload 6, 2) := by decide +kernel
theorem dX6_values_148 : decode cX6_values 148 = .ok (.iaload, 1) := by decide +kernel
theorem dX6_values_149 : decode cX6_values 149 = .ok (.iconst 1, 1) := by decide +kernel
theorem dX6_values_150 : decode cX6_values 150 = .ok (.iadd, 1) := by decide +kernel
theorem dX6_values_151 : decode cX6_values 151 = .ok (.imul, 1) := by decide +kernel
theorem dX6_values_152 : decode cX6_values 152 = .ok (.istore_n 3, 1) := by decide +kernel
theorem dX6_values_153 : decode cX6_values 153 = .ok (.iinc 6 1, 3) := by decide +kernel
theorem dX6_values_156 : decode cX6_values 156 = .ok (.goto (-125), 3) := by decide +kernel
theorem dX6_values_159 : decode cX6_values 159 = .ok (.iinc 4 1, 3) := by decide +kernel
theorem dX6_values_162 : decode cX6_values 162 = .ok (.goto (-152), 3) := by decide +kernel
theorem dX6_values_165 : decode cX6_values 165 = .ok (.aload_n 0, 1) := by decide +kernel
theorem dX6_values_166 : decode cX6_values 166 = .ok (.getfield 69, 3) := by decide +kernel
theorem dX6_values_169 : decode cX6_values 169 = .ok (.iconst 0, 1) := by decide +kernel
theorem dX6_values_170 : decode cX6_values 170 = .ok (.iconst 0, 1) := by decide +kernel
theorem dX6_values_171 : decode cX6_values 171 = .ok (.iastore, 1) := by decide +kernel
theorem dX6_values_172 : decode cX6_values 172 = .ok (.iconst 1, 1) := by decide +kernel
theorem dX6_values_173 : decode cX6_values 173 = .ok (.istore 4, 2) := by decide +kernel
theorem dX6_values_175 : decode cX6_values 175 = .ok (.iload 4, 2) := by decide +kernel
theorem dX6_values_177 : decode cX6_values 177 = .ok (.iload_n 3, 1) := by decide +kernel
theorem dX6_values_178 : decode cX6_values 178 = .ok (.if_icmp .ge 78, 3) := by decide +kernel
theorem dX6_values_181 : decode cX6_values 181 = .ok (.ldc 159, 2) := by decide +kernel
theorem dX6_values_183 : decode cX6_values 183 = .ok (.istore 5, 2) := by decide +kernel
theorem dX6_values_185 : decode cX6_values 185 = .ok (.iconst 0, 1) := by decide +kernel
theorem dX6_values_186 : decode cX6_values 186 = .ok (.istore 6, 2) := by decide +kernel
theorem dX6_values_188 : decode cX6_values 188 = .ok (.iload 6, 2) := by decide +kernel
theorem dX6_values_190 : decode cX6_values 190 = .ok (.aload_n 0, 1) := by decide +kernel
theorem dX6_values_191 : decode cX6_values 191 = .ok (.getfield 170, 3) := by decide +kernel
theorem dX6_values_194 : decode cX6_values 194 = .ok (.if_icmp .ge 47, 3) := by decide +kernel
theorem dX6_values_197 : decode cX6_values 197 = .ok (.iload 4, 2) := by decide +kernel
theorem dX6_values_199 : decode cX6_values 199 = .ok (.aload_n 0, 1) := by decide +kernel
theorem dX6_values_200 : decode cX6_values 200 = .ok (.getfield 63, 3) := by decide +kernel
theorem dX6_values_203 : decode cX6_values 203 = .ok (.iload 6, 2) := by decide +kernel
theorem dX6_values_205 : decode cX6_values 205 = .ok (.iaload, 1) := by decide +kernel
theorem dX6_values_206 : decode cX6_values 206 = .ok (.idiv, 1) := by decide +kernel
theorem dX6_values_207 : decode cX6_values 207 = .ok (.aload_n 0, 1) := by decide +kernel
theorem dX6_values_208 : decode cX6_values 208 = .ok (.getfield 60, 3) := by decide +kernel
theorem dX6_values_211 : decode cX6_values 211 = .ok (.iload 6, 2) := by decide +kernel
theorem dX6_values_213 : decode cX6_values 213 = .ok (.iaload, 1) := by decide +kernel
theorem dX6_values_214 : decode cX6_values 214 = .ok (.iconst 1, 1) := by decide +kernel
theorem dX6_values_215 : decode cX6_values 215 = .ok (.iadd, 1) := by decide +kernel
theorem dX6_values_216 : decode cX6_values 216 = .ok (.irem, 1) := by decide +kernel
theorem dX6_values_217 : decode cX6_values 217 = .ok (.ifCond .le 18, 3) := by decide +kernel
theorem dX6_values_220 : decode cX6_values 220 = .ok (.iload 5, 2) := by decide +kernel
theorem dX6_values_222 : decode cX6_values 222 = .ok (.aload_n 0, 1) := by decide +kernel
theorem dX6_values_223 : decode cX6_values 223 = .ok (.iload 4, 2) := by decide +kernel
theorem dX6_values_225 : decode cX6_values 225 = .ok (.iload 6, 2) := by decide +kernel
theorem dX6_values_227 : decode cX6_values 227 = .ok (.invokevirtual 173, 3) := by decide +kernel
theorem dX6_values_230 : decode cX6_values 230 = .ok (.invokestatic 148, 3) := by decide +kernel
theorem dX6_values_233 : decode cX6_values 233 = .ok (.istore 5, 2) := by decide +kernel
theorem dX6_values_235 : decode cX6_values 235 = .ok (.iinc 6 1, 3) := by decide +kernel
theorem dX6_values_238 : decode cX6_values 238 = .ok (.goto (-50), 3) := by decide +kernel
theorem dX6_values_241 : decode cX6_values 241 = .ok (.aload_n 0, 1) := by decide +kernel
theorem dX6_values_242 : decode cX6_values 242 = .ok (.getfield 69, 3) := by decide +kernel
theorem dX6_values_245 : decode cX6_values 245 = .ok (.iload 4, 2) := by decide +kernel
theorem dX6_values_247 : decode cX6_values 247 = .ok (.iload 5, 2) := by decide +kernel
theorem dX6_values_249 : decode cX6_values 249 = .ok (.iastore, 1) := by decide +kernel
theorem dX6_values_250 : decode cX6_values 250 = .ok (.iinc 4 1, 3) := by decide +kernel
theorem dX6_values_253 : decode cX6_values 253 = .ok (.goto (-78), 3) := by decide +kernel
theorem dX6_values_256 : decode cX6_values 256 = .ok (.aload_n 0, 1) := by decide +kernel
theorem dX6_values_257 : decode cX6_values 257 = .ok (.iload_n 3, 1) := by decide +kernel
theorem dX6_values_258 : decode cX6_values 258 = .ok (.iconst 1, 1) := by decide +kernel
theorem dX6_values_259 : decode cX6_values 259 = .ok (.isub, 1) := by decide +kernel
theorem dX6_values_260 : decode cX6_values 260 = .ok (.putfield 176, 3) := by decide +kernel
theorem dX6_values_263 : decode cX6_values 263 = .ok (.iconst 1, 1) := by decide +kernel
theorem dX6_values_264 : decode cX6_values 264 = .ok (.ireturn, 1) := by decide +kernel
theorem dX6_opened_0 : decode cX6_opened 0 = .ok (.aload_n 0, 1) := by decide +kernel
theorem dX6_opened_1 : decode cX6_opened 1 = .ok (.getfield 57, 3) := by decide +kernel
theorem dX6_opened_4 : decode cX6_opened 4 = .ok (.iload_n 2, 1) := by decide +kernel
theorem dX6_opened_5 : decode cX6_opened 5 = .ok (.iaload, 1) := by decide +kernel
theorem dX6_opened_6 : decode cX6_opened 6 = .ok (.istore_n 3, 1) := by decide +kernel
theorem dX6_opened_7 : decode cX6_opened 7 = .ok (.aload_n 0, 1) := by decide +kernel
theorem dX6_opened_8 : decode cX6_opened 8 = .ok (.getfield 69, 3) := by decide +kernel
theorem dX6_opened_11 : decode cX6_opened 11 = .ok (.iload_n 1, 1) := by decide +kernel
theorem dX6_opened_12 : decode cX6_opened 12 = .ok (.aload_n 0, 1) := by decide +kernel
theorem dX6_opened_13 : decode cX6_opened 13 = .ok (.getfield 63, 3) := by decide +kernel
theorem dX6_opened_16 : decode cX6_opened 16 = .ok (.iload_n 2, 1) := by decide +kernel
theorem dX6_opened_17 : decode cX6_opened 17 = .ok (.iaload, 1) := by decide +kernel
theorem dX6_opened_18 : decode cX6_opened 18 = .ok (.isub, 1) := by decide +kernel
theorem dX6_opened_19 : decode cX6_opened 19 = .ok (.iaload, 1) := by decide +kernel
theorem dX6_opened_20 : decode cX6_opened 20 = .ok (.istore 4, 2) := by decide +kernel
theorem dX6_opened_22 : decode cX6_opened 22 = .ok (.iload_n 3, 1) := by decide +kernel
theorem dX6_opened_23 : decode cX6_opened 23 = .ok (.iload 4, 2) := by decide +kernel
theorem dX6_opened_25 : decode cX6_opened 25 = .ok (.iadd, 1) := by decide +kernel
theorem dX6_opened_26 : decode cX6_opened 26 = .ok (.istore 5, 2) := by decide +kernel
theorem dX6_opened_28 : decode cX6_opened 28 = .ok (.aload_n 0, 1) := by decide +kernel
theorem dX6_opened_29 : decode cX6_opened 29 = .ok (.getfield 66, 3) := by decide +kernel
theorem dX6_opened_32 : decode cX6_opened 32 = .ok (.iload_n 2, 1) := by decide +kernel
theorem dX6_opened_33 : decode cX6_opened 33 = .ok (.baload, 1) := by decide +kernel
theorem dX6_opened_34 : decode cX6_opened 34 = .ok (.ifCond .eq 22, 3) := by decide +kernel
theorem dX6_opened_37 : decode cX6_opened 37 = .ok (.iload_n 3, 1) := by decide +kernel
theorem dX6_opened_38 : decode cX6_opened 38 = .ok (.iconst 4, 1) := by decide +kernel
theorem dX6_opened_39 : decode cX6_opened 39 = .ok (.if_icmp .lt 17, 3) := by decide +kernel
theorem dX6_opened_42 : decode cX6_opened 42 = .ok (.iload 5, 2) := by decide +kernel
theorem dX6_opened_44 : decode cX6_opened 44 = .ok (.iload_n 3, 1) := by decide +kernel
theorem dX6_opened_45 : decode cX6_opened 45 = .ok (.bipush 8, 2) := by decide +kernel
theorem dX6_opened_47 : decode cX6_opened 47 = .ok (.isub, 1) := by decide +kernel
theorem dX6_opened_48 : decode cX6_opened 48 = .ok (.iload 4, 2) := by decide +kernel
theorem dX6_opened_50 : decode cX6_opened 50 = .ok (.isub, 1) := by decide +kernel
theorem dX6_opened_51 : decode cX6_opened 51 = .ok (.invokestatic 148, 3) := by decide +kernel
theorem dX6_opened_54 : decode cX6_opened 54 = .ok (.istore 5, 2) := by decide +kernel
theorem dX6_opened_56 : decode cX6_opened 56 = .ok (.aload_n 0, 1) := by decide +kernel
theorem dX6_opened_57 : decode cX6_opened 57 = .ok (.getfield 66, 3) := by decide +kernel
theorem dX6_opened_60 : decode cX6_opened 60 = .ok (.iload_n 2, 1) := by decide +kernel
theorem dX6_opened_61 : decode cX6_opened 61 = .ok (.baload, 1) := by decide +kernel
theorem dX6_opened_62 : decode cX6_opened 62 = .ok (.ifCond .ne 21, 3) := by decide +kernel
theorem dX6_opened_65 : decode cX6_opened 65 = .ok (.iload_n 3, 1) := by decide +kernel
theorem dX6_opened_66 : decode cX6_opened 66 = .ok (.iconst 3, 1) := by decide +kernel
theorem dX6_opened_67 : decode cX6_opened 67 = .ok (.if_icmp .lt 16, 3) := by decide +kernel
theorem dX6_opened_70 : decode cX6_opened 70 = .ok (.iload 5, 2) := by decide +kernel
theorem dX6_opened_72 : decode cX6_opened 72 = .ok (.iload_n 3, 1) := by decide +kernel
theorem dX6_opened_73 : decode cX6_opened 73 = .ok (.iconst 4, 1) := by decide +kernel
theorem dX6_opened_74 : decode cX6_opened 74 = .ok (.isub, 1) := by decide +kernel
theorem dX6_opened_75 : decode cX6_opened 75 = .ok (.iload 4, 2) := by decide +kernel
theorem dX6_opened_77 : decode cX6_opened 77 = .ok (.isub, 1) := by decide +kernel
theorem dX6_opened_78 : decode cX6_opened 78 = .ok (.invokestatic 148, 3) := by decide +kernel
theorem dX6_opened_81 : decode cX6_opened 81 = .ok (.istore 5, 2) := by decide +kernel
theorem dX6_opened_83 : decode cX6_opened 83 = .ok (.iload 5, 2) := by decide +kernel
theorem dX6_opened_85 : decode cX6_opened 85 = .ok (.ineg, 1) := by decide +kernel
theorem dX6_opened_86 : decode cX6_opened 86 = .ok (.ireturn, 1) := by decide +kernel
theorem dX6_opens_0 : decode cX6_opens 0 = .ok (.iconst 0, 1) := by decide +kernel
theorem dX6_opens_1 : decode cX6_opens 1 = .ok (.istore_n 2, 1) := by decide +kernel
theorem dX6_opens_2 : decode cX6_opens 2 = .ok (.iconst 0, 1) := by decide +kernel
theorem dX6_opens_3 : decode cX6_opens 3 = .ok (.istore_n 3, 1) := by decide +kernel
theorem dX6_opens_4 : decode cX6_opens 4 = .ok (.iload_n 3, 1) := by decide +kernel
theorem dX6_opens_5 : decode cX6_opens 5 = .ok (.aload_n 0, 1) := by decide +kernel
theorem dX6_opens_6 : decode cX6_opens 6 = .ok (.getfield 170, 3) := by decide +kernel
theorem dX6_opens_9 : decode cX6_opens 9 = .ok (.if_icmp .ge 70, 3) := by decide +kernel
theorem dX6_opens_12 : decode cX6_opens 12 = .ok (.iload_n 1, 1) := by decide +kernel
theorem dX6_opens_13 : decode cX6_opens 13 = .ok (.ifCond .lt 66, 3) := by decide +kernel
theorem dX6_opens_16 : decode cX6_opens 16 = .ok (.aload_n 0, 1) := by decide +kernel
theorem dX6_opens_17 : decode cX6_opens 17 = .ok (.aload_n 0, 1) := by decide +kernel
theorem dX6_opens_18 : decode cX6_opens 18 = .ok (.getfield 176, 3) := by decide +kernel
theorem dX6_opens_21 : decode cX6_opens 21 = .ok (.iload_n 3, 1) := by decide +kernel
theorem dX6_opens_22 : decode cX6_opens 22 = .ok (.invokevirtual 173, 3) := by decide +kernel
theorem dX6_opens_25 : decode cX6_opens 25 = .ok (.aload_n 0, 1) := by decide +kernel
theorem dX6_opens_26 : decode cX6_opens 26 = .ok (.getfield 69, 3) := by decide +kernel
theorem dX6_opens_29 : decode cX6_opens 29 = .ok (.aload_n 0, 1) := by decide +kernel
theorem dX6_opens_30 : decode cX6_opens 30 = .ok (.getfield 176, 3) := by decide +kernel
theorem dX6_opens_33 : decode cX6_opens 33 = .ok (.iaload, 1) := by decide +kernel
theorem dX6_opens_34 : decode cX6_opens 34 = .ok (.if_icmp .eq 6, 3) := by decide +kernel
theorem dX6_opens_37 : decode cX6_opens 37 = .ok (.goto 36, 3) := by decide +kernel
theorem dX6_opens_40 : decode cX6_opens 40 = .ok (.iload_n 2, 1) := by decide +kernel
theorem dX6_opens_41 : decode cX6_opens 41 = .ok (.iload_n 1, 1) := by decide +kernel
theorem dX6_opens_42 : decode cX6_opens 42 = .ok (.if_icmp .ne 28, 3) := by decide +kernel
theorem dX6_opens_45 : decode cX6_opens 45 = .ok (.bipush 10, 2) := by decide +kernel
theorem dX6_opens_47 : decode cX6_opens 47 = .ok (.aload_n 0, 1) := by decide +kernel
theorem dX6_opens_48 : decode cX6_opens 48 = .ok (.getfield 57, 3) := by decide +kernel
theorem dX6_opens_51 : decode cX6_opens 51 = .ok (.iload_n 3, 1) := by decide +kernel
theorem dX6_opens_52 : decode cX6_opens 52 = .ok (.iaload, 1) := by decide +kernel
theorem dX6_opens_53 : decode cX6_opens 53 = .ok (.imul, 1) := by decide +kernel
theorem dX6_opens_54 : decode cX6_opens 54 = .ok (.aload_n 0, 1) := by decide +kernel
theorem dX6_opens_55 : decode cX6_opens 55 = .ok (.getfield 66, 3) := by decide +kernel
theorem dX6_opens_58 : decode cX6_opens 58 = .ok (.iload_n 3, 1) := by decide +kernel
theorem dX6_opens_59 : decode cX6_opens 59 = .ok (.baload, 1) := by decide +kernel
theorem dX6_opens_60 : decode cX6_opens 60 = .ok (.ifCond .eq 7, 3) := by decide +kernel
theorem dX6_opens_63 : decode cX6_opens 63 = .ok (.iconst 1, 1) := by decide +kernel
theorem dX6_opens_64 : decode cX6_opens 64 = .ok (.goto 4, 3) := by decide +kernel
theorem dX6_opens_67 : decode cX6_opens 67 = .ok (.iconst 0, 1) := by decide +kernel
theorem dX6_opens_68 : decode cX6_opens 68 = .ok (.iadd, 1) := by decide +kernel
theorem dX6_opens_69 : decode cX6_opens 69 = .ok (.ireturn, 1) := by decide +kernel
theorem dX6_opens_70 : decode cX6_opens 70 = .ok (.iinc 2 1, 3) := by decide +kernel
theorem dX6_opens_73 : decode cX6_opens 73 = .ok (.iinc 3 1, 3) := by decide +kernel
theorem dX6_opens_76 : decode cX6_opens 76 = .ok (.goto (-72), 3) := by decide +kernel
theorem dX6_opens_79 : decode cX6_opens 79 = .ok (.iconst (-1), 1) := by decide +kernel
theorem dX6_opens_80 : decode cX6_opens 80 = .ok (.ireturn, 1) := by decide +kernel
theorem dX6_isSimple_0 : decode cX6_isSimple 0 = .ok (.iconst 1, 1) := by decide +kernel
theorem dX6_isSimple_1 : decode cX6_isSimple 1 = .ok (.istore_n 1, 1) := by decide +kernel
theorem dX6_isSimple_2 : decode cX6_isSimple 2 = .ok (.iconst 0, 1) := by decide +kernel
theorem dX6_isSimple_3 : decode cX6_isSimple 3 = .ok (.istore_n 2, 1) := by decide +kernel
theorem dX6_isSimple_4 : decode cX6_isSimple 4 = .ok (.iload_n 2, 1) := by decide +kernel
theorem dX6_isSimple_5 : decode cX6_isSimple 5 = .ok (.aload_n 0, 1) := by decide +kernel
theorem dX6_isSimple_6 : decode cX6_isSimple 6 = .ok (.getfield 135, 3) := by decide +kernel
theorem dX6_isSimple_9 : decode cX6_isSimple 9 = .ok (.if_icmp .ge 29, 3) := by decide +kernel
theorem dX6_isSimple_12 : decode cX6_isSimple 12 = .ok (.iload_n 1, 1) := by decide +kernel
theorem dX6_isSimple_13 : decode cX6_isSimple 13 = .ok (.ifCond .eq 17, 3) := by decide +kernel
theorem dX6_isSimple_16 : decode cX6_isSimple 16 = .ok (.aload_n 0, 1) := by decide +kernel
theorem dX6_isSimple_17 : decode cX6_isSimple 17 = .ok (.getfield 41, 3) := by decide +kernel
theorem dX6_isSimple_20 : decode cX6_isSimple 20 = .ok (.iload_n 2, 1) := by decide +kernel
theorem dX6_isSimple_21 : decode cX6_isSimple 21 = .ok (.iaload, 1) := by decide +kernel
theorem dX6_isSimple_22 : decode cX6_isSimple 22 = .ok (.iconst 2, 1) := by decide +kernel
theorem dX6_isSimple_23 : decode cX6_isSimple 23 = .ok (.if_icmp .eq 7, 3) := by decide +kernel
theorem dX6_isSimple_26 : decode cX6_isSimple 26 = .ok (.iconst 1, 1) := by decide +kernel
theorem dX6_isSimple_27 : decode cX6_isSimple 27 = .ok (.goto 4, 3) := by decide +kernel
theorem dX6_isSimple_30 : decode cX6_isSimple 30 = .ok (.iconst 0, 1) := by decide +kernel
theorem dX6_isSimple_31 : decode cX6_isSimple 31 = .ok (.istore_n 1, 1) := by decide +kernel
theorem dX6_isSimple_32 : decode cX6_isSimple 32 = .ok (.iinc 2 1, 3) := by decide +kernel
theorem dX6_isSimple_35 : decode cX6_isSimple 35 = .ok (.goto (-31), 3) := by decide +kernel
theorem dX6_isSimple_38 : decode cX6_isSimple 38 = .ok (.iload_n 1, 1) := by decide +kernel
theorem dX6_isSimple_39 : decode cX6_isSimple 39 = .ok (.ireturn, 1) := by decide +kernel
theorem dX6_lengths_0 : decode cX6_lengths 0 = .ok (.aload_n 0, 1) := by decide +kernel
theorem dX6_lengths_1 : decode cX6_lengths 1 = .ok (.invokevirtual 151, 3) := by decide +kernel
theorem dX6_lengths_4 : decode cX6_lengths 4 = .ok (.aload_n 0, 1) := by decide +kernel
theorem dX6_lengths_5 : decode cX6_lengths 5 = .ok (.invokevirtual 179, 3) := by decide +kernel
theorem dX6_lengths_8 : decode cX6_lengths 8 = .ok (.ifCond .ne 5, 3) := by decide +kernel
theorem dX6_lengths_11 : decode cX6_lengths 11 = .ok (.iconst 0, 1) := by decide +kernel
theorem dX6_lengths_12 : decode cX6_lengths 12 = .ok (.ireturn, 1) := by decide +kernel
theorem dX6_lengths_13 : decode cX6_lengths 13 = .ok (.iconst 0, 1) := by decide +kernel
theorem dX6_lengths_14 : decode cX6_lengths 14 = .ok (.istore_n 1, 1) := by decide +kernel
theorem dX6_lengths_15 : decode cX6_lengths 15 = .ok (.iload_n 1, 1) := by decide +kernel
theorem dX6_lengths_16 : decode cX6_lengths 16 = .ok (.sipush 201, 3) := by decide +kernel
theorem dX6_lengths_19 : decode cX6_lengths 19 = .ok (.if_icmp .ge 23, 3) := by decide +kernel
theorem dX6_lengths_22 : decode cX6_lengths 22 = .ok (.aload_n 0, 1) := by decide +kernel
theorem dX6_lengths_23 : decode cX6_lengths 23 = .ok (.getfield 72, 3) := by decide +kernel
theorem dX6_lengths_26 : decode cX6_lengths 26 = .ok (.iload_n 1, 1) := by decide +kernel
theorem dX6_lengths_27 : decode cX6_lengths 27 = .ok (.iconst 0, 1) := by decide +kernel
theorem dX6_lengths_28 : decode cX6_lengths 28 = .ok (.iastore, 1) := by decide +kernel
theorem dX6_lengths_29 : decode cX6_lengths 29 = .ok (.aload_n 0, 1) := by decide +kernel
theorem dX6_lengths_30 : decode cX6_lengths 30 = .ok (.getfield 75, 3) := by decide +kernel
theorem dX6_lengths_33 : decode cX6_lengths 33 = .ok (.iload_n 1, 1) := by decide +kernel
theorem dX6_lengths_34 : decode cX6_lengths 34 = .ok (.iconst 0, 1) := by decide +kernel
theorem dX6_lengths_35 : decode cX6_lengths 35 = .ok (.iastore, 1) := by decide +kernel
theorem dX6_lengths_36 : decode cX6_lengths 36 = .ok (.iinc 1 1, 3) := by decide +kernel
theorem dX6_lengths_39 : decode cX6_lengths 39 = .ok (.goto (-24), 3) := by decide +kernel
theorem dX6_lengths_42 : decode cX6_lengths 42 = .ok (.aload_n 0, 1) := by decide +kernel
theorem dX6_lengths_43 : decode cX6_lengths 43 = .ok (.iconst 0, 1) := by decide +kernel
theorem dX6_lengths_44 : decode cX6_lengths 44 = .ok (.putfield 182, 3) := by decide +kernel
theorem dX6_lengths_47 : decode cX6_lengths 47 = .ok (.aload_n 0, 1) := by decide +kernel
theorem dX6_lengths_48 : decode cX6_lengths 48 = .ok (.iconst 0, 1) := by decide +kernel
theorem dX6_lengths_49 : decode cX6_lengths 49 = .ok (.putfield 185, 3) := by decide +kernel
theorem dX6_lengths_52 : decode cX6_lengths 52 = .ok (.aload_n 0, 1) := by decide +kernel
theorem dX6_lengths_53 : decode cX6_lengths 53 = .ok (.iconst 0, 1) := by decide +kernel
theorem dX6_lengths_54 : decode cX6_lengths 54 = .ok (.putfield 189, 3) := by decide +kernel
theorem dX6_lengths_57 : decode cX6_lengths 57 = .ok (.iconst 0, 1) := by decide +kernel
theorem dX6_lengths_58 : decode cX6_lengths 58 = .ok (.istore_n 1, 1) := by decide +kernel
theorem dX6_lengths_59 : decode cX6_lengths 59 = .ok (.iload_n 1, 1) := by decide +kernel
theorem dX6_lengths_60 : decode cX6_lengths 60 = .ok (.aload_n 0, 1) := by decide +kernel
theorem dX6_lengths_61 : decode cX6_lengths 61 = .ok (.getfield 135, 3) := by decide +kernel
theorem dX6_lengths_64 : decode cX6_lengths 64 = .ok (.if_icmp .ge 133, 3) := by decide +kernel
theorem dX6_lengths_67 : decode cX6_lengths 67 = .ok (.aload_n 0, 1) := by decide +kernel
theorem dX6_lengths_68 : decode cX6_lengths 68 = .ok (.getfield 32, 3) := by decide +kernel
theorem dX6_lengths_71 : decode cX6_lengths 71 = .ok (.iload_n 1, 1) := by decide +kernel
theorem dX6_lengths_72 : decode cX6_lengths 72 = .ok (.iaload, 1) := by decide +kernel
theorem dX6_lengths_73 : decode cX6_lengths 73 = .ok (.istore_n 2, 1) := by decide +kernel
theorem dX6_lengths_74 : decode cX6_lengths 74 = .ok (.aload_n 0, 1) := by decide +kernel
theorem dX6_lengths_75 : decode cX6_lengths 75 = .ok (.getfield 41, 3) := by decide +kernel
theorem dX6_lengths_78 : decode cX6_lengths 78 = .ok (.iload_n 1, 1) := by decide +kernel
theorem dX6_lengths_79 : decode cX6_lengths 79 = .ok (.iaload, 1) := by decide +kernel
theorem dX6_lengths_80 : decode cX6_lengths 80 = .ok (.iconst 1, 1) := by decide +kernel
theorem dX6_lengths_81 : decode cX6_lengths 81 = .ok (.if_icmp .ne 16, 3) := by decide +kernel
theorem dX6_lengths_84 : decode cX6_lengths 84 = .ok (.aload_n 0, 1) := by decide +kernel
theorem dX6_lengths_85 : decode cX6_lengths 85 = .ok (.getfield 75, 3) := by decide +kernel
theorem dX6_lengths_88 : decode cX6_lengths 88 = .ok (.iload_n 2, 1) := by decide +kernel
theorem dX6_lengths_89 : decode cX6_lengths 89 = .ok (.dup2, 1) := by decide +kernel
theorem dX6_lengths_90 : decode cX6_lengths 90 = .ok (.iaload, 1) := by decide +kernel
theorem dX6_lengths_91 : decode cX6_lengths 91 = .ok (.iconst 1, 1) := by decide +kernel
theorem dX6_lengths_92 : decode cX6_lengths 92 = .ok (.iadd, 1) := by decide +kernel
theorem dX6_lengths_93 : decode cX6_lengths 93 = .ok (.iastore, 1) := by decide +kernel
theorem dX6_lengths_94 : decode cX6_lengths 94 = .ok (.goto 97, 3) := by decide +kernel
theorem dX6_lengths_97 : decode cX6_lengths 97 = .ok (.aload_n 0, 1) := by decide +kernel
theorem dX6_lengths_98 : decode cX6_lengths 98 = .ok (.getfield 38, 3) := by decide +kernel
theorem dX6_lengths_101 : decode cX6_lengths 101 = .ok (.iload_n 1, 1) := by decide +kernel
theorem dX6_lengths_102 : decode cX6_lengths 102 = .ok (.iaload, 1) := by decide +kernel
theorem dX6_lengths_103 : decode cX6_lengths 103 = .ok (.ifCond .ne 16, 3) := by decide +kernel
theorem dX6_lengths_106 : decode cX6_lengths 106 = .ok (.aload_n 0, 1) := by decide +kernel
theorem dX6_lengths_107 : decode cX6_lengths 107 = .ok (.getfield 72, 3) := by decide +kernel
theorem dX6_lengths_110 : decode cX6_lengths 110 = .ok (.iload_n 2, 1) := by decide +kernel
theorem dX6_lengths_111 : decode cX6_lengths 111 = .ok (.dup2, 1) := by decide +kernel
theorem dX6_lengths_112 : decode cX6_lengths 112 = .ok (.iaload, 1) := by decide +kernel
theorem dX6_lengths_113 : decode cX6_lengths 113 = .ok (.iconst 1, 1) := by decide +kernel
theorem dX6_lengths_114 : decode cX6_lengths 114 = .ok (.iadd, 1) := by decide +kernel
theorem dX6_lengths_115 : decode cX6_lengths 115 = .ok (.iastore, 1) := by decide +kernel
theorem dX6_lengths_116 : decode cX6_lengths 116 = .ok (.goto 75, 3) := by decide +kernel
theorem dX6_lengths_119 : decode cX6_lengths 119 = .ok (.aload_n 0, 1) := by decide +kernel
theorem dX6_lengths_120 : decode cX6_lengths 120 = .ok (.dup, 1) := by decide +kernel
theorem dX6_lengths_121 : decode cX6_lengths 121 = .ok (.getfield 182, 3) := by decide +kernel
theorem dX6_lengths_124 : decode cX6_lengths 124 = .ok (.iload_n 2, 1) := by decide +kernel
theorem dX6_lengths_125 : decode cX6_lengths 125 = .ok (.iadd, 1) := by decide +kernel
theorem dX6_lengths_126 : decode cX6_lengths 126 = .ok (.putfield 182, 3) := by decide +kernel
theorem dX6_lengths_129 : decode cX6_lengths 129 = .ok (.aload_n 0, 1) := by decide +kernel
theorem dX6_lengths_130 : decode cX6_lengths 130 = .ok (.aload_n 0, 1) := by decide +kernel
theorem dX6_lengths_131 : decode cX6_lengths 131 = .ok (.getfield 185, 3) := by decide +kernel
theorem dX6_lengths_134 : decode cX6_lengths 134 = .ok (.ifCond .ne 18, 3) := by decide +kernel
theorem dX6_lengths_137 : decode cX6_lengths 137 = .ok (.aload_n 0, 1) := by decide +kernel
theorem dX6_lengths_138 : decode cX6_lengths 138 = .ok (.getfield 38, 3) := by decide +kernel
theorem dX6_lengths_141 : decode cX6_lengths 141 = .ok (.iload_n 1, 1) := by decide +kernel
theorem dX6_lengths_142 : decode cX6_lengths 142 = .ok (.iaload, 1) := by decide +kernel
theorem dX6_lengths_143 : decode cX6_lengths 143 = .ok (.iconst 1, 1) := by decide +kernel
theorem dX6_lengths_144 : decode cX6_lengths 144 = .ok (.if_icmp .ne 12, 3) := by decide +kernel
theorem dX6_lengths_147 : decode cX6_lengths 147 = .ok (.iload_n 2, 1) := by decide +kernel
theorem dX6_lengths_148 : decode cX6_lengths 148 = .ok (.iconst 2, 1) := by decide +kernel
theorem dX6_lengths_149 : decode cX6_lengths 149 = .ok (.if_icmp .lt 7, 3) := by decide +kernel
theorem dX6_lengths_152 : decode cX6_lengths 152 = .ok (.iconst 1, 1) := by decide +kernel
theorem dX6_lengths_153 : decode cX6_lengths 153 = .ok (.goto 4, 3) := by decide +kernel
theorem dX6_lengths_156 : decode cX6_lengths 156 = .ok (.iconst 0, 1) := by decide +kernel
theorem dX6_lengths_157 : decode cX6_lengths 157 = .ok (.putfield 185, 3) := by decide +kernel
theorem dX6_lengths_160 : decode cX6_lengths 160 = .ok (.aload_n 0, 1) := by decide +kernel
theorem dX6_lengths_161 : decode cX6_lengths 161 = .ok (.aload_n 0, 1) := by decide +kernel
theorem dX6_lengths_162 : decode cX6_lengths 162 = .ok (.getfield 189, 3) := by decide +kernel
theorem dX6_lengths_165 : decode cX6_lengths 165 = .ok (.ifCond .ne 18, 3) := by decide +kernel
theorem dX6_lengths_168 : decode cX6_lengths 168 = .ok (.aload_n 0, 1) := by decide +kernel
theorem dX6_lengths_169 : decode cX6_lengths 169 = .ok (.getfield 38, 3) := by decide +kernel
theorem dX6_lengths_172 : decode cX6_lengths 172 = .ok (.iload_n 1, 1) := by decide +kernel
theorem dX6_lengths_173 : decode cX6_lengths 173 = .ok (.iaload, 1) := by decide +kernel
theorem dX6_lengths_174 : decode cX6_lengths 174 = .ok (.iconst 2, 1) := by decide +kernel
theorem dX6_lengths_175 : decode cX6_lengths 175 = .ok (.if_icmp .ne 12, 3) := by decide +kernel
theorem dX6_lengths_178 : decode cX6_lengths 178 = .ok (.iload_n 2, 1) := by decide +kernel
theorem dX6_lengths_179 : decode cX6_lengths 179 = .ok (.iconst 4, 1) := by decide +kernel
theorem dX6_lengths_180 : decode cX6_lengths 180 = .ok (.if_icmp .lt 7, 3) := by decide +kernel
theorem dX6_lengths_183 : decode cX6_lengths 183 = .ok (.iconst 1, 1) := by decide +kernel
theorem dX6_lengths_184 : decode cX6_lengths 184 = .ok (.goto 4, 3) := by decide +kernel
theorem dX6_lengths_187 : decode cX6_lengths 187 = .ok (.iconst 0, 1) := by decide +kernel
theorem dX6_lengths_188 : decode cX6_lengths 188 = .ok (.putfield 189, 3) := by decide +kernel
theorem dX6_lengths_191 : decode cX6_lengths 191 = .ok (.iinc 1 1, 3) := by decide +kernel
theorem dX6_lengths_194 : decode cX6_lengths 194 = .ok (.goto (-135), 3) := by decide +kernel
theorem dX6_lengths_197 : decode cX6_lengths 197 = .ok (.aload_n 0, 1) := by decide +kernel
theorem dX6_lengths_198 : decode cX6_lengths 198 = .ok (.aload_n 0, 1) := by decide +kernel
theorem dX6_lengths_199 : decode cX6_lengths 199 = .ok (.getfield 72, 3) := by decide +kernel
theorem dX6_lengths_202 : decode cX6_lengths 202 = .ok (.aload_n 0, 1) := by decide +kernel
theorem dX6_lengths_203 : decode cX6_lengths 203 = .ok (.getfield 75, 3) := by decide +kernel
theorem dX6_lengths_206 : decode cX6_lengths 206 = .ok (.invokevirtual 192, 3) := by decide +kernel
theorem dX6_lengths_209 : decode cX6_lengths 209 = .ok (.ireturn, 1) := by decide +kernel
theorem dX6_left_0 : decode cX6_left 0 = .ok (.aload_n 0, 1) := by decide +kernel
theorem dX6_left_1 : decode cX6_left 1 = .ok (.getfield 69, 3) := by decide +kernel
theorem dX6_left_4 : decode cX6_left 4 = .ok (.aload_n 0, 1) := by decide +kernel
theorem dX6_left_5 : decode cX6_left 5 = .ok (.getfield 176, 3) := by decide +kernel
theorem dX6_left_8 : decode cX6_left 8 = .ok (.iaload, 1) := by decide +kernel
theorem dX6_left_9 : decode cX6_left 9 = .ok (.istore_n 1, 1) := by decide +kernel
theorem dX6_left_10 : decode cX6_left 10 = .ok (.ldc 159, 2) := by decide +kernel
theorem dX6_left_12 : decode cX6_left 12 = .ok (.istore_n 2, 1) := by decide +kernel
theorem dX6_left_13 : decode cX6_left 13 = .ok (.aload_n 0, 1) := by decide +kernel
theorem dX6_left_14 : decode cX6_left 14 = .ok (.getfield 185, 3) := by decide +kernel
theorem dX6_left_17 : decode cX6_left 17 = .ok (.ifCond .eq 16, 3) := by decide +kernel
theorem dX6_left_20 : decode cX6_left 20 = .ok (.iload_n 2, 1) := by decide +kernel
theorem dX6_left_21 : decode cX6_left 21 = .ok (.aload_n 0, 1) := by decide +kernel
theorem dX6_left_22 : decode cX6_left 22 = .ok (.getfield 182, 3) := by decide +kernel
theorem dX6_left_25 : decode cX6_left 25 = .ok (.iconst 4, 1) := by decide +kernel
theorem dX6_left_26 : decode cX6_left 26 = .ok (.isub, 1) := by decide +kernel
theorem dX6_left_27 : decode cX6_left 27 = .ok (.iload_n 1, 1) := by decide +kernel
theorem dX6_left_28 : decode cX6_left 28 = .ok (.isub, 1) := by decide +kernel
theorem dX6_left_29 : decode cX6_left 29 = .ok (.invokestatic 148, 3) := by decide +kernel
theorem dX6_left_32 : decode cX6_left 32 = .ok (.istore_n 2, 1) := by decide +kernel
theorem dX6_left_33 : decode cX6_left 33 = .ok (.aload_n 0, 1) := by decide +kernel
theorem dX6_left_34 : decode cX6_left 34 = .ok (.getfield 189, 3) := by decide +kernel
theorem dX6_left_37 : decode cX6_left 37 = .ok (.ifCond .eq 17, 3) := by decide +kernel
theorem dX6_left_40 : decode cX6_left 40 = .ok (.iload_n 2, 1) := by decide +kernel
theorem dX6_left_41 : decode cX6_left 41 = .ok (.aload_n 0, 1) := by decide +kernel
theorem dX6_left_42 : decode cX6_left 42 = .ok (.getfield 182, 3) := by decide +kernel
theorem dX6_left_45 : decode cX6_left 45 = .ok (.bipush 8, 2) := by decide +kernel
theorem dX6_left_47 : decode cX6_left 47 = .ok (.isub, 1) := by decide +kernel
theorem dX6_left_48 : decode cX6_left 48 = .ok (.iload_n 1, 1) := by decide +kernel
theorem dX6_left_49 : decode cX6_left 49 = .ok (.isub, 1) := by decide +kernel
theorem dX6_left_50 : decode cX6_left 50 = .ok (.invokestatic 148, 3) := by decide +kernel
theorem dX6_left_53 : decode cX6_left 53 = .ok (.istore_n 2, 1) := by decide +kernel
theorem dX6_left_54 : decode cX6_left 54 = .ok (.iload_n 2, 1) := by decide +kernel
theorem dX6_left_55 : decode cX6_left 55 = .ok (.ireturn, 1) := by decide +kernel
theorem dX6_simple_0 : decode cX6_simple 0 = .ok (.aload_n 0, 1) := by decide +kernel
theorem dX6_simple_1 : decode cX6_simple 1 = .ok (.invokevirtual 195, 3) := by decide +kernel
theorem dX6_simple_4 : decode cX6_simple 4 = .ok (.ifCond .ne 7, 3) := by decide +kernel
theorem dX6_simple_7 : decode cX6_simple 7 = .ok (.sipush 1000, 3) := by decide +kernel
theorem dX6_simple_10 : decode cX6_simple 10 = .ok (.ireturn, 1) := by decide +kernel
theorem dX6_simple_11 : decode cX6_simple 11 = .ok (.aload_n 0, 1) := by decide +kernel
theorem dX6_simple_12 : decode cX6_simple 12 = .ok (.getfield 182, 3) := by decide +kernel
theorem dX6_simple_15 : decode cX6_simple 15 = .ok (.aload_n 0, 1) := by decide +kernel
theorem dX6_simple_16 : decode cX6_simple 16 = .ok (.getfield 69, 3) := by decide +kernel
theorem dX6_simple_19 : decode cX6_simple 19 = .ok (.aload_n 0, 1) := by decide +kernel
theorem dX6_simple_20 : decode cX6_simple 20 = .ok (.getfield 176, 3) := by decide +kernel
theorem dX6_simple_23 : decode cX6_simple 23 = .ok (.iaload, 1) := by decide +kernel
theorem dX6_simple_24 : decode cX6_simple 24 = .ok (.iadd, 1) := by decide +kernel
theorem dX6_simple_25 : decode cX6_simple 25 = .ok (.istore_n 1, 1) := by decide +kernel
theorem dX6_simple_26 : decode cX6_simple 26 = .ok (.aload_n 0, 1) := by decide +kernel
theorem dX6_simple_27 : decode cX6_simple 27 = .ok (.getfield 182, 3) := by decide +kernel
theorem dX6_simple_30 : decode cX6_simple 30 = .ok (.ifCond .ne 15, 3) := by decide +kernel
theorem dX6_simple_33 : decode cX6_simple 33 = .ok (.aload_n 0, 1) := by decide +kernel
theorem dX6_simple_34 : decode cX6_simple 34 = .ok (.getfield 69, 3) := by decide +kernel
theorem dX6_simple_37 : decode cX6_simple 37 = .ok (.aload_n 0, 1) := by decide +kernel
theorem dX6_simple_38 : decode cX6_simple 38 = .ok (.getfield 176, 3) := by decide +kernel
theorem dX6_simple_41 : decode cX6_simple 41 = .ok (.iaload, 1) := by decide +kernel
theorem dX6_simple_42 : decode cX6_simple 42 = .ok (.goto 11, 3) := by decide +kernel
theorem dX6_simple_45 : decode cX6_simple 45 = .ok (.iload_n 1, 1) := by decide +kernel
theorem dX6_simple_46 : decode cX6_simple 46 = .ok (.aload_n 0, 1) := by decide +kernel
theorem dX6_simple_47 : decode cX6_simple 47 = .ok (.invokevirtual 198, 3) := by decide +kernel
theorem dX6_simple_50 : decode cX6_simple 50 = .ok (.invokestatic 148, 3) := by decide +kernel
theorem dX6_simple_53 : decode cX6_simple 53 = .ok (.ireturn, 1) := by decide +kernel
theorem dX6_keep_0 : decode cX6_keep 0 = .ok (.aload_n 0, 1) := by decide +kernel
theorem dX6_keep_1 : decode cX6_keep 1 = .ok (.invokevirtual 195, 3) := by decide +kernel
theorem dX6_keep_4 : decode cX6_keep 4 = .ok (.ifCond .eq 10, 3) := by decide +kernel
theorem dX6_keep_7 : decode cX6_keep 7 = .ok (.aload_n 0, 1) := by decide +kernel
theorem dX6_keep_8 : decode cX6_keep 8 = .ok (.getfield 182, 3) := by decide +kernel
theorem dX6_keep_11 : decode cX6_keep 11 = .ok (.ifCond .ne 7, 3) := by decide +kernel
theorem dX6_keep_14 : decode cX6_keep 14 = .ok (.sipush 1000, 3) := by decide +kernel
theorem dX6_keep_17 : decode cX6_keep 17 = .ok (.ireturn, 1) := by decide +kernel
theorem dX6_keep_18 : decode cX6_keep 18 = .ok (.aload_n 0, 1) := by decide +kernel
theorem dX6_keep_19 : decode cX6_keep 19 = .ok (.getfield 182, 3) := by decide +kernel
theorem dX6_keep_22 : decode cX6_keep 22 = .ok (.aload_n 0, 1) := by decide +kernel
theorem dX6_keep_23 : decode cX6_keep 23 = .ok (.getfield 69, 3) := by decide +kernel
theorem dX6_keep_26 : decode cX6_keep 26 = .ok (.aload_n 0, 1) := by decide +kernel
theorem dX6_keep_27 : decode cX6_keep 27 = .ok (.getfield 176, 3) := by decide +kernel
theorem dX6_keep_30 : decode cX6_keep 30 = .ok (.iaload, 1) := by decide +kernel
theorem dX6_keep_31 : decode cX6_keep 31 = .ok (.iadd, 1) := by decide +kernel
theorem dX6_keep_32 : decode cX6_keep 32 = .ok (.aload_n 0, 1) := by decide +kernel
theorem dX6_keep_33 : decode cX6_keep 33 = .ok (.invokevirtual 198, 3) := by decide +kernel
theorem dX6_keep_36 : decode cX6_keep 36 = .ok (.invokestatic 201, 3) := by decide +kernel
theorem dX6_keep_39 : decode cX6_keep 39 = .ok (.ireturn, 1) := by decide +kernel
theorem dX6_give_0 : decode cX6_give 0 = .ok (.aload_n 0, 1) := by decide +kernel
theorem dX6_give_1 : decode cX6_give 1 = .ok (.invokevirtual 195, 3) := by decide +kernel
theorem dX6_give_4 : decode cX6_give 4 = .ok (.ifCond .eq 10, 3) := by decide +kernel
theorem dX6_give_7 : decode cX6_give 7 = .ok (.aload_n 0, 1) := by decide +kernel
theorem dX6_give_8 : decode cX6_give 8 = .ok (.getfield 182, 3) := by decide +kernel
theorem dX6_give_11 : decode cX6_give 11 = .ok (.ifCond .le 7, 3) := by decide +kernel
theorem dX6_give_14 : decode cX6_give 14 = .ok (.iconst (-1), 1) := by decide +kernel
theorem dX6_give_15 : decode cX6_give 15 = .ok (.goto 8, 3) := by decide +kernel
theorem dX6_give_18 : decode cX6_give 18 = .ok (.aload_n 0, 1) := by decide +kernel
theorem dX6_give_19 : decode cX6_give 19 = .ok (.iload_n 1, 1) := by decide +kernel
theorem dX6_give_20 : decode cX6_give 20 = .ok (.invokevirtual 204, 3) := by decide +kernel
theorem dX6_give_23 : decode cX6_give 23 = .ok (.ireturn, 1) := by decide +kernel
theorem dX6_longs_0 : decode cX6_longs 0 = .ok (.aload_n 0, 1) := by decide +kernel
theorem dX6_longs_1 : decode cX6_longs 1 = .ok (.invokevirtual 151, 3) := by decide +kernel
theorem dX6_longs_4 : decode cX6_longs 4 = .ok (.iconst 0, 1) := by decide +kernel
theorem dX6_longs_5 : decode cX6_longs 5 = .ok (.istore_n 1, 1) := by decide +kernel
theorem dX6_longs_6 : decode cX6_longs 6 = .ok (.iconst 0, 1) := by decide +kernel
theorem dX6_longs_7 : decode cX6_longs 7 = .ok (.istore_n 2, 1) := by decide +kernel
theorem dX6_longs_8 : decode cX6_longs 8 = .ok (.iload_n 2, 1) := by decide +kernel
theorem dX6_longs_9 : decode cX6_longs 9 = .ok (.aload_n 0, 1) := by decide +kernel
theorem dX6_longs_10 : decode cX6_longs 10 = .ok (.getfield 135, 3) := by decide +kernel
theorem dX6_longs_13 : decode cX6_longs 13 = .ok (.if_icmp .ge 55, 3) := by decide +kernel
theorem dX6_longs_16 : decode cX6_longs 16 = .ok (.iload_n 1, 1) := by decide +kernel
theorem dX6_longs_17 : decode cX6_longs 17 = .ok (.aload_n 0, 1) := by decide +kernel
theorem dX6_longs_18 : decode cX6_longs 18 = .ok (.getfield 41, 3) := by decide +kernel
theorem dX6_longs_21 : decode cX6_longs 21 = .ok (.iload_n 2, 1) := by decide +kernel
theorem dX6_longs_22 : decode cX6_longs 22 = .ok (.iaload, 1) := by decide +kernel
theorem dX6_longs_23 : decode cX6_longs 23 = .ok (.iconst 1, 1) := by decide +kernel
theorem dX6_longs_24 : decode cX6_longs 24 = .ok (.if_icmp .eq 31, 3) := by decide +kernel
theorem dX6_longs_27 : decode cX6_longs 27 = .ok (.aload_n 0, 1) := by decide +kernel
theorem dX6_longs_28 : decode cX6_longs 28 = .ok (.getfield 41, 3) := by decide +kernel
theorem dX6_longs_31 : decode cX6_longs 31 = .ok (.iload_n 2, 1) := by decide +kernel
theorem dX6_longs_32 : decode cX6_longs 32 = .ok (.iaload, 1) := by decide +kernel
theorem dX6_longs_33 : decode cX6_longs 33 = .ok (.ifCond .ne 26, 3) := by decide +kernel
theorem dX6_longs_36 : decode cX6_longs 36 = .ok (.aload_n 0, 1) := by decide +kernel
theorem dX6_longs_37 : decode cX6_longs 37 = .ok (.getfield 38, 3) := by decide +kernel
theorem dX6_longs_40 : decode cX6_longs 40 = .ok (.iload_n 2, 1) := by decide +kernel
theorem dX6_longs_41 : decode cX6_longs 41 = .ok (.iaload, 1) := by decide +kernel
theorem dX6_longs_42 : decode cX6_longs 42 = .ok (.ifCond .ne 17, 3) := by decide +kernel
theorem dX6_longs_45 : decode cX6_longs 45 = .ok (.aload_n 0, 1) := by decide +kernel
theorem dX6_longs_46 : decode cX6_longs 46 = .ok (.getfield 32, 3) := by decide +kernel
theorem dX6_longs_49 : decode cX6_longs 49 = .ok (.iload_n 2, 1) := by decide +kernel
theorem dX6_longs_50 : decode cX6_longs 50 = .ok (.iaload, 1) := by decide +kernel
theorem dX6_longs_51 : decode cX6_longs 51 = .ok (.iconst 3, 1) := by decide +kernel
theorem dX6_longs_52 : decode cX6_longs 52 = .ok (.if_icmp .lt 7, 3) := by decide +kernel
theorem dX6_longs_55 : decode cX6_longs 55 = .ok (.iconst 1, 1) := by decide +kernel
theorem dX6_longs_56 : decode cX6_longs 56 = .ok (.goto 4, 3) := by decide +kernel
theorem dX6_longs_59 : decode cX6_longs 59 = .ok (.iconst 0, 1) := by decide +kernel
theorem dX6_longs_60 : decode cX6_longs 60 = .ok (.iadd, 1) := by decide +kernel
theorem dX6_longs_61 : decode cX6_longs 61 = .ok (.istore_n 1, 1) := by decide +kernel
theorem dX6_longs_62 : decode cX6_longs 62 = .ok (.iinc 2 1, 3) := by decide +kernel
theorem dX6_longs_65 : decode cX6_longs 65 = .ok (.goto (-57), 3) := by decide +kernel
theorem dX6_longs_68 : decode cX6_longs 68 = .ok (.iload_n 1, 1) := by decide +kernel
theorem dX6_longs_69 : decode cX6_longs 69 = .ok (.ireturn, 1) := by decide +kernel
theorem dX6_count_0 : decode cX6_count 0 = .ok (.aload_n 0, 1) := by decide +kernel
theorem dX6_count_1 : decode cX6_count 1 = .ok (.invokevirtual 151, 3) := by decide +kernel
theorem dX6_count_4 : decode cX6_count 4 = .ok (.iconst 0, 1) := by decide +kernel
theorem dX6_count_5 : decode cX6_count 5 = .ok (.istore_n 2, 1) := by decide +kernel
theorem dX6_count_6 : decode cX6_count 6 = .ok (.iload_n 1, 1) := by decide +kernel
theorem dX6_count_7 : decode cX6_count 7 = .ok (.tableswitch 163 0 9 #[53, 58, 63, 68, 130, 135, 145, 150, 68, 68], 53) := by decide +kernel
theorem dX6_count_60 : decode cX6_count 60 = .ok (.aload_n 0, 1) := by decide +kernel
theorem dX6_count_61 : decode cX6_count 61 = .ok (.getfield 88, 3) := by decide +kernel
theorem dX6_count_64 : decode cX6_count 64 = .ok (.ireturn, 1) := by decide +kernel
theorem dX6_count_65 : decode cX6_count 65 = .ok (.aload_n 0, 1) := by decide +kernel
theorem dX6_count_66 : decode cX6_count 66 = .ok (.getfield 91, 3) := by decide +kernel
theorem dX6_count_69 : decode cX6_count 69 = .ok (.ireturn, 1) := by decide +kernel
theorem dX6_count_70 : decode cX6_count 70 = .ok (.aload_n 0, 1) := by decide +kernel
theorem dX6_count_71 : decode cX6_count 71 = .ok (.invokevirtual 131, 3) := by decide +kernel
theorem dX6_count_74 : decode cX6_count 74 = .ok (.ireturn, 1) := by decide +kernel
theorem dX6_count_75 : decode cX6_count 75 = .ok (.iconst 0, 1) := by decide +kernel
theorem dX6_count_76 : decode cX6_count 76 = .ok (.istore_n 3, 1) := by decide +kernel
theorem dX6_count_77 : decode cX6_count 77 = .ok (.iload_n 3, 1) := by decide +kernel
theorem dX6_count_78 : decode cX6_count 78 = .ok (.aload_n 0, 1) := by decide +kernel
theorem dX6_count_79 : decode cX6_count 79 = .ok (.getfield 88, 3) := by decide +kernel
theorem dX6_count_82 : decode cX6_count 82 = .ok (.if_icmp .ge 53, 3) := by decide +kernel
theorem dX6_count_85 : decode cX6_count 85 = .ok (.iload_n 2, 1) := by decide +kernel
theorem dX6_count_86 : decode cX6_count 86 = .ok (.iload_n 1, 1) := by decide +kernel
theorem dX6_count_87 : decode cX6_count 87 = .ok (.iconst 3, 1) := by decide +kernel
theorem dX6_count_88 : decode cX6_count 88 = .ok (.if_icmp .ne 21, 3) := by decide +kernel
theorem dX6_count_91 : decode cX6_count 91 = .ok (.aload_n 0, 1) := by decide +kernel
theorem dX6_count_92 : decode cX6_count 92 = .ok (.getfield 26, 3) := by decide +kernel
theorem dX6_count_95 : decode cX6_count 95 = .ok (.iload_n 3, 1) := by decide +kernel
theorem dX6_count_96 : decode cX6_count 96 = .ok (.iaload, 1) := by decide +kernel
theorem dX6_count_97 : decode cX6_count 97 = .ok (.iconst (-1), 1) := by decide +kernel
theorem dX6_count_98 : decode cX6_count 98 = .ok (.if_icmp .eq 7, 3) := by decide +kernel
theorem dX6_count_101 : decode cX6_count 101 = .ok (.iconst 1, 1) := by decide +kernel
theorem dX6_count_102 : decode cX6_count 102 = .ok (.goto 25, 3) := by decide +kernel
theorem dX6_count_105 : decode cX6_count 105 = .ok (.iconst 0, 1) := by decide +kernel
theorem dX6_count_106 : decode cX6_count 106 = .ok (.goto 21, 3) := by decide +kernel
theorem dX6_count_109 : decode cX6_count 109 = .ok (.aload_n 0, 1) := by decide +kernel
theorem dX6_count_110 : decode cX6_count 110 = .ok (.getfield 26, 3) := by decide +kernel
theorem dX6_count_113 : decode cX6_count 113 = .ok (.iload_n 3, 1) := by decide +kernel
theorem dX6_count_114 : decode cX6_count 114 = .ok (.iaload, 1) := by decide +kernel
theorem dX6_count_115 : decode cX6_count 115 = .ok (.iload_n 1, 1) := by decide +kernel
theorem dX6_count_116 : decode cX6_count 116 = .ok (.bipush 8, 2) := by decide +kernel
theorem dX6_count_118 : decode cX6_count 118 = .ok (.isub, 1) := by decide +kernel
theorem dX6_count_119 : decode cX6_count 119 = .ok (.if_icmp .ne 7, 3) := by decide +kernel
theorem dX6_count_122 : decode cX6_count 122 = .ok (.iconst 1, 1) := by decide +kernel
theorem dX6_count_123 : decode cX6_count 123 = .ok (.goto 4, 3) := by decide +kernel
theorem dX6_count_126 : decode cX6_count 126 = .ok (.iconst 0, 1) := by decide +kernel
theorem dX6_count_127 : decode cX6_count 127 = .ok (.iadd, 1) := by decide +kernel
theorem dX6_count_128 : decode cX6_count 128 = .ok (.istore_n 2, 1) := by decide +kernel
theorem dX6_count_129 : decode cX6_count 129 = .ok (.iinc 3 1, 3) := by decide +kernel
theorem dX6_count_132 : decode cX6_count 132 = .ok (.goto (-55), 3) := by decide +kernel
theorem dX6_count_135 : decode cX6_count 135 = .ok (.iload_n 2, 1) := by decide +kernel
theorem dX6_count_136 : decode cX6_count 136 = .ok (.ireturn, 1) := by decide +kernel
theorem dX6_count_137 : decode cX6_count 137 = .ok (.aload_n 0, 1) := by decide +kernel
theorem dX6_count_138 : decode cX6_count 138 = .ok (.getfield 105, 3) := by decide +kernel
theorem dX6_count_141 : decode cX6_count 141 = .ok (.ireturn, 1) := by decide +kernel
theorem dX6_count_142 : decode cX6_count 142 = .ok (.aload_n 0, 1) := by decide +kernel
theorem dX6_count_143 : decode cX6_count 143 = .ok (.getfield 111, 3) := by decide +kernel
theorem dX6_count_146 : decode cX6_count 146 = .ok (.aload_n 0, 1) := by decide +kernel
theorem dX6_count_147 : decode cX6_count 147 = .ok (.getfield 105, 3) := by decide +kernel
theorem dX6_count_150 : decode cX6_count 150 = .ok (.isub, 1) := by decide +kernel
theorem dX6_count_151 : decode cX6_count 151 = .ok (.ireturn, 1) := by decide +kernel
theorem dX6_count_152 : decode cX6_count 152 = .ok (.aload_n 0, 1) := by decide +kernel
theorem dX6_count_153 : decode cX6_count 153 = .ok (.getfield 135, 3) := by decide +kernel
theorem dX6_count_156 : decode cX6_count 156 = .ok (.ireturn, 1) := by decide +kernel
theorem dX6_count_157 : decode cX6_count 157 = .ok (.aload_n 0, 1) := by decide +kernel
theorem dX6_count_158 : decode cX6_count 158 = .ok (.invokevirtual 179, 3) := by decide +kernel
theorem dX6_count_161 : decode cX6_count 161 = .ok (.ifCond .eq 7, 3) := by decide +kernel
theorem dX6_count_164 : decode cX6_count 164 = .ok (.iconst 1, 1) := by decide +kernel
theorem dX6_count_165 : decode cX6_count 165 = .ok (.goto 4, 3) := by decide +kernel
theorem dX6_count_168 : decode cX6_count 168 = .ok (.iconst 0, 1) := by decide +kernel
theorem dX6_count_169 : decode cX6_count 169 = .ok (.ireturn, 1) := by decide +kernel
theorem dX6_count_170 : decode cX6_count 170 = .ok (.iconst (-1), 1) := by decide +kernel
theorem dX6_count_171 : decode cX6_count 171 = .ok (.ireturn, 1) := by decide +kernel
theorem dX6_empty_0 : decode cX6_empty 0 = .ok (.aload_n 0, 1) := by decide +kernel
theorem dX6_empty_1 : decode cX6_empty 1 = .ok (.iconst 0, 1) := by decide +kernel
theorem dX6_empty_2 : decode cX6_empty 2 = .ok (.putfield 84, 3) := by decide +kernel
theorem dX6_empty_5 : decode cX6_empty 5 = .ok (.iconst 0, 1) := by decide +kernel
theorem dX6_empty_6 : decode cX6_empty 6 = .ok (.istore_n 1, 1) := by decide +kernel
theorem dX6_empty_7 : decode cX6_empty 7 = .ok (.iload_n 1, 1) := by decide +kernel
theorem dX6_empty_8 : decode cX6_empty 8 = .ok (.sipush 201, 3) := by decide +kernel
theorem dX6_empty_11 : decode cX6_empty 11 = .ok (.if_icmp .ge 23, 3) := by decide +kernel
theorem dX6_empty_14 : decode cX6_empty 14 = .ok (.aload_n 0, 1) := by decide +kernel
theorem dX6_empty_15 : decode cX6_empty 15 = .ok (.getfield 78, 3) := by decide +kernel
theorem dX6_empty_18 : decode cX6_empty 18 = .ok (.iload_n 1, 1) := by decide +kernel
theorem dX6_empty_19 : decode cX6_empty 19 = .ok (.iconst 0, 1) := by decide +kernel
theorem dX6_empty_20 : decode cX6_empty 20 = .ok (.iastore, 1) := by decide +kernel
theorem dX6_empty_21 : decode cX6_empty 21 = .ok (.aload_n 0, 1) := by decide +kernel
theorem dX6_empty_22 : decode cX6_empty 22 = .ok (.getfield 81, 3) := by decide +kernel
theorem dX6_empty_25 : decode cX6_empty 25 = .ok (.iload_n 1, 1) := by decide +kernel
theorem dX6_empty_26 : decode cX6_empty 26 = .ok (.iconst 0, 1) := by decide +kernel
theorem dX6_empty_27 : decode cX6_empty 27 = .ok (.iastore, 1) := by decide +kernel
theorem dX6_empty_28 : decode cX6_empty 28 = .ok (.iinc 1 1, 3) := by decide +kernel
theorem dX6_empty_31 : decode cX6_empty 31 = .ok (.goto (-24), 3) := by decide +kernel
theorem dX6_empty_34 : decode cX6_empty 34 = .ok (.return_, 1) := by decide +kernel
theorem dX6_heap_0 : decode cX6_heap 0 = .ok (.aload_n 0, 1) := by decide +kernel
theorem dX6_heap_1 : decode cX6_heap 1 = .ok (.iconst 0, 1) := by decide +kernel
theorem dX6_heap_2 : decode cX6_heap 2 = .ok (.putfield 84, 3) := by decide +kernel
theorem dX6_heap_5 : decode cX6_heap 5 = .ok (.iload_n 2, 1) := by decide +kernel
theorem dX6_heap_6 : decode cX6_heap 6 = .ok (.iload_n 1, 1) := by decide +kernel
theorem dX6_heap_7 : decode cX6_heap 7 = .ok (.ifCond .eq 7, 3) := by decide +kernel
theorem dX6_heap_10 : decode cX6_heap 10 = .ok (.iconst 2, 1) := by decide +kernel
theorem dX6_heap_11 : decode cX6_heap 11 = .ok (.goto 4, 3) := by decide +kernel
theorem dX6_heap_14 : decode cX6_heap 14 = .ok (.iconst 1, 1) := by decide +kernel
theorem dX6_heap_15 : decode cX6_heap 15 = .ok (.if_icmp .lt 21, 3) := by decide +kernel
theorem dX6_heap_18 : decode cX6_heap 18 = .ok (.iload_n 2, 1) := by decide +kernel
theorem dX6_heap_19 : decode cX6_heap 19 = .ok (.sipush 200, 3) := by decide +kernel
theorem dX6_heap_22 : decode cX6_heap 22 = .ok (.if_icmp .gt 14, 3) := by decide +kernel
theorem dX6_heap_25 : decode cX6_heap 25 = .ok (.iload_n 3, 1) := by decide +kernel
theorem dX6_heap_26 : decode cX6_heap 26 = .ok (.iconst 1, 1) := by decide +kernel
theorem dX6_heap_27 : decode cX6_heap 27 = .ok (.if_icmp .lt 9, 3) := by decide +kernel
theorem dX6_heap_30 : decode cX6_heap 30 = .ok (.iload_n 3, 1) := by decide +kernel
theorem dX6_heap_31 : decode cX6_heap 31 = .ok (.bipush 100, 2) := by decide +kernel
theorem dX6_heap_33 : decode cX6_heap 33 = .ok (.if_icmp .le 5, 3) := by decide +kernel
theorem dX6_heap_36 : decode cX6_heap 36 = .ok (.iconst (-1), 1) := by decide +kernel
theorem dX6_heap_37 : decode cX6_heap 37 = .ok (.ireturn, 1) := by decide +kernel
theorem dX6_heap_38 : decode cX6_heap 38 = .ok (.iload_n 1, 1) := by decide +kernel
theorem dX6_heap_39 : decode cX6_heap 39 = .ok (.ifCond .eq 10, 3) := by decide +kernel
theorem dX6_heap_42 : decode cX6_heap 42 = .ok (.aload_n 0, 1) := by decide +kernel
theorem dX6_heap_43 : decode cX6_heap 43 = .ok (.getfield 81, 3) := by decide +kernel
theorem dX6_heap_46 : decode cX6_heap 46 = .ok (.goto 7, 3) := by decide +kernel
theorem dX6_heap_49 : decode cX6_heap 49 = .ok (.aload_n 0, 1) := by decide +kernel
theorem dX6_heap_50 : decode cX6_heap 50 = .ok (.getfield 78, 3) := by decide +kernel
theorem dX6_heap_53 : decode cX6_heap 53 = .ok (.astore 4, 2) := by decide +kernel
theorem dX6_heap_55 : decode cX6_heap 55 = .ok (.iconst 0, 1) := by decide +kernel
theorem dX6_heap_56 : decode cX6_heap 56 = .ok (.istore 5, 2) := by decide +kernel
theorem dX6_heap_58 : decode cX6_heap 58 = .ok (.iconst 0, 1) := by decide +kernel
theorem dX6_heap_59 : decode cX6_heap 59 = .ok (.istore 6, 2) := by decide +kernel
theorem dX6_heap_61 : decode cX6_heap 61 = .ok (.iload 6, 2) := by decide +kernel
theorem dX6_heap_63 : decode cX6_heap 63 = .ok (.sipush 201, 3) := by decide +kernel
theorem dX6_heap_66 : decode cX6_heap 66 = .ok (.if_icmp .ge 45, 3) := by decide +kernel
theorem dX6_heap_69 : decode cX6_heap 69 = .ok (.iload 5, 2) := by decide +kernel
theorem dX6_heap_71 : decode cX6_heap 71 = .ok (.aload_n 0, 1) := by decide +kernel
theorem dX6_heap_72 : decode cX6_heap 72 = .ok (.getfield 78, 3) := by decide +kernel
theorem dX6_heap_75 : decode cX6_heap 75 = .ok (.iload 6, 2) := by decide +kernel
theorem dX6_heap_77 : decode cX6_heap 77 = .ok (.iaload, 1) := by decide +kernel
theorem dX6_heap_78 : decode cX6_heap 78 = .ok (.ifCond .le 7, 3) := by decide +kernel
theorem dX6_heap_81 : decode cX6_heap 81 = .ok (.iconst 1, 1) := by decide +kernel
theorem dX6_heap_82 : decode cX6_heap 82 = .ok (.goto 4, 3) := by decide +kernel
theorem dX6_heap_85 : decode cX6_heap 85 = .ok (.iconst 0, 1) := by decide +kernel
theorem dX6_heap_86 : decode cX6_heap 86 = .ok (.aload_n 0, 1) := by decide +kernel
theorem dX6_heap_87 : decode cX6_heap 87 = .ok (.getfield 81, 3) := by decide +kernel
theorem dX6_heap_90 : decode cX6_heap 90 = .ok (.iload 6, 2) := by decide +kernel
theorem dX6_heap_92 : decode cX6_heap 92 = .ok (.iaload, 1) := by decide +kernel
theorem dX6_heap_93 : decode cX6_heap 93 = .ok (.ifCond .le 7, 3) := by decide +kernel
theorem dX6_heap_96 : decode cX6_heap 96 = .ok (.iconst 1, 1) := by decide +kernel
theorem dX6_heap_97 : decode cX6_heap 97 = .ok (.goto 4, 3) := by decide +kernel
theorem dX6_heap_100 : decode cX6_heap 100 = .ok (.iconst 0, 1) := by decide +kernel
theorem dX6_heap_101 : decode cX6_heap 101 = .ok (.iadd, 1) := by decide +kernel
theorem dX6_heap_102 : decode cX6_heap 102 = .ok (.iadd, 1) := by decide +kernel
theorem dX6_heap_103 : decode cX6_heap 103 = .ok (.istore 5, 2) := by decide +kernel
theorem dX6_heap_105 : decode cX6_heap 105 = .ok (.iinc 6 1, 3) := by decide +kernel
theorem dX6_heap_108 : decode cX6_heap 108 = .ok (.goto (-47), 3) := by decide +kernel
theorem dX6_heap_111 : decode cX6_heap 111 = .ok (.aload 4, 2) := by decide +kernel
theorem dX6_heap_113 : decode cX6_heap 113 = .ok (.iload_n 2, 1) := by decide +kernel
theorem dX6_heap_114 : decode cX6_heap 114 = .ok (.iaload, 1) := by decide +kernel
theorem dX6_heap_115 : decode cX6_heap 115 = .ok (.ifCond .ne 10, 3) := by decide +kernel
theorem dX6_heap_118 : decode cX6_heap 118 = .ok (.iload 5, 2) := by decide +kernel
theorem dX6_heap_120 : decode cX6_heap 120 = .ok (.bipush 30, 2) := by decide +kernel
theorem dX6_heap_122 : decode cX6_heap 122 = .ok (.if_icmp .eq 15, 3) := by decide +kernel
theorem dX6_heap_125 : decode cX6_heap 125 = .ok (.aload 4, 2) := by decide +kernel
theorem dX6_heap_127 : decode cX6_heap 127 = .ok (.iload_n 2, 1) := by decide +kernel
theorem dX6_heap_128 : decode cX6_heap 128 = .ok (.iaload, 1) := by decide +kernel
theorem dX6_heap_129 : decode cX6_heap 129 = .ok (.iload_n 3, 1) := by decide +kernel
theorem dX6_heap_130 : decode cX6_heap 130 = .ok (.iadd, 1) := by decide +kernel
theorem dX6_heap_131 : decode cX6_heap 131 = .ok (.sipush 1000, 3) := by decide +kernel
theorem dX6_heap_134 : decode cX6_heap 134 = .ok (.if_icmp .le 5, 3) := by decide +kernel
theorem dX6_heap_137 : decode cX6_heap 137 = .ok (.iconst (-1), 1) := by decide +kernel
theorem dX6_heap_138 : decode cX6_heap 138 = .ok (.ireturn, 1) := by decide +kernel
theorem dX6_heap_139 : decode cX6_heap 139 = .ok (.aload 4, 2) := by decide +kernel
theorem dX6_heap_141 : decode cX6_heap 141 = .ok (.iload_n 2, 1) := by decide +kernel
theorem dX6_heap_142 : decode cX6_heap 142 = .ok (.dup2, 1) := by decide +kernel
theorem dX6_heap_143 : decode cX6_heap 143 = .ok (.iaload, 1) := by decide +kernel
theorem dX6_heap_144 : decode cX6_heap 144 = .ok (.iload_n 3, 1) := by decide +kernel
theorem dX6_heap_145 : decode cX6_heap 145 = .ok (.iadd, 1) := by decide +kernel
theorem dX6_heap_146 : decode cX6_heap 146 = .ok (.iastore, 1) := by decide +kernel
theorem dX6_heap_147 : decode cX6_heap 147 = .ok (.aload 4, 2) := by decide +kernel
theorem dX6_heap_149 : decode cX6_heap 149 = .ok (.iload_n 2, 1) := by decide +kernel
theorem dX6_heap_150 : decode cX6_heap 150 = .ok (.iaload, 1) := by decide +kernel
theorem dX6_heap_151 : decode cX6_heap 151 = .ok (.ireturn, 1) := by decide +kernel
theorem dX6_value_0 : decode cX6_value 0 = .ok (.aload_n 0, 1) := by decide +kernel
theorem dX6_value_1 : decode cX6_value 1 = .ok (.aload_n 0, 1) := by decide +kernel
theorem dX6_value_2 : decode cX6_value 2 = .ok (.getfield 78, 3) := by decide +kernel
theorem dX6_value_5 : decode cX6_value 5 = .ok (.aload_n 0, 1) := by decide +kernel
theorem dX6_value_6 : decode cX6_value 6 = .ok (.getfield 81, 3) := by decide +kernel
theorem dX6_value_9 : decode cX6_value 9 = .ok (.invokevirtual 192, 3) := by decide +kernel
theorem dX6_value_12 : decode cX6_value 12 = .ok (.istore_n 1, 1) := by decide +kernel
theorem dX6_value_13 : decode cX6_value 13 = .ok (.aload_n 0, 1) := by decide +kernel
theorem dX6_value_14 : decode cX6_value 14 = .ok (.iload_n 1, 1) := by decide +kernel
theorem dX6_value_15 : decode cX6_value 15 = .ok (.ifCond .eq 7, 3) := by decide +kernel
theorem dX6_value_18 : decode cX6_value 18 = .ok (.iconst 0, 1) := by decide +kernel
theorem dX6_value_19 : decode cX6_value 19 = .ok (.goto 4, 3) := by decide +kernel
theorem dX6_value_22 : decode cX6_value 22 = .ok (.iconst 1, 1) := by decide +kernel
theorem dX6_value_23 : decode cX6_value 23 = .ok (.putfield 84, 3) := by decide +kernel
theorem dX6_value_26 : decode cX6_value 26 = .ok (.iload_n 1, 1) := by decide +kernel
theorem dX6_value_27 : decode cX6_value 27 = .ok (.ifCond .eq 15, 3) := by decide +kernel
theorem dX6_value_30 : decode cX6_value 30 = .ok (.aload_n 0, 1) := by decide +kernel
theorem dX6_value_31 : decode cX6_value 31 = .ok (.getfield 69, 3) := by decide +kernel
theorem dX6_value_34 : decode cX6_value 34 = .ok (.aload_n 0, 1) := by decide +kernel
theorem dX6_value_35 : decode cX6_value 35 = .ok (.getfield 176, 3) := by decide +kernel
theorem dX6_value_38 : decode cX6_value 38 = .ok (.iaload, 1) := by decide +kernel
theorem dX6_value_39 : decode cX6_value 39 = .ok (.goto 4, 3) := by decide +kernel
theorem dX6_value_42 : decode cX6_value 42 = .ok (.iconst 0, 1) := by decide +kernel
theorem dX6_value_43 : decode cX6_value 43 = .ok (.ireturn, 1) := by decide +kernel
theorem dX6_open__0 : decode cX6_open_ 0 = .ok (.aload_n 0, 1) := by decide +kernel
theorem dX6_open__1 : decode cX6_open_ 1 = .ok (.iconst 0, 1) := by decide +kernel
theorem dX6_open__2 : decode cX6_open_ 2 = .ok (.putfield 84, 3) := by decide +kernel
theorem dX6_open__5 : decode cX6_open_ 5 = .ok (.aload_n 0, 1) := by decide +kernel
theorem dX6_open__6 : decode cX6_open_ 6 = .ok (.aload_n 0, 1) := by decide +kernel
theorem dX6_open__7 : decode cX6_open_ 7 = .ok (.getfield 78, 3) := by decide +kernel
theorem dX6_open__10 : decode cX6_open_ 10 = .ok (.aload_n 0, 1) := by decide +kernel
theorem dX6_open__11 : decode cX6_open_ 11 = .ok (.getfield 81, 3) := by decide +kernel
theorem dX6_open__14 : decode cX6_open_ 14 = .ok (.invokevirtual 192, 3) := by decide +kernel
theorem dX6_open__17 : decode cX6_open_ 17 = .ok (.ifCond .eq 11, 3) := by decide +kernel
theorem dX6_open__20 : decode cX6_open_ 20 = .ok (.aload_n 0, 1) := by decide +kernel
theorem dX6_open__21 : decode cX6_open_ 21 = .ok (.iload_n 1, 1) := by decide +kernel
theorem dX6_open__22 : decode cX6_open_ 22 = .ok (.invokevirtual 204, 3) := by decide +kernel
theorem dX6_open__25 : decode cX6_open_ 25 = .ok (.goto 4, 3) := by decide +kernel
theorem dX6_open__28 : decode cX6_open_ 28 = .ok (.iconst (-1), 1) := by decide +kernel
theorem dX6_open__29 : decode cX6_open_ 29 = .ok (.ireturn, 1) := by decide +kernel
theorem dJ6_compare_7cf53_0 : decode cJ6_compare_7cf53 0 = .ok (.iload_n 0, 1) := by decide +kernel
theorem dJ6_compare_7cf53_1 : decode cJ6_compare_7cf53 1 = .ok (.iload_n 1, 1) := by decide +kernel
theorem dJ6_compare_7cf53_2 : decode cJ6_compare_7cf53 2 = .ok (.if_icmp .ge 7, 3) := by decide +kernel
theorem dJ6_compare_7cf53_5 : decode cJ6_compare_7cf53 5 = .ok (.iconst (-1), 1) := by decide +kernel
theorem dJ6_compare_7cf53_6 : decode cJ6_compare_7cf53 6 = .ok (.goto 13, 3) := by decide +kernel
theorem dJ6_compare_7cf53_9 : decode cJ6_compare_7cf53 9 = .ok (.iload_n 0, 1) := by decide +kernel
theorem dJ6_compare_7cf53_10 : decode cJ6_compare_7cf53 10 = .ok (.iload_n 1, 1) := by decide +kernel
theorem dJ6_compare_7cf53_11 : decode cJ6_compare_7cf53 11 = .ok (.if_icmp .ne 7, 3) := by decide +kernel
theorem dJ6_compare_7cf53_14 : decode cJ6_compare_7cf53 14 = .ok (.iconst 0, 1) := by decide +kernel
theorem dJ6_compare_7cf53_15 : decode cJ6_compare_7cf53 15 = .ok (.goto 4, 3) := by decide +kernel
theorem dJ6_compare_7cf53_18 : decode cJ6_compare_7cf53 18 = .ok (.iconst 1, 1) := by decide +kernel
theorem dJ6_compare_7cf53_19 : decode cJ6_compare_7cf53 19 = .ok (.ireturn, 1) := by decide +kernel
theorem dJ6_bitCount_0f7a4_0 : decode cJ6_bitCount_0f7a4 0 = .ok (.iload_n 0, 1) := by decide +kernel
theorem dJ6_bitCount_0f7a4_1 : decode cJ6_bitCount_0f7a4 1 = .ok (.iload_n 0, 1) := by decide +kernel
theorem dJ6_bitCount_0f7a4_2 : decode cJ6_bitCount_0f7a4 2 = .ok (.iconst 1, 1) := by decide +kernel
theorem dJ6_bitCount_0f7a4_3 : decode cJ6_bitCount_0f7a4 3 = .ok (.iushr, 1) := by decide +kernel
theorem dJ6_bitCount_0f7a4_4 : decode cJ6_bitCount_0f7a4 4 = .ok (.ldc_w 265, 3) := by decide +kernel
theorem dJ6_bitCount_0f7a4_7 : decode cJ6_bitCount_0f7a4 7 = .ok (.iand, 1) := by decide +kernel
theorem dJ6_bitCount_0f7a4_8 : decode cJ6_bitCount_0f7a4 8 = .ok (.isub, 1) := by decide +kernel
theorem dJ6_bitCount_0f7a4_9 : decode cJ6_bitCount_0f7a4 9 = .ok (.istore_n 0, 1) := by decide +kernel
theorem dJ6_bitCount_0f7a4_10 : decode cJ6_bitCount_0f7a4 10 = .ok (.iload_n 0, 1) := by decide +kernel
theorem dJ6_bitCount_0f7a4_11 : decode cJ6_bitCount_0f7a4 11 = .ok (.ldc_w 266, 3) := by decide +kernel
theorem dJ6_bitCount_0f7a4_14 : decode cJ6_bitCount_0f7a4 14 = .ok (.iand, 1) := by decide +kernel
theorem dJ6_bitCount_0f7a4_15 : decode cJ6_bitCount_0f7a4 15 = .ok (.iload_n 0, 1) := by decide +kernel
theorem dJ6_bitCount_0f7a4_16 : decode cJ6_bitCount_0f7a4 16 = .ok (.iconst 2, 1) := by decide +kernel
theorem dJ6_bitCount_0f7a4_17 : decode cJ6_bitCount_0f7a4 17 = .ok (.iushr, 1) := by decide +kernel
theorem dJ6_bitCount_0f7a4_18 : decode cJ6_bitCount_0f7a4 18 = .ok (.ldc_w 266, 3) := by decide +kernel
theorem dJ6_bitCount_0f7a4_21 : decode cJ6_bitCount_0f7a4 21 = .ok (.iand, 1) := by decide +kernel
theorem dJ6_bitCount_0f7a4_22 : decode cJ6_bitCount_0f7a4 22 = .ok (.iadd, 1) := by decide +kernel
theorem dJ6_bitCount_0f7a4_23 : decode cJ6_bitCount_0f7a4 23 = .ok (.istore_n 0, 1) := by decide +kernel
theorem dJ6_bitCount_0f7a4_24 : decode cJ6_bitCount_0f7a4 24 = .ok (.iload_n 0, 1) := by decide +kernel
theorem dJ6_bitCount_0f7a4_25 : decode cJ6_bitCount_0f7a4 25 = .ok (.iload_n 0, 1) := by decide +kernel
theorem dJ6_bitCount_0f7a4_26 : decode cJ6_bitCount_0f7a4 26 = .ok (.iconst 4, 1) := by decide +kernel
theorem dJ6_bitCount_0f7a4_27 : decode cJ6_bitCount_0f7a4 27 = .ok (.iushr, 1) := by decide +kernel
theorem dJ6_bitCount_0f7a4_28 : decode cJ6_bitCount_0f7a4 28 = .ok (.iadd, 1) := by decide +kernel
theorem dJ6_bitCount_0f7a4_29 : decode cJ6_bitCount_0f7a4 29 = .ok (.ldc_w 267, 3) := by decide +kernel
theorem dJ6_bitCount_0f7a4_32 : decode cJ6_bitCount_0f7a4 32 = .ok (.iand, 1) := by decide +kernel
theorem dJ6_bitCount_0f7a4_33 : decode cJ6_bitCount_0f7a4 33 = .ok (.istore_n 0, 1) := by decide +kernel
theorem dJ6_bitCount_0f7a4_34 : decode cJ6_bitCount_0f7a4 34 = .ok (.iload_n 0, 1) := by decide +kernel
theorem dJ6_bitCount_0f7a4_35 : decode cJ6_bitCount_0f7a4 35 = .ok (.iload_n 0, 1) := by decide +kernel
theorem dJ6_bitCount_0f7a4_36 : decode cJ6_bitCount_0f7a4 36 = .ok (.bipush 8, 2) := by decide +kernel
theorem dJ6_bitCount_0f7a4_38 : decode cJ6_bitCount_0f7a4 38 = .ok (.iushr, 1) := by decide +kernel
theorem dJ6_bitCount_0f7a4_39 : decode cJ6_bitCount_0f7a4 39 = .ok (.iadd, 1) := by decide +kernel
theorem dJ6_bitCount_0f7a4_40 : decode cJ6_bitCount_0f7a4 40 = .ok (.istore_n 0, 1) := by decide +kernel
theorem dJ6_bitCount_0f7a4_41 : decode cJ6_bitCount_0f7a4 41 = .ok (.iload_n 0, 1) := by decide +kernel
theorem dJ6_bitCount_0f7a4_42 : decode cJ6_bitCount_0f7a4 42 = .ok (.iload_n 0, 1) := by decide +kernel
theorem dJ6_bitCount_0f7a4_43 : decode cJ6_bitCount_0f7a4 43 = .ok (.bipush 16, 2) := by decide +kernel
theorem dJ6_bitCount_0f7a4_45 : decode cJ6_bitCount_0f7a4 45 = .ok (.iushr, 1) := by decide +kernel
theorem dJ6_bitCount_0f7a4_46 : decode cJ6_bitCount_0f7a4 46 = .ok (.iadd, 1) := by decide +kernel
theorem dJ6_bitCount_0f7a4_47 : decode cJ6_bitCount_0f7a4 47 = .ok (.istore_n 0, 1) := by decide +kernel
theorem dJ6_bitCount_0f7a4_48 : decode cJ6_bitCount_0f7a4 48 = .ok (.iload_n 0, 1) := by decide +kernel
theorem dJ6_bitCount_0f7a4_49 : decode cJ6_bitCount_0f7a4 49 = .ok (.bipush 63, 2) := by decide +kernel
theorem dJ6_bitCount_0f7a4_51 : decode cJ6_bitCount_0f7a4 51 = .ok (.iand, 1) := by decide +kernel
theorem dJ6_bitCount_0f7a4_52 : decode cJ6_bitCount_0f7a4 52 = .ok (.ireturn, 1) := by decide +kernel
theorem dJ9_max_7cf53_0 : decode cJ9_max_7cf53 0 = .ok (.iload_n 0, 1) := by decide +kernel
theorem dJ9_max_7cf53_1 : decode cJ9_max_7cf53 1 = .ok (.iload_n 1, 1) := by decide +kernel
theorem dJ9_max_7cf53_2 : decode cJ9_max_7cf53 2 = .ok (.if_icmp .lt 7, 3) := by decide +kernel
theorem dJ9_max_7cf53_5 : decode cJ9_max_7cf53 5 = .ok (.iload_n 0, 1) := by decide +kernel
theorem dJ9_max_7cf53_6 : decode cJ9_max_7cf53 6 = .ok (.goto 4, 3) := by decide +kernel
theorem dJ9_max_7cf53_9 : decode cJ9_max_7cf53 9 = .ok (.iload_n 1, 1) := by decide +kernel
theorem dJ9_max_7cf53_10 : decode cJ9_max_7cf53 10 = .ok (.ireturn, 1) := by decide +kernel
theorem dJ9_min_7cf53_0 : decode cJ9_min_7cf53 0 = .ok (.iload_n 0, 1) := by decide +kernel
theorem dJ9_min_7cf53_1 : decode cJ9_min_7cf53 1 = .ok (.iload_n 1, 1) := by decide +kernel
theorem dJ9_min_7cf53_2 : decode cJ9_min_7cf53 2 = .ok (.if_icmp .gt 7, 3) := by decide +kernel
theorem dJ9_min_7cf53_5 : decode cJ9_min_7cf53 5 = .ok (.iload_n 0, 1) := by decide +kernel
theorem dJ9_min_7cf53_6 : decode cJ9_min_7cf53 6 = .ok (.goto 4, 3) := by decide +kernel
theorem dJ9_min_7cf53_9 : decode cJ9_min_7cf53 9 = .ok (.iload_n 1, 1) := by decide +kernel
theorem dJ9_min_7cf53_10 : decode cJ9_min_7cf53 10 = .ok (.ireturn, 1) := by decide +kernel
theorem dJ7_fill_53178_0 : decode cJ7_fill_53178 0 = .ok (.iconst 0, 1) := by decide +kernel
theorem dJ7_fill_53178_1 : decode cJ7_fill_53178 1 = .ok (.istore_n 2, 1) := by decide +kernel
theorem dJ7_fill_53178_2 : decode cJ7_fill_53178 2 = .ok (.aload_n 0, 1) := by decide +kernel
theorem dJ7_fill_53178_3 : decode cJ7_fill_53178 3 = .ok (.arraylength, 1) := by decide +kernel
theorem dJ7_fill_53178_4 : decode cJ7_fill_53178 4 = .ok (.istore_n 3, 1) := by decide +kernel
theorem dJ7_fill_53178_5 : decode cJ7_fill_53178 5 = .ok (.iload_n 2, 1) := by decide +kernel
theorem dJ7_fill_53178_6 : decode cJ7_fill_53178 6 = .ok (.iload_n 3, 1) := by decide +kernel
theorem dJ7_fill_53178_7 : decode cJ7_fill_53178 7 = .ok (.if_icmp .ge 13, 3) := by decide +kernel
theorem dJ7_fill_53178_10 : decode cJ7_fill_53178 10 = .ok (.aload_n 0, 1) := by decide +kernel
theorem dJ7_fill_53178_11 : decode cJ7_fill_53178 11 = .ok (.iload_n 2, 1) := by decide +kernel
theorem dJ7_fill_53178_12 : decode cJ7_fill_53178 12 = .ok (.iload_n 1, 1) := by decide +kernel
theorem dJ7_fill_53178_13 : decode cJ7_fill_53178 13 = .ok (.iastore, 1) := by decide +kernel
theorem dJ7_fill_53178_14 : decode cJ7_fill_53178 14 = .ok (.iinc 2 1, 3) := by decide +kernel
theorem dJ7_fill_53178_17 : decode cJ7_fill_53178 17 = .ok (.goto (-12), 3) := by decide +kernel
theorem dJ7_fill_53178_20 : decode cJ7_fill_53178 20 = .ok (.return_, 1) := by decide +kernel
theorem dJ7_copyOf_c38d5_0 : decode cJ7_copyOf_c38d5 0 = .ok (.iload_n 1, 1) := by decide +kernel
theorem dJ7_copyOf_c38d5_1 : decode cJ7_copyOf_c38d5 1 = .ok (.aload_n 0, 1) := by decide +kernel
theorem dJ7_copyOf_c38d5_2 : decode cJ7_copyOf_c38d5 2 = .ok (.arraylength, 1) := by decide +kernel
theorem dJ7_copyOf_c38d5_3 : decode cJ7_copyOf_c38d5 3 = .ok (.if_icmp .ne 11, 3) := by decide +kernel
theorem dJ7_copyOf_c38d5_6 : decode cJ7_copyOf_c38d5 6 = .ok (.aload_n 0, 1) := by decide +kernel
theorem dJ7_copyOf_c38d5_7 : decode cJ7_copyOf_c38d5 7 = .ok (.invokevirtual 319, 3) := by decide +kernel
theorem dJ7_copyOf_c38d5_10 : decode cJ7_copyOf_c38d5 10 = .ok (.checkcast 320, 3) := by decide +kernel
theorem dJ7_copyOf_c38d5_13 : decode cJ7_copyOf_c38d5 13 = .ok (.areturn, 1) := by decide +kernel
theorem dJ7_copyOf_c38d5_14 : decode cJ7_copyOf_c38d5 14 = .ok (.iload_n 1, 1) := by decide +kernel
theorem dJ7_copyOf_c38d5_15 : decode cJ7_copyOf_c38d5 15 = .ok (.newarray .long, 2) := by decide +kernel
theorem dJ7_copyOf_c38d5_17 : decode cJ7_copyOf_c38d5 17 = .ok (.astore_n 2, 1) := by decide +kernel
theorem dJ7_copyOf_c38d5_18 : decode cJ7_copyOf_c38d5 18 = .ok (.aload_n 0, 1) := by decide +kernel
theorem dJ7_copyOf_c38d5_19 : decode cJ7_copyOf_c38d5 19 = .ok (.iconst 0, 1) := by decide +kernel
theorem dJ7_copyOf_c38d5_20 : decode cJ7_copyOf_c38d5 20 = .ok (.aload_n 2, 1) := by decide +kernel
theorem dJ7_copyOf_c38d5_21 : decode cJ7_copyOf_c38d5 21 = .ok (.iconst 0, 1) := by decide +kernel
theorem dJ7_copyOf_c38d5_22 : decode cJ7_copyOf_c38d5 22 = .ok (.aload_n 0, 1) := by decide +kernel
theorem dJ7_copyOf_c38d5_23 : decode cJ7_copyOf_c38d5 23 = .ok (.arraylength, 1) := by decide +kernel
theorem dJ7_copyOf_c38d5_24 : decode cJ7_copyOf_c38d5 24 = .ok (.iload_n 1, 1) := by decide +kernel
theorem dJ7_copyOf_c38d5_25 : decode cJ7_copyOf_c38d5 25 = .ok (.invokestatic 304, 3) := by decide +kernel
theorem dJ7_copyOf_c38d5_28 : decode cJ7_copyOf_c38d5 28 = .ok (.invokestatic 150, 3) := by decide +kernel
theorem dJ7_copyOf_c38d5_31 : decode cJ7_copyOf_c38d5 31 = .ok (.aload_n 2, 1) := by decide +kernel
theorem dJ7_copyOf_c38d5_32 : decode cJ7_copyOf_c38d5 32 = .ok (.areturn, 1) := by decide +kernel
theorem dL_drawn_0 : decode cL_drawn 0 = .ok (.aload_n 2, 1) := by decide +kernel
theorem dL_drawn_1 : decode cL_drawn 1 = .ok (.iconst 0, 1) := by decide +kernel
theorem dL_drawn_2 : decode cL_drawn 2 = .ok (.aload_n 0, 1) := by decide +kernel
theorem dL_drawn_3 : decode cL_drawn 3 = .ok (.iload_n 1, 1) := by decide +kernel
theorem dL_drawn_4 : decode cL_drawn 4 = .ok (.invokevirtual 7, 3) := by decide +kernel
theorem dL_drawn_7 : decode cL_drawn 7 = .ok (.i2l, 1) := by decide +kernel
theorem dL_drawn_8 : decode cL_drawn 8 = .ok (.lastore, 1) := by decide +kernel
theorem dL_drawn_9 : decode cL_drawn 9 = .ok (.goto 6, 3) := by decide +kernel
theorem dL_drawn_12 : decode cL_drawn 12 = .ok (.astore_n 3, 1) := by decide +kernel
theorem dL_drawn_13 : decode cL_drawn 13 = .ok (.iconst 1, 1) := by decide +kernel
theorem dL_drawn_14 : decode cL_drawn 14 = .ok (.ireturn, 1) := by decide +kernel
theorem dL_drawn_15 : decode cL_drawn 15 = .ok (.iconst 0, 1) := by decide +kernel
theorem dL_drawn_16 : decode cL_drawn 16 = .ok (.ireturn, 1) := by decide +kernel
theorem dL_value_0 : decode cL_value 0 = .ok (.aload_n 1, 1) := by decide +kernel
theorem dL_value_1 : decode cL_value 1 = .ok (.iconst 0, 1) := by decide +kernel
theorem dL_value_2 : decode cL_value 2 = .ok (.aload_n 0, 1) := by decide +kernel
theorem dL_value_3 : decode cL_value 3 = .ok (.invokevirtual 15, 3) := by decide +kernel
theorem dL_value_6 : decode cL_value 6 = .ok (.i2l, 1) := by decide +kernel
theorem dL_value_7 : decode cL_value 7 = .ok (.lastore, 1) := by decide +kernel
theorem dL_value_8 : decode cL_value 8 = .ok (.goto 6, 3) := by decide +kernel
theorem dL_value_11 : decode cL_value 11 = .ok (.astore_n 2, 1) := by decide +kernel
theorem dL_value_12 : decode cL_value 12 = .ok (.iconst 1, 1) := by decide +kernel
theorem dL_value_13 : decode cL_value 13 = .ok (.ireturn, 1) := by decide +kernel
theorem dL_value_14 : decode cL_value 14 = .ok (.iconst 0, 1) := by decide +kernel
theorem dL_value_15 : decode cL_value 15 = .ok (.ireturn, 1) := by decide +kernel
theorem dL_law_0 : decode cL_law 0 = .ok (.new 8, 3) := by decide +kernel
theorem dL_law_3 : decode cL_law 3 = .ok (.dup, 1) := by decide +kernel
theorem dL_law_4 : decode cL_law 4 = .ok (.invokespecial 21, 3) := by decide +kernel
theorem dL_law_7 : decode cL_law 7 = .ok (.astore_n 1, 1) := by decide +kernel
theorem dL_law_8 : decode cL_law 8 = .ok (.new 22, 3) := by decide +kernel
theorem dL_law_11 : decode cL_law 11 = .ok (.dup, 1) := by decide +kernel
theorem dL_law_12 : decode cL_law 12 = .ok (.invokespecial 24, 3) := by decide +kernel
theorem dL_law_15 : decode cL_law 15 = .ok (.astore_n 2, 1) := by decide +kernel
theorem dL_law_16 : decode cL_law 16 = .ok (.iconst 1, 1) := by decide +kernel
theorem dL_law_17 : decode cL_law 17 = .ok (.newarray .long, 2) := by decide +kernel
theorem dL_law_19 : decode cL_law 19 = .ok (.astore_n 3, 1) := by decide +kernel
theorem dL_law_20 : decode cL_law 20 = .ok (.iconst 0, 1) := by decide +kernel
theorem dL_law_21 : decode cL_law 21 = .ok (.istore 4, 2) := by decide +kernel
theorem dL_law_23 : decode cL_law 23 = .ok (.iload 4, 2) := by decide +kernel
theorem dL_law_25 : decode cL_law 25 = .ok (.aload_n 0, 1) := by decide +kernel
theorem dL_law_26 : decode cL_law 26 = .ok (.arraylength, 1) := by decide +kernel
theorem dL_law_27 : decode cL_law 27 = .ok (.iconst 4, 1) := by decide +kernel
theorem dL_law_28 : decode cL_law 28 = .ok (.isub, 1) := by decide +kernel
theorem dL_law_29 : decode cL_law 29 = .ok (.if_icmp .gt 768, 3) := by decide +kernel
theorem dL_law_32 : decode cL_law 32 = .ok (.aload_n 0, 1) := by decide +kernel
theorem dL_law_33 : decode cL_law 33 = .ok (.iload 4, 2) := by decide +kernel
theorem dL_law_35 : decode cL_law 35 = .ok (.iaload, 1) := by decide +kernel
theorem dL_law_36 : decode cL_law 36 = .ok (.bipush 31, 2) := by decide +kernel
theorem dL_law_38 : decode cL_law 38 = .ok (.iand, 1) := by decide +kernel
theorem dL_law_39 : decode cL_law 39 = .ok (.tableswitch 752 0 24 #[113, 124, 137, 174, 211, 236, 249, 262, 275, 312, 349, 405, 442, 455, 468, 493, 518, 531, 544, 569, 582, 607, 618, 683, 727], 113) := by decide +kernel
theorem dL_law_152 : decode cL_law 152 = .ok (.aload_n 1, 1) := by decide +kernel
theorem dL_law_153 : decode cL_law 153 = .ok (.invokevirtual 25, 3) := by decide +kernel
theorem dL_law_156 : decode cL_law 156 = .ok (.aload_n 2, 1) := by decide +kernel
theorem dL_law_157 : decode cL_law 157 = .ok (.invokevirtual 28, 3) := by decide +kernel
theorem dL_law_160 : decode cL_law 160 = .ok (.goto 631, 3) := by decide +kernel
theorem dL_law_163 : decode cL_law 163 = .ok (.aload_n 1, 1) := by decide +kernel
theorem dL_law_164 : decode cL_law 164 = .ok (.invokevirtual 29, 3) := by decide +kernel
theorem dL_law_167 : decode cL_law 167 = .ok (.aload_n 2, 1) := by decide +kernel
theorem dL_law_168 : decode cL_law 168 = .ok (.invokevirtual 32, 3) := by decide +kernel
theorem dL_law_171 : decode cL_law 171 = .ok (.if_icmp .eq 620, 3) := by decide +kernel
theorem dL_law_174 : decode cL_law 174 = .ok (.iconst 0, 1) := by decide +kernel
theorem dL_law_175 : decode cL_law 175 = .ok (.ireturn, 1) := by decide +kernel
theorem dL_law_176 : decode cL_law 176 = .ok (.aload_n 1, 1) := by decide +kernel
theorem dL_law_177 : decode cL_law 177 = .ok (.aload_n 0, 1) := by decide +kernel
theorem dL_law_178 : decode cL_law 178 = .ok (.iload 4, 2) := by decide +kernel
theorem dL_law_180 : decode cL_law 180 = .ok (.iconst 1, 1) := by decide +kernel
theorem dL_law_181 : decode cL_law 181 = .ok (.iadd, 1) := by decide +kernel
theorem dL_law_182 : decode cL_law 182 = .ok (.iaload, 1) := by decide +kernel
theorem dL_law_183 : decode cL_law 183 = .ok (.aload_n 0, 1) := by decide +kernel
theorem dL_law_184 : decode cL_law 184 = .ok (.iload 4, 2) := by decide +kernel
theorem dL_law_186 : decode cL_law 186 = .ok (.iconst 2, 1) := by decide +kernel
theorem dL_law_187 : decode cL_law 187 = .ok (.iadd, 1) := by decide +kernel
theorem dL_law_188 : decode cL_law 188 = .ok (.iaload, 1) := by decide +kernel
theorem dL_law_189 : decode cL_law 189 = .ok (.invokevirtual 33, 3) := by decide +kernel
theorem dL_law_192 : decode cL_law 192 = .ok (.aload_n 2, 1) := by decide +kernel
theorem dL_law_193 : decode cL_law 193 = .ok (.aload_n 0, 1) := by decide +kernel
theorem dL_law_194 : decode cL_law 194 = .ok (.iload 4, 2) := by decide +kernel
theorem dL_law_196 : decode cL_law 196 = .ok (.iconst 1, 1) := by decide +kernel
theorem dL_law_197 : decode cL_law 197 = .ok (.iadd, 1) := by decide +kernel
theorem dL_law_198 : decode cL_law 198 = .ok (.iaload, 1) := by decide +kernel
theorem dL_law_199 : decode cL_law 199 = .ok (.aload_n 0, 1) := by decide +kernel
theorem dL_law_200 : decode cL_law 200 = .ok (.iload 4, 2) := by decide +kernel
theorem dL_law_202 : decode cL_law 202 = .ok (.iconst 2, 1) := by decide +kernel
theorem dL_law_203 : decode cL_law 203 = .ok (.iadd, 1) := by decide +kernel
theorem dL_law_204 : decode cL_law 204 = .ok (.iaload, 1) := by decide +kernel
theorem dL_law_205 : decode cL_law 205 = .ok (.invokevirtual 37, 3) := by decide +kernel
theorem dL_law_208 : decode cL_law 208 = .ok (.if_icmp .eq 583, 3) := by decide +kernel
theorem dL_law_211 : decode cL_law 211 = .ok (.iconst 0, 1) := by decide +kernel
theorem dL_law_212 : decode cL_law 212 = .ok (.ireturn, 1) := by decide +kernel
theorem dL_law_213 : decode cL_law 213 = .ok (.aload_n 1, 1) := by decide +kernel
theorem dL_law_214 : decode cL_law 214 = .ok (.aload_n 0, 1) := by decide +kernel
theorem dL_law_215 : decode cL_law 215 = .ok (.iload 4, 2) := by decide +kernel
theorem dL_law_217 : decode cL_law 217 = .ok (.iconst 1, 1) := by decide +kernel
theorem dL_law_218 : decode cL_law 218 = .ok (.iadd, 1) := by decide +kernel
theorem dL_law_219 : decode cL_law 219 = .ok (.iaload, 1) := by decide +kernel
theorem dL_law_220 : decode cL_law 220 = .ok (.aload_n 0, 1) := by decide +kernel
theorem dL_law_221 : decode cL_law 221 = .ok (.iload 4, 2) := by decide +kernel
theorem dL_law_223 : decode cL_law 223 = .ok (.iconst 2, 1) := by decide +kernel
theorem dL_law_224 : decode cL_law 224 = .ok (.iadd, 1) := by decide +kernel
theorem dL_law_225 : decode cL_law 225 = .ok (.iaload, 1) := by decide +kernel
theorem dL_law_226 : decode cL_law 226 = .ok (.invokevirtual 38, 3) := by decide +kernel
theorem dL_law_229 : decode cL_law 229 = .ok (.aload_n 2, 1) := by decide +kernel
theorem dL_law_230 : decode cL_law 230 = .ok (.aload_n 0, 1) := by decide +kernel
theorem dL_law_231 : decode cL_law 231 = .ok (.iload 4, 2) := by decide +kernel
theorem dL_law_233 : decode cL_law 233 = .ok (.iconst 1, 1) := by decide +kernel
theorem dL_law_234 : decode cL_law 234 = .ok (.iadd, 1) := by decide +kernel
theorem dL_law_235 : decode cL_law 235 = .ok (.iaload, 1) := by decide +kernel
theorem dL_law_236 : decode cL_law 236 = .ok (.aload_n 0, 1) := by decide +kernel
theorem dL_law_237 : decode cL_law 237 = .ok (.iload 4, 2) := by decide +kernel
theorem dL_law_239 : decode cL_law 239 = .ok (.iconst 2, 1) := by decide +kernel
theorem dL_law_240 : decode cL_law 240 = .ok (.iadd, 1) := by decide +kernel
theorem dL_law_241 : decode cL_law 241 = .ok (.iaload, 1) := by decide +kernel
theorem dL_law_242 : decode cL_law 242 = .ok (.invokevirtual 42, 3) := by decide +kernel
theorem dL_law_245 : decode cL_law 245 = .ok (.if_icmp .eq 546, 3) := by decide +kernel
theorem dL_law_248 : decode cL_law 248 = .ok (.iconst 0, 1) := by decide +kernel
theorem dL_law_249 : decode cL_law 249 = .ok (.ireturn, 1) := by decide +kernel
theorem dL_law_250 : decode cL_law 250 = .ok (.aload_n 1, 1) := by decide +kernel
theorem dL_law_251 : decode cL_law 251 = .ok (.aload_n 0, 1) := by decide +kernel
theorem dL_law_252 : decode cL_law 252 = .ok (.iload 4, 2) := by decide +kernel
theorem dL_law_254 : decode cL_law 254 = .ok (.iconst 1, 1) := by decide +kernel
theorem dL_law_255 : decode cL_law 255 = .ok (.iadd, 1) := by decide +kernel
theorem dL_law_256 : decode cL_law 256 = .ok (.iaload, 1) := by decide +kernel
theorem dL_law_257 : decode cL_law 257 = .ok (.invokevirtual 43, 3) := by decide +kernel
theorem dL_law_260 : decode cL_law 260 = .ok (.aload_n 2, 1) := by decide +kernel
theorem dL_law_261 : decode cL_law 261 = .ok (.aload_n 0, 1) := by decide +kernel
theorem dL_law_262 : decode cL_law 262 = .ok (.iload 4, 2) := by decide +kernel
theorem dL_law_264 : decode cL_law 264 = .ok (.iconst 1, 1) := by decide +kernel
theorem dL_law_265 : decode cL_law 265 = .ok (.iadd, 1) := by decide +kernel
theorem dL_law_266 : decode cL_law 266 = .ok (.iaload, 1) := by decide +kernel
theorem dL_law_267 : decode cL_law 267 = .ok (.invokevirtual 46, 3) := by decide +kernel
theorem dL_law_270 : decode cL_law 270 = .ok (.if_icmp .eq 521, 3) := by decide +kernel
theorem dL_law_273 : decode cL_law 273 = .ok (.iconst 0, 1) := by decide +kernel
theorem dL_law_274 : decode cL_law 274 = .ok (.ireturn, 1) := by decide +kernel
theorem dL_law_275 : decode cL_law 275 = .ok (.aload_n 1, 1) := by decide +kernel
theorem dL_law_276 : decode cL_law 276 = .ok (.invokevirtual 47, 3) := by decide +kernel
theorem dL_law_279 : decode cL_law 279 = .ok (.aload_n 2, 1) := by decide +kernel
theorem dL_law_280 : decode cL_law 280 = .ok (.invokevirtual 50, 3) := by decide +kernel
theorem dL_law_283 : decode cL_law 283 = .ok (.if_icmp .eq 508, 3) := by decide +kernel
theorem dL_law_286 : decode cL_law 286 = .ok (.iconst 0, 1) := by decide +kernel
theorem dL_law_287 : decode cL_law 287 = .ok (.ireturn, 1) := by decide +kernel
theorem dL_law_288 : decode cL_law 288 = .ok (.aload_n 1, 1) := by decide +kernel
theorem dL_law_289 : decode cL_law 289 = .ok (.invokevirtual 51, 3) := by decide +kernel
theorem dL_law_292 : decode cL_law 292 = .ok (.aload_n 2, 1) := by decide +kernel
theorem dL_law_293 : decode cL_law 293 = .ok (.invokevirtual 54, 3) := by decide +kernel
theorem dL_law_296 : decode cL_law 296 = .ok (.if_icmp .eq 495, 3) := by decide +kernel
theorem dL_law_299 : decode cL_law 299 = .ok (.iconst 0, 1) := by decide +kernel
theorem dL_law_300 : decode cL_law 300 = .ok (.ireturn, 1) := by decide +kernel
theorem dL_law_301 : decode cL_law 301 = .ok (.aload_n 1, 1) := by decide +kernel
theorem dL_law_302 : decode cL_law 302 = .ok (.invokevirtual 55, 3) := by decide +kernel
theorem dL_law_305 : decode cL_law 305 = .ok (.aload_n 2, 1) := by decide +kernel
theorem dL_law_306 : decode cL_law 306 = .ok (.invokevirtual 58, 3) := by decide +kernel
theorem dL_law_309 : decode cL_law 309 = .ok (.if_icmp .eq 482, 3) := by decide +kernel
theorem dL_law_312 : decode cL_law 312 = .ok (.iconst 0, 1) := by decide +kernel
theorem dL_law_313 : decode cL_law 313 = .ok (.ireturn, 1) := by decide +kernel
theorem dL_law_314 : decode cL_law 314 = .ok (.aload_n 1, 1) := by decide +kernel
theorem dL_law_315 : decode cL_law 315 = .ok (.aload_n 0, 1) := by decide +kernel
theorem dL_law_316 : decode cL_law 316 = .ok (.iload 4, 2) := by decide +kernel
theorem dL_law_318 : decode cL_law 318 = .ok (.iconst 1, 1) := by decide +kernel
theorem dL_law_319 : decode cL_law 319 = .ok (.iadd, 1) := by decide +kernel
theorem dL_law_320 : decode cL_law 320 = .ok (.iaload, 1) := by decide +kernel
theorem dL_law_321 : decode cL_law 321 = .ok (.aload_n 0, 1) := by decide +kernel
theorem dL_law_322 : decode cL_law 322 = .ok (.iload 4, 2) := by decide +kernel
theorem dL_law_324 : decode cL_law 324 = .ok (.iconst 2, 1) := by decide +kernel
theorem dL_law_325 : decode cL_law 325 = .ok (.iadd, 1) := by decide +kernel
theorem dL_law_326 : decode cL_law 326 = .ok (.iaload, 1) := by decide +kernel
theorem dL_law_327 : decode cL_law 327 = .ok (.invokevirtual 59, 3) := by decide +kernel
theorem dL_law_330 : decode cL_law 330 = .ok (.aload_n 2, 1) := by decide +kernel
theorem dL_law_331 : decode cL_law 331 = .ok (.aload_n 0, 1) := by decide +kernel
theorem dL_law_332 : decode cL_law 332 = .ok (.iload 4, 2) := by decide +kernel
theorem dL_law_334 : decode cL_law 334 = .ok (.iconst 1, 1) := by decide +kernel
theorem dL_law_335 : decode cL_law 335 = .ok (.iadd, 1) := by decide +kernel
theorem dL_law_336 : decode cL_law 336 = .ok (.iaload, 1) := by decide +kernel
theorem dL_law_337 : decode cL_law 337 = .ok (.aload_n 0, 1) := by decide +kernel
theorem dL_law_338 : decode cL_law 338 = .ok (.iload 4, 2) := by decide +kernel
theorem dL_law_340 : decode cL_law 340 = .ok (.iconst 2, 1) := by decide +kernel
theorem dL_law_341 : decode cL_law 341 = .ok (.iadd, 1) := by decide +kernel
theorem dL_law_342 : decode cL_law 342 = .ok (.iaload, 1) := by decide +kernel
theorem dL_law_343 : decode cL_law 343 = .ok (.invokevirtual 62, 3) := by decide +kernel
theorem dL_law_346 : decode cL_law 346 = .ok (.if_icmp .eq 445, 3) := by decide +kernel
theorem dL_law_349 : decode cL_law 349 = .ok (.iconst 0, 1) := by decide +kernel
theorem dL_law_350 : decode cL_law 350 = .ok (.ireturn, 1) := by decide +kernel
theorem dL_law_351 : decode cL_law 351 = .ok (.aload_n 1, 1) := by decide +kernel
theorem dL_law_352 : decode cL_law 352 = .ok (.aload_n 0, 1) := by decide +kernel
theorem dL_law_353 : decode cL_law 353 = .ok (.iload 4, 2) := by decide +kernel
theorem dL_law_355 : decode cL_law 355 = .ok (.iconst 1, 1) := by decide +kernel
theorem dL_law_356 : decode cL_law 356 = .ok (.iadd, 1) := by decide +kernel
theorem dL_law_357 : decode cL_law 357 = .ok (.iaload, 1) := by decide +kernel
theorem dL_law_358 : decode cL_law 358 = .ok (.aload_n 0, 1) := by decide +kernel
theorem dL_law_359 : decode cL_law 359 = .ok (.iload 4, 2) := by decide +kernel
theorem dL_law_361 : decode cL_law 361 = .ok (.iconst 2, 1) := by decide +kernel
theorem dL_law_362 : decode cL_law 362 = .ok (.iadd, 1) := by decide +kernel
theorem dL_law_363 : decode cL_law 363 = .ok (.iaload, 1) := by decide +kernel
theorem dL_law_364 : decode cL_law 364 = .ok (.invokevirtual 63, 3) := by decide +kernel
theorem dL_law_367 : decode cL_law 367 = .ok (.aload_n 2, 1) := by decide +kernel
theorem dL_law_368 : decode cL_law 368 = .ok (.aload_n 0, 1) := by decide +kernel
theorem dL_law_369 : decode cL_law 369 = .ok (.iload 4, 2) := by decide +kernel
theorem dL_law_371 : decode cL_law 371 = .ok (.iconst 1, 1) := by decide +kernel
theorem dL_law_372 : decode cL_law 372 = .ok (.iadd, 1) := by decide +kernel
theorem dL_law_373 : decode cL_law 373 = .ok (.iaload, 1) := by decide +kernel
theorem dL_law_374 : decode cL_law 374 = .ok (.aload_n 0, 1) := by decide +kernel
theorem dL_law_375 : decode cL_law 375 = .ok (.iload 4, 2) := by decide +kernel
theorem dL_law_377 : decode cL_law 377 = .ok (.iconst 2, 1) := by decide +kernel
theorem dL_law_378 : decode cL_law 378 = .ok (.iadd, 1) := by decide +kernel
theorem dL_law_379 : decode cL_law 379 = .ok (.iaload, 1) := by decide +kernel
theorem dL_law_380 : decode cL_law 380 = .ok (.invokevirtual 66, 3) := by decide +kernel
theorem dL_law_383 : decode cL_law 383 = .ok (.if_icmp .eq 408, 3) := by decide +kernel
theorem dL_law_386 : decode cL_law 386 = .ok (.iconst 0, 1) := by decide +kernel
theorem dL_law_387 : decode cL_law 387 = .ok (.ireturn, 1) := by decide +kernel
theorem dL_law_388 : decode cL_law 388 = .ok (.aload_n 1, 1) := by decide +kernel
theorem dL_law_389 : decode cL_law 389 = .ok (.aload_n 0, 1) := by decide +kernel
theorem dL_law_390 : decode cL_law 390 = .ok (.iload 4, 2) := by decide +kernel
theorem dL_law_392 : decode cL_law 392 = .ok (.iconst 1, 1) := by decide +kernel
theorem dL_law_393 : decode cL_law 393 = .ok (.iadd, 1) := by decide +kernel
theorem dL_law_394 : decode cL_law 394 = .ok (.iaload, 1) := by decide +kernel
theorem dL_law_395 : decode cL_law 395 = .ok (.aload_n 3, 1) := by decide +kernel
theorem dL_law_396 : decode cL_law 396 = .ok (.invokestatic 67, 3) := by decide +kernel
theorem dL_law_399 : decode cL_law 399 = .ok (.istore 5, 2) := by decide +kernel
theorem dL_law_401 : decode cL_law 401 = .ok (.aload_n 2, 1) := by decide +kernel
theorem dL_law_402 : decode cL_law 402 = .ok (.aload_n 0, 1) := by decide +kernel
theorem dL_law_403 : decode cL_law 403 = .ok (.iload 4, 2) := by decide +kernel
theorem dL_law_405 : decode cL_law 405 = .ok (.iconst 1, 1) := by decide +kernel
theorem dL_law_406 : decode cL_law 406 = .ok (.iadd, 1) := by decide +kernel
theorem dL_law_407 : decode cL_law 407 = .ok (.iaload, 1) := by decide +kernel
theorem dL_law_408 : decode cL_law 408 = .ok (.invokevirtual 72, 3) := by decide +kernel
theorem dL_law_411 : decode cL_law 411 = .ok (.istore 6, 2) := by decide +kernel
theorem dL_law_413 : decode cL_law 413 = .ok (.aload_n 2, 1) := by decide +kernel
theorem dL_law_414 : decode cL_law 414 = .ok (.invokevirtual 73, 3) := by decide +kernel
theorem dL_law_417 : decode cL_law 417 = .ok (.iload 5, 2) := by decide +kernel
theorem dL_law_419 : decode cL_law 419 = .ok (.if_icmp .eq 5, 3) := by decide +kernel
theorem dL_law_422 : decode cL_law 422 = .ok (.iconst 0, 1) := by decide +kernel
theorem dL_law_423 : decode cL_law 423 = .ok (.ireturn, 1) := by decide +kernel
theorem dL_law_424 : decode cL_law 424 = .ok (.iload 5, 2) := by decide +kernel
theorem dL_law_426 : decode cL_law 426 = .ok (.ifCond .ne 15, 3) := by decide +kernel
theorem dL_law_429 : decode cL_law 429 = .ok (.aload_n 3, 1) := by decide +kernel
theorem dL_law_430 : decode cL_law 430 = .ok (.iconst 0, 1) := by decide +kernel
theorem dL_law_431 : decode cL_law 431 = .ok (.laload, 1) := by decide +kernel
theorem dL_law_432 : decode cL_law 432 = .ok (.iload 6, 2) := by decide +kernel
theorem dL_law_434 : decode cL_law 434 = .ok (.i2l, 1) := by decide +kernel
theorem dL_law_435 : decode cL_law 435 = .ok (.lcmp, 1) := by decide +kernel
theorem dL_law_436 : decode cL_law 436 = .ok (.ifCond .eq 5, 3) := by decide +kernel
theorem dL_law_439 : decode cL_law 439 = .ok (.iconst 0, 1) := by decide +kernel
theorem dL_law_440 : decode cL_law 440 = .ok (.ireturn, 1) := by decide +kernel
theorem dL_law_441 : decode cL_law 441 = .ok (.goto 350, 3) := by decide +kernel
theorem dL_law_444 : decode cL_law 444 = .ok (.aload_n 1, 1) := by decide +kernel
theorem dL_law_445 : decode cL_law 445 = .ok (.aload_n 0, 1) := by decide +kernel
theorem dL_law_446 : decode cL_law 446 = .ok (.iload 4, 2) := by decide +kernel
theorem dL_law_448 : decode cL_law 448 = .ok (.iconst 1, 1) := by decide +kernel
theorem dL_law_449 : decode cL_law 449 = .ok (.iadd, 1) := by decide +kernel
theorem dL_law_450 : decode cL_law 450 = .ok (.iaload, 1) := by decide +kernel
theorem dL_law_451 : decode cL_law 451 = .ok (.aload_n 0, 1) := by decide +kernel
theorem dL_law_452 : decode cL_law 452 = .ok (.iload 4, 2) := by decide +kernel
theorem dL_law_454 : decode cL_law 454 = .ok (.iconst 2, 1) := by decide +kernel
theorem dL_law_455 : decode cL_law 455 = .ok (.iadd, 1) := by decide +kernel
theorem dL_law_456 : decode cL_law 456 = .ok (.iaload, 1) := by decide +kernel
theorem dL_law_457 : decode cL_law 457 = .ok (.invokevirtual 76, 3) := by decide +kernel
theorem dL_law_460 : decode cL_law 460 = .ok (.aload_n 2, 1) := by decide +kernel
theorem dL_law_461 : decode cL_law 461 = .ok (.aload_n 0, 1) := by decide +kernel
theorem dL_law_462 : decode cL_law 462 = .ok (.iload 4, 2) := by decide +kernel
theorem dL_law_464 : decode cL_law 464 = .ok (.iconst 1, 1) := by decide +kernel
theorem dL_law_465 : decode cL_law 465 = .ok (.iadd, 1) := by decide +kernel
theorem dL_law_466 : decode cL_law 466 = .ok (.iaload, 1) := by decide +kernel
theorem dL_law_467 : decode cL_law 467 = .ok (.aload_n 0, 1) := by decide +kernel
theorem dL_law_468 : decode cL_law 468 = .ok (.iload 4, 2) := by decide +kernel
theorem dL_law_470 : decode cL_law 470 = .ok (.iconst 2, 1) := by decide +kernel
theorem dL_law_471 : decode cL_law 471 = .ok (.iadd, 1) := by decide +kernel
theorem dL_law_472 : decode cL_law 472 = .ok (.iaload, 1) := by decide +kernel
theorem dL_law_473 : decode cL_law 473 = .ok (.invokevirtual 79, 3) := by decide +kernel
theorem dL_law_476 : decode cL_law 476 = .ok (.if_icmp .eq 315, 3) := by decide +kernel
theorem dL_law_479 : decode cL_law 479 = .ok (.iconst 0, 1) := by decide +kernel
theorem dL_law_480 : decode cL_law 480 = .ok (.ireturn, 1) := by decide +kernel
theorem dL_law_481 : decode cL_law 481 = .ok (.aload_n 1, 1) := by decide +kernel
theorem dL_law_482 : decode cL_law 482 = .ok (.invokevirtual 80, 3) := by decide +kernel
theorem dL_law_485 : decode cL_law 485 = .ok (.aload_n 2, 1) := by decide +kernel
theorem dL_law_486 : decode cL_law 486 = .ok (.invokevirtual 83, 3) := by decide +kernel
theorem dL_law_489 : decode cL_law 489 = .ok (.if_icmp .eq 302, 3) := by decide +kernel
theorem dL_law_492 : decode cL_law 492 = .ok (.iconst 0, 1) := by decide +kernel
theorem dL_law_493 : decode cL_law 493 = .ok (.ireturn, 1) := by decide +kernel
theorem dL_law_494 : decode cL_law 494 = .ok (.aload_n 1, 1) := by decide +kernel
theorem dL_law_495 : decode cL_law 495 = .ok (.invokevirtual 84, 3) := by decide +kernel
theorem dL_law_498 : decode cL_law 498 = .ok (.aload_n 2, 1) := by decide +kernel
theorem dL_law_499 : decode cL_law 499 = .ok (.invokevirtual 87, 3) := by decide +kernel
theorem dL_law_502 : decode cL_law 502 = .ok (.if_icmp .eq 289, 3) := by decide +kernel
theorem dL_law_505 : decode cL_law 505 = .ok (.iconst 0, 1) := by decide +kernel
theorem dL_law_506 : decode cL_law 506 = .ok (.ireturn, 1) := by decide +kernel
theorem dL_law_507 : decode cL_law 507 = .ok (.aload_n 1, 1) := by decide +kernel
theorem dL_law_508 : decode cL_law 508 = .ok (.aload_n 0, 1) := by decide +kernel
theorem dL_law_509 : decode cL_law 509 = .ok (.iload 4, 2) := by decide +kernel
theorem dL_law_511 : decode cL_law 511 = .ok (.iconst 1, 1) := by decide +kernel
theorem dL_law_512 : decode cL_law 512 = .ok (.iadd, 1) := by decide +kernel
theorem dL_law_513 : decode cL_law 513 = .ok (.iaload, 1) := by decide +kernel
theorem dL_law_514 : decode cL_law 514 = .ok (.invokevirtual 88, 3) := by decide +kernel
theorem dL_law_517 : decode cL_law 517 = .ok (.aload_n 2, 1) := by decide +kernel
theorem dL_law_518 : decode cL_law 518 = .ok (.aload_n 0, 1) := by decide +kernel
theorem dL_law_519 : decode cL_law 519 = .ok (.iload 4, 2) := by decide +kernel
theorem dL_law_521 : decode cL_law 521 = .ok (.iconst 1, 1) := by decide +kernel
theorem dL_law_522 : decode cL_law 522 = .ok (.iadd, 1) := by decide +kernel
theorem dL_law_523 : decode cL_law 523 = .ok (.iaload, 1) := by decide +kernel
theorem dL_law_524 : decode cL_law 524 = .ok (.invokevirtual 91, 3) := by decide +kernel
theorem dL_law_527 : decode cL_law 527 = .ok (.if_icmp .eq 264, 3) := by decide +kernel
theorem dL_law_530 : decode cL_law 530 = .ok (.iconst 0, 1) := by decide +kernel
theorem dL_law_531 : decode cL_law 531 = .ok (.ireturn, 1) := by decide +kernel
theorem dL_law_532 : decode cL_law 532 = .ok (.aload_n 1, 1) := by decide +kernel
theorem dL_law_533 : decode cL_law 533 = .ok (.aload_n 0, 1) := by decide +kernel
theorem dL_law_534 : decode cL_law 534 = .ok (.iload 4, 2) := by decide +kernel
theorem dL_law_536 : decode cL_law 536 = .ok (.iconst 1, 1) := by decide +kernel
theorem dL_law_537 : decode cL_law 537 = .ok (.iadd, 1) := by decide +kernel
theorem dL_law_538 : decode cL_law 538 = .ok (.iaload, 1) := by decide +kernel
theorem dL_law_539 : decode cL_law 539 = .ok (.invokevirtual 92, 3) := by decide +kernel
theorem dL_law_542 : decode cL_law 542 = .ok (.aload_n 2, 1) := by decide +kernel
theorem dL_law_543 : decode cL_law 543 = .ok (.aload_n 0, 1) := by decide +kernel
theorem dL_law_544 : decode cL_law 544 = .ok (.iload 4, 2) := by decide +kernel
theorem dL_law_546 : decode cL_law 546 = .ok (.iconst 1, 1) := by decide +kernel
theorem dL_law_547 : decode cL_law 547 = .ok (.iadd, 1) := by decide +kernel
theorem dL_law_548 : decode cL_law 548 = .ok (.iaload, 1) := by decide +kernel
theorem dL_law_549 : decode cL_law 549 = .ok (.invokevirtual 95, 3) := by decide +kernel
theorem dL_law_552 : decode cL_law 552 = .ok (.if_icmp .eq 239, 3) := by decide +kernel
theorem dL_law_555 : decode cL_law 555 = .ok (.iconst 0, 1) := by decide +kernel
theorem dL_law_556 : decode cL_law 556 = .ok (.ireturn, 1) := by decide +kernel
theorem dL_law_557 : decode cL_law 557 = .ok (.aload_n 1, 1) := by decide +kernel
theorem dL_law_558 : decode cL_law 558 = .ok (.invokevirtual 96, 3) := by decide +kernel
theorem dL_law_561 : decode cL_law 561 = .ok (.aload_n 2, 1) := by decide +kernel
theorem dL_law_562 : decode cL_law 562 = .ok (.invokevirtual 99, 3) := by decide +kernel
theorem dL_law_565 : decode cL_law 565 = .ok (.if_icmp .eq 226, 3) := by decide +kernel
theorem dL_law_568 : decode cL_law 568 = .ok (.iconst 0, 1) := by decide +kernel
theorem dL_law_569 : decode cL_law 569 = .ok (.ireturn, 1) := by decide +kernel
theorem dL_law_570 : decode cL_law 570 = .ok (.aload_n 1, 1) := by decide +kernel
theorem dL_law_571 : decode cL_law 571 = .ok (.invokevirtual 100, 3) := by decide +kernel
theorem dL_law_574 : decode cL_law 574 = .ok (.aload_n 2, 1) := by decide +kernel
theorem dL_law_575 : decode cL_law 575 = .ok (.invokevirtual 103, 3) := by decide +kernel
theorem dL_law_578 : decode cL_law 578 = .ok (.if_icmp .eq 213, 3) := by decide +kernel
theorem dL_law_581 : decode cL_law 581 = .ok (.iconst 0, 1) := by decide +kernel
theorem dL_law_582 : decode cL_law 582 = .ok (.ireturn, 1) := by decide +kernel
theorem dL_law_583 : decode cL_law 583 = .ok (.aload_n 1, 1) := by decide +kernel
theorem dL_law_584 : decode cL_law 584 = .ok (.aload_n 0, 1) := by decide +kernel
theorem dL_law_585 : decode cL_law 585 = .ok (.iload 4, 2) := by decide +kernel
theorem dL_law_587 : decode cL_law 587 = .ok (.iconst 1, 1) := by decide +kernel
theorem dL_law_588 : decode cL_law 588 = .ok (.iadd, 1) := by decide +kernel
theorem dL_law_589 : decode cL_law 589 = .ok (.iaload, 1) := by decide +kernel
theorem dL_law_590 : decode cL_law 590 = .ok (.invokevirtual 104, 3) := by decide +kernel
theorem dL_law_593 : decode cL_law 593 = .ok (.aload_n 2, 1) := by decide +kernel
theorem dL_law_594 : decode cL_law 594 = .ok (.aload_n 0, 1) := by decide +kernel
theorem dL_law_595 : decode cL_law 595 = .ok (.iload 4, 2) := by decide +kernel
theorem dL_law_597 : decode cL_law 597 = .ok (.iconst 1, 1) := by decide +kernel
theorem dL_law_598 : decode cL_law 598 = .ok (.iadd, 1) := by decide +kernel
theorem dL_law_599 : decode cL_law 599 = .ok (.iaload, 1) := by decide +kernel
theorem dL_law_600 : decode cL_law 600 = .ok (.invokevirtual 107, 3) := by decide +kernel
theorem dL_law_603 : decode cL_law 603 = .ok (.if_icmp .eq 188, 3) := by decide +kernel
theorem dL_law_606 : decode cL_law 606 = .ok (.iconst 0, 1) := by decide +kernel
theorem dL_law_607 : decode cL_law 607 = .ok (.ireturn, 1) := by decide +kernel
theorem dL_law_608 : decode cL_law 608 = .ok (.aload_n 1, 1) := by decide +kernel
theorem dL_law_609 : decode cL_law 609 = .ok (.invokevirtual 108, 3) := by decide +kernel
theorem dL_law_612 : decode cL_law 612 = .ok (.aload_n 2, 1) := by decide +kernel
theorem dL_law_613 : decode cL_law 613 = .ok (.invokevirtual 111, 3) := by decide +kernel
theorem dL_law_616 : decode cL_law 616 = .ok (.if_icmp .eq 175, 3) := by decide +kernel
theorem dL_law_619 : decode cL_law 619 = .ok (.iconst 0, 1) := by decide +kernel
theorem dL_law_620 : decode cL_law 620 = .ok (.ireturn, 1) := by decide +kernel
theorem dL_law_621 : decode cL_law 621 = .ok (.aload_n 1, 1) := by decide +kernel
theorem dL_law_622 : decode cL_law 622 = .ok (.aload_n 0, 1) := by decide +kernel
theorem dL_law_623 : decode cL_law 623 = .ok (.iload 4, 2) := by decide +kernel
theorem dL_law_625 : decode cL_law 625 = .ok (.iconst 1, 1) := by decide +kernel
theorem dL_law_626 : decode cL_law 626 = .ok (.iadd, 1) := by decide +kernel
theorem dL_law_627 : decode cL_law 627 = .ok (.iaload, 1) := by decide +kernel
theorem dL_law_628 : decode cL_law 628 = .ok (.invokevirtual 112, 3) := by decide +kernel
theorem dL_law_631 : decode cL_law 631 = .ok (.aload_n 2, 1) := by decide +kernel
theorem dL_law_632 : decode cL_law 632 = .ok (.aload_n 0, 1) := by decide +kernel
theorem dL_law_633 : decode cL_law 633 = .ok (.iload 4, 2) := by decide +kernel
theorem dL_law_635 : decode cL_law 635 = .ok (.iconst 1, 1) := by decide +kernel
theorem dL_law_636 : decode cL_law 636 = .ok (.iadd, 1) := by decide +kernel
theorem dL_law_637 : decode cL_law 637 = .ok (.iaload, 1) := by decide +kernel
theorem dL_law_638 : decode cL_law 638 = .ok (.invokevirtual 115, 3) := by decide +kernel
theorem dL_law_641 : decode cL_law 641 = .ok (.if_icmp .eq 150, 3) := by decide +kernel
theorem dL_law_644 : decode cL_law 644 = .ok (.iconst 0, 1) := by decide +kernel
theorem dL_law_645 : decode cL_law 645 = .ok (.ireturn, 1) := by decide +kernel
theorem dL_law_646 : decode cL_law 646 = .ok (.aload_n 1, 1) := by decide +kernel
theorem dL_law_647 : decode cL_law 647 = .ok (.invokevirtual 116, 3) := by decide +kernel
theorem dL_law_650 : decode cL_law 650 = .ok (.aload_n 2, 1) := by decide +kernel
theorem dL_law_651 : decode cL_law 651 = .ok (.invokevirtual 119, 3) := by decide +kernel
theorem dL_law_654 : decode cL_law 654 = .ok (.goto 137, 3) := by decide +kernel
theorem dL_law_657 : decode cL_law 657 = .ok (.aload_n 1, 1) := by decide +kernel
theorem dL_law_658 : decode cL_law 658 = .ok (.aload_n 0, 1) := by decide +kernel
theorem dL_law_659 : decode cL_law 659 = .ok (.iload 4, 2) := by decide +kernel
theorem dL_law_661 : decode cL_law 661 = .ok (.iconst 1, 1) := by decide +kernel
theorem dL_law_662 : decode cL_law 662 = .ok (.iadd, 1) := by decide +kernel
theorem dL_law_663 : decode cL_law 663 = .ok (.iaload, 1) := by decide +kernel
theorem dL_law_664 : decode cL_law 664 = .ok (.ifCond .eq 7, 3) := by decide +kernel
theorem dL_law_667 : decode cL_law 667 = .ok (.iconst 1, 1) := by decide +kernel
theorem dL_law_668 : decode cL_law 668 = .ok (.goto 4, 3) := by decide +kernel
theorem dL_law_671 : decode cL_law 671 = .ok (.iconst 0, 1) := by decide +kernel
theorem dL_law_672 : decode cL_law 672 = .ok (.aload_n 0, 1) := by decide +kernel
theorem dL_law_673 : decode cL_law 673 = .ok (.iload 4, 2) := by decide +kernel
theorem dL_law_675 : decode cL_law 675 = .ok (.iconst 2, 1) := by decide +kernel
theorem dL_law_676 : decode cL_law 676 = .ok (.iadd, 1) := by decide +kernel
theorem dL_law_677 : decode cL_law 677 = .ok (.iaload, 1) := by decide +kernel
theorem dL_law_678 : decode cL_law 678 = .ok (.aload_n 0, 1) := by decide +kernel
theorem dL_law_679 : decode cL_law 679 = .ok (.iload 4, 2) := by decide +kernel
theorem dL_law_681 : decode cL_law 681 = .ok (.iconst 3, 1) := by decide +kernel
theorem dL_law_682 : decode cL_law 682 = .ok (.iadd, 1) := by decide +kernel
theorem dL_law_683 : decode cL_law 683 = .ok (.iaload, 1) := by decide +kernel
theorem dL_law_684 : decode cL_law 684 = .ok (.invokevirtual 120, 3) := by decide +kernel
theorem dL_law_687 : decode cL_law 687 = .ok (.aload_n 2, 1) := by decide +kernel
theorem dL_law_688 : decode cL_law 688 = .ok (.aload_n 0, 1) := by decide +kernel
theorem dL_law_689 : decode cL_law 689 = .ok (.iload 4, 2) := by decide +kernel
theorem dL_law_691 : decode cL_law 691 = .ok (.iconst 1, 1) := by decide +kernel
theorem dL_law_692 : decode cL_law 692 = .ok (.iadd, 1) := by decide +kernel
theorem dL_law_693 : decode cL_law 693 = .ok (.iaload, 1) := by decide +kernel
theorem dL_law_694 : decode cL_law 694 = .ok (.ifCond .eq 7, 3) := by decide +kernel
theorem dL_law_697 : decode cL_law 697 = .ok (.iconst 1, 1) := by decide +kernel
theorem dL_law_698 : decode cL_law 698 = .ok (.goto 4, 3) := by decide +kernel
theorem dL_law_701 : decode cL_law 701 = .ok (.iconst 0, 1) := by decide +kernel
theorem dL_law_702 : decode cL_law 702 = .ok (.aload_n 0, 1) := by decide +kernel
theorem dL_law_703 : decode cL_law 703 = .ok (.iload 4, 2) := by decide +kernel
theorem dL_law_705 : decode cL_law 705 = .ok (.iconst 2, 1) := by decide +kernel
theorem dL_law_706 : decode cL_law 706 = .ok (.iadd, 1) := by decide +kernel
theorem dL_law_707 : decode cL_law 707 = .ok (.iaload, 1) := by decide +kernel
theorem dL_law_708 : decode cL_law 708 = .ok (.aload_n 0, 1) := by decide +kernel
theorem dL_law_709 : decode cL_law 709 = .ok (.iload 4, 2) := by decide +kernel
theorem dL_law_711 : decode cL_law 711 = .ok (.iconst 3, 1) := by decide +kernel
theorem dL_law_712 : decode cL_law 712 = .ok (.iadd, 1) := by decide +kernel
theorem dL_law_713 : decode cL_law 713 = .ok (.iaload, 1) := by decide +kernel
theorem dL_law_714 : decode cL_law 714 = .ok (.invokevirtual 124, 3) := by decide +kernel
theorem dL_law_717 : decode cL_law 717 = .ok (.if_icmp .eq 74, 3) := by decide +kernel
theorem dL_law_720 : decode cL_law 720 = .ok (.iconst 0, 1) := by decide +kernel
theorem dL_law_721 : decode cL_law 721 = .ok (.ireturn, 1) := by decide +kernel
theorem dL_law_722 : decode cL_law 722 = .ok (.aload_n 1, 1) := by decide +kernel
theorem dL_law_723 : decode cL_law 723 = .ok (.aload_n 3, 1) := by decide +kernel
theorem dL_law_724 : decode cL_law 724 = .ok (.invokestatic 125, 3) := by decide +kernel
theorem dL_law_727 : decode cL_law 727 = .ok (.istore 5, 2) := by decide +kernel
theorem dL_law_729 : decode cL_law 729 = .ok (.aload_n 2, 1) := by decide +kernel
theorem dL_law_730 : decode cL_law 730 = .ok (.invokevirtual 128, 3) := by decide +kernel
theorem dL_law_733 : decode cL_law 733 = .ok (.istore 6, 2) := by decide +kernel
theorem dL_law_735 : decode cL_law 735 = .ok (.aload_n 2, 1) := by decide +kernel
theorem dL_law_736 : decode cL_law 736 = .ok (.invokevirtual 73, 3) := by decide +kernel
theorem dL_law_739 : decode cL_law 739 = .ok (.iload 5, 2) := by decide +kernel
theorem dL_law_741 : decode cL_law 741 = .ok (.if_icmp .eq 5, 3) := by decide +kernel
theorem dL_law_744 : decode cL_law 744 = .ok (.iconst 0, 1) := by decide +kernel
theorem dL_law_745 : decode cL_law 745 = .ok (.ireturn, 1) := by decide +kernel
theorem dL_law_746 : decode cL_law 746 = .ok (.iload 5, 2) := by decide +kernel
theorem dL_law_748 : decode cL_law 748 = .ok (.ifCond .ne 15, 3) := by decide +kernel
theorem dL_law_751 : decode cL_law 751 = .ok (.aload_n 3, 1) := by decide +kernel
theorem dL_law_752 : decode cL_law 752 = .ok (.iconst 0, 1) := by decide +kernel
theorem dL_law_753 : decode cL_law 753 = .ok (.laload, 1) := by decide +kernel
theorem dL_law_754 : decode cL_law 754 = .ok (.iload 6, 2) := by decide +kernel
theorem dL_law_756 : decode cL_law 756 = .ok (.i2l, 1) := by decide +kernel
theorem dL_law_757 : decode cL_law 757 = .ok (.lcmp, 1) := by decide +kernel
theorem dL_law_758 : decode cL_law 758 = .ok (.ifCond .eq 5, 3) := by decide +kernel
theorem dL_law_761 : decode cL_law 761 = .ok (.iconst 0, 1) := by decide +kernel
theorem dL_law_762 : decode cL_law 762 = .ok (.ireturn, 1) := by decide +kernel
theorem dL_law_763 : decode cL_law 763 = .ok (.goto 28, 3) := by decide +kernel
theorem dL_law_766 : decode cL_law 766 = .ok (.aload_n 1, 1) := by decide +kernel
theorem dL_law_767 : decode cL_law 767 = .ok (.aload_n 0, 1) := by decide +kernel
theorem dL_law_768 : decode cL_law 768 = .ok (.iload 4, 2) := by decide +kernel
theorem dL_law_770 : decode cL_law 770 = .ok (.iconst 1, 1) := by decide +kernel
theorem dL_law_771 : decode cL_law 771 = .ok (.iadd, 1) := by decide +kernel
theorem dL_law_772 : decode cL_law 772 = .ok (.iaload, 1) := by decide +kernel
theorem dL_law_773 : decode cL_law 773 = .ok (.invokevirtual 129, 3) := by decide +kernel
theorem dL_law_776 : decode cL_law 776 = .ok (.aload_n 2, 1) := by decide +kernel
theorem dL_law_777 : decode cL_law 777 = .ok (.aload_n 0, 1) := by decide +kernel
theorem dL_law_778 : decode cL_law 778 = .ok (.iload 4, 2) := by decide +kernel
theorem dL_law_780 : decode cL_law 780 = .ok (.iconst 1, 1) := by decide +kernel
theorem dL_law_781 : decode cL_law 781 = .ok (.iadd, 1) := by decide +kernel
theorem dL_law_782 : decode cL_law 782 = .ok (.iaload, 1) := by decide +kernel
theorem dL_law_783 : decode cL_law 783 = .ok (.invokevirtual 132, 3) := by decide +kernel
theorem dL_law_786 : decode cL_law 786 = .ok (.if_icmp .eq 5, 3) := by decide +kernel
theorem dL_law_789 : decode cL_law 789 = .ok (.iconst 0, 1) := by decide +kernel
theorem dL_law_790 : decode cL_law 790 = .ok (.ireturn, 1) := by decide +kernel
theorem dL_law_791 : decode cL_law 791 = .ok (.iinc 4 4, 3) := by decide +kernel
theorem dL_law_794 : decode cL_law 794 = .ok (.goto (-771), 3) := by decide +kernel
theorem dL_law_797 : decode cL_law 797 = .ok (.iconst 1, 1) := by decide +kernel
theorem dL_law_798 : decode cL_law 798 = .ok (.ireturn, 1) := by decide +kernel
