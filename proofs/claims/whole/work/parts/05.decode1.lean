theorem dX3_gather_33 : decode cX3_gather 33 = .ok (.istore 4, 2) := by decide +kernel
theorem dX3_gather_35 : decode cX3_gather 35 = .ok (.iconst 0, 1) := by decide +kernel
theorem dX3_gather_36 : decode cX3_gather 36 = .ok (.istore 5, 2) := by decide +kernel
theorem dX3_gather_38 : decode cX3_gather 38 = .ok (.iload 5, 2) := by decide +kernel
theorem dX3_gather_40 : decode cX3_gather 40 = .ok (.aload_n 1, 1) := by decide +kernel
theorem dX3_gather_41 : decode cX3_gather 41 = .ok (.getfield 77, 3) := by decide +kernel
theorem dX3_gather_44 : decode cX3_gather 44 = .ok (.iload 4, 2) := by decide +kernel
theorem dX3_gather_46 : decode cX3_gather 46 = .ok (.iaload, 1) := by decide +kernel
theorem dX3_gather_47 : decode cX3_gather 47 = .ok (.if_icmp .ge 62, 3) := by decide +kernel
theorem dX3_gather_50 : decode cX3_gather 50 = .ok (.aload_n 1, 1) := by decide +kernel
theorem dX3_gather_51 : decode cX3_gather 51 = .ok (.iload 4, 2) := by decide +kernel
theorem dX3_gather_53 : decode cX3_gather 53 = .ok (.iload 5, 2) := by decide +kernel
theorem dX3_gather_55 : decode cX3_gather 55 = .ok (.invokevirtual 80, 3) := by decide +kernel
theorem dX3_gather_58 : decode cX3_gather 58 = .ok (.istore 6, 2) := by decide +kernel
theorem dX3_gather_60 : decode cX3_gather 60 = .ok (.aload_n 1, 1) := by decide +kernel
theorem dX3_gather_61 : decode cX3_gather 61 = .ok (.iload 6, 2) := by decide +kernel
theorem dX3_gather_63 : decode cX3_gather 63 = .ok (.iload 4, 2) := by decide +kernel
theorem dX3_gather_65 : decode cX3_gather 65 = .ok (.invokevirtual 84, 3) := by decide +kernel
theorem dX3_gather_68 : decode cX3_gather 68 = .ok (.istore 7, 2) := by decide +kernel
theorem dX3_gather_70 : decode cX3_gather 70 = .ok (.aload_n 1, 1) := by decide +kernel
theorem dX3_gather_71 : decode cX3_gather 71 = .ok (.getfield 87, 3) := by decide +kernel
theorem dX3_gather_74 : decode cX3_gather 74 = .ok (.iload 6, 2) := by decide +kernel
theorem dX3_gather_76 : decode cX3_gather 76 = .ok (.baload, 1) := by decide +kernel
theorem dX3_gather_77 : decode cX3_gather 77 = .ok (.ifCond .eq 26, 3) := by decide +kernel
theorem dX3_gather_80 : decode cX3_gather 80 = .ok (.iload 7, 2) := by decide +kernel
theorem dX3_gather_82 : decode cX3_gather 82 = .ok (.iconst (-1), 1) := by decide +kernel
theorem dX3_gather_83 : decode cX3_gather 83 = .ok (.if_icmp .eq 20, 3) := by decide +kernel
theorem dX3_gather_86 : decode cX3_gather 86 = .ok (.aload_n 0, 1) := by decide +kernel
theorem dX3_gather_87 : decode cX3_gather 87 = .ok (.getfield 9, 3) := by decide +kernel
theorem dX3_gather_90 : decode cX3_gather 90 = .ok (.iload 7, 2) := by decide +kernel
theorem dX3_gather_92 : decode cX3_gather 92 = .ok (.iaload, 1) := by decide +kernel
theorem dX3_gather_93 : decode cX3_gather 93 = .ok (.iconst (-1), 1) := by decide +kernel
theorem dX3_gather_94 : decode cX3_gather 94 = .ok (.if_icmp .ne 9, 3) := by decide +kernel
theorem dX3_gather_97 : decode cX3_gather 97 = .ok (.aload_n 0, 1) := by decide +kernel
theorem dX3_gather_98 : decode cX3_gather 98 = .ok (.iload 7, 2) := by decide +kernel
theorem dX3_gather_100 : decode cX3_gather 100 = .ok (.invokevirtual 73, 3) := by decide +kernel
theorem dX3_gather_103 : decode cX3_gather 103 = .ok (.iinc 5 1, 3) := by decide +kernel
theorem dX3_gather_106 : decode cX3_gather 106 = .ok (.goto (-68), 3) := by decide +kernel
theorem dX3_gather_109 : decode cX3_gather 109 = .ok (.iinc 3 1, 3) := by decide +kernel
theorem dX3_gather_112 : decode cX3_gather 112 = .ok (.goto (-100), 3) := by decide +kernel
theorem dX3_gather_115 : decode cX3_gather 115 = .ok (.return_, 1) := by decide +kernel
theorem dX3_join_0 : decode cX3_join 0 = .ok (.aload_n 0, 1) := by decide +kernel
theorem dX3_join_1 : decode cX3_join 1 = .ok (.getfield 9, 3) := by decide +kernel
theorem dX3_join_4 : decode cX3_join 4 = .ok (.iload_n 1, 1) := by decide +kernel
theorem dX3_join_5 : decode cX3_join 5 = .ok (.aload_n 0, 1) := by decide +kernel
theorem dX3_join_6 : decode cX3_join 6 = .ok (.getfield 45, 3) := by decide +kernel
theorem dX3_join_9 : decode cX3_join 9 = .ok (.iastore, 1) := by decide +kernel
theorem dX3_join_10 : decode cX3_join 10 = .ok (.aload_n 0, 1) := by decide +kernel
theorem dX3_join_11 : decode cX3_join 11 = .ok (.getfield 30, 3) := by decide +kernel
theorem dX3_join_14 : decode cX3_join 14 = .ok (.aload_n 0, 1) := by decide +kernel
theorem dX3_join_15 : decode cX3_join 15 = .ok (.getfield 70, 3) := by decide +kernel
theorem dX3_join_18 : decode cX3_join 18 = .ok (.iload_n 1, 1) := by decide +kernel
theorem dX3_join_19 : decode cX3_join 19 = .ok (.iastore, 1) := by decide +kernel
theorem dX3_join_20 : decode cX3_join 20 = .ok (.aload_n 0, 1) := by decide +kernel
theorem dX3_join_21 : decode cX3_join 21 = .ok (.dup, 1) := by decide +kernel
theorem dX3_join_22 : decode cX3_join 22 = .ok (.getfield 70, 3) := by decide +kernel
theorem dX3_join_25 : decode cX3_join 25 = .ok (.iconst 1, 1) := by decide +kernel
theorem dX3_join_26 : decode cX3_join 26 = .ok (.iadd, 1) := by decide +kernel
theorem dX3_join_27 : decode cX3_join 27 = .ok (.putfield 70, 3) := by decide +kernel
theorem dX3_join_30 : decode cX3_join 30 = .ok (.return_, 1) := by decide +kernel
theorem dX3_describe_0 : decode cX3_describe 0 = .ok (.iconst 0, 1) := by decide +kernel
theorem dX3_describe_1 : decode cX3_describe 1 = .ok (.istore_n 2, 1) := by decide +kernel
theorem dX3_describe_2 : decode cX3_describe 2 = .ok (.iconst 0, 1) := by decide +kernel
theorem dX3_describe_3 : decode cX3_describe 3 = .ok (.istore_n 3, 1) := by decide +kernel
theorem dX3_describe_4 : decode cX3_describe 4 = .ok (.iconst 0, 1) := by decide +kernel
theorem dX3_describe_5 : decode cX3_describe 5 = .ok (.istore 4, 2) := by decide +kernel
theorem dX3_describe_7 : decode cX3_describe 7 = .ok (.iconst 0, 1) := by decide +kernel
theorem dX3_describe_8 : decode cX3_describe 8 = .ok (.istore 5, 2) := by decide +kernel
theorem dX3_describe_10 : decode cX3_describe 10 = .ok (.iconst 0, 1) := by decide +kernel
theorem dX3_describe_11 : decode cX3_describe 11 = .ok (.istore 6, 2) := by decide +kernel
theorem dX3_describe_13 : decode cX3_describe 13 = .ok (.iload 6, 2) := by decide +kernel
theorem dX3_describe_15 : decode cX3_describe 15 = .ok (.aload_n 0, 1) := by decide +kernel
theorem dX3_describe_16 : decode cX3_describe 16 = .ok (.getfield 70, 3) := by decide +kernel
theorem dX3_describe_19 : decode cX3_describe 19 = .ok (.if_icmp .ge 81, 3) := by decide +kernel
theorem dX3_describe_22 : decode cX3_describe 22 = .ok (.aload_n 0, 1) := by decide +kernel
theorem dX3_describe_23 : decode cX3_describe 23 = .ok (.getfield 30, 3) := by decide +kernel
theorem dX3_describe_26 : decode cX3_describe 26 = .ok (.iload 6, 2) := by decide +kernel
theorem dX3_describe_28 : decode cX3_describe 28 = .ok (.iaload, 1) := by decide +kernel
theorem dX3_describe_29 : decode cX3_describe 29 = .ok (.istore 7, 2) := by decide +kernel
theorem dX3_describe_31 : decode cX3_describe 31 = .ok (.aload_n 1, 1) := by decide +kernel
theorem dX3_describe_32 : decode cX3_describe 32 = .ok (.getfield 59, 3) := by decide +kernel
theorem dX3_describe_35 : decode cX3_describe 35 = .ok (.iload 7, 2) := by decide +kernel
theorem dX3_describe_37 : decode cX3_describe 37 = .ok (.iaload, 1) := by decide +kernel
theorem dX3_describe_38 : decode cX3_describe 38 = .ok (.istore 8, 2) := by decide +kernel
theorem dX3_describe_40 : decode cX3_describe 40 = .ok (.aload_n 0, 1) := by decide +kernel
theorem dX3_describe_41 : decode cX3_describe 41 = .ok (.aload_n 1, 1) := by decide +kernel
theorem dX3_describe_42 : decode cX3_describe 42 = .ok (.iload 7, 2) := by decide +kernel
theorem dX3_describe_44 : decode cX3_describe 44 = .ok (.invokevirtual 91, 3) := by decide +kernel
theorem dX3_describe_47 : decode cX3_describe 47 = .ok (.istore 9, 2) := by decide +kernel
theorem dX3_describe_49 : decode cX3_describe 49 = .ok (.iload_n 2, 1) := by decide +kernel
theorem dX3_describe_50 : decode cX3_describe 50 = .ok (.iload 8, 2) := by decide +kernel
theorem dX3_describe_52 : decode cX3_describe 52 = .ok (.iconst 1, 1) := by decide +kernel
theorem dX3_describe_53 : decode cX3_describe 53 = .ok (.if_icmp .ne 7, 3) := by decide +kernel
theorem dX3_describe_56 : decode cX3_describe 56 = .ok (.iconst 1, 1) := by decide +kernel
theorem dX3_describe_57 : decode cX3_describe 57 = .ok (.goto 4, 3) := by decide +kernel
theorem dX3_describe_60 : decode cX3_describe 60 = .ok (.iconst 0, 1) := by decide +kernel
theorem dX3_describe_61 : decode cX3_describe 61 = .ok (.iadd, 1) := by decide +kernel
theorem dX3_describe_62 : decode cX3_describe 62 = .ok (.istore_n 2, 1) := by decide +kernel
theorem dX3_describe_63 : decode cX3_describe 63 = .ok (.iload_n 3, 1) := by decide +kernel
theorem dX3_describe_64 : decode cX3_describe 64 = .ok (.iload 8, 2) := by decide +kernel
theorem dX3_describe_66 : decode cX3_describe 66 = .ok (.iconst 2, 1) := by decide +kernel
theorem dX3_describe_67 : decode cX3_describe 67 = .ok (.if_icmp .le 7, 3) := by decide +kernel
theorem dX3_describe_70 : decode cX3_describe 70 = .ok (.iconst 1, 1) := by decide +kernel
theorem dX3_describe_71 : decode cX3_describe 71 = .ok (.goto 4, 3) := by decide +kernel
theorem dX3_describe_74 : decode cX3_describe 74 = .ok (.iconst 0, 1) := by decide +kernel
theorem dX3_describe_75 : decode cX3_describe 75 = .ok (.iadd, 1) := by decide +kernel
theorem dX3_describe_76 : decode cX3_describe 76 = .ok (.istore_n 3, 1) := by decide +kernel
theorem dX3_describe_77 : decode cX3_describe 77 = .ok (.iload 4, 2) := by decide +kernel
theorem dX3_describe_79 : decode cX3_describe 79 = .ok (.iload 9, 2) := by decide +kernel
theorem dX3_describe_81 : decode cX3_describe 81 = .ok (.iadd, 1) := by decide +kernel
theorem dX3_describe_82 : decode cX3_describe 82 = .ok (.istore 4, 2) := by decide +kernel
theorem dX3_describe_84 : decode cX3_describe 84 = .ok (.iload 5, 2) := by decide +kernel
theorem dX3_describe_86 : decode cX3_describe 86 = .ok (.iload 8, 2) := by decide +kernel
theorem dX3_describe_88 : decode cX3_describe 88 = .ok (.iload 9, 2) := by decide +kernel
theorem dX3_describe_90 : decode cX3_describe 90 = .ok (.isub, 1) := by decide +kernel
theorem dX3_describe_91 : decode cX3_describe 91 = .ok (.iadd, 1) := by decide +kernel
theorem dX3_describe_92 : decode cX3_describe 92 = .ok (.istore 5, 2) := by decide +kernel
theorem dX3_describe_94 : decode cX3_describe 94 = .ok (.iinc 6 1, 3) := by decide +kernel
theorem dX3_describe_97 : decode cX3_describe 97 = .ok (.goto (-84), 3) := by decide +kernel
theorem dX3_describe_100 : decode cX3_describe 100 = .ok (.aload_n 0, 1) := by decide +kernel
theorem dX3_describe_101 : decode cX3_describe 101 = .ok (.getfield 27, 3) := by decide +kernel
theorem dX3_describe_104 : decode cX3_describe 104 = .ok (.aload_n 0, 1) := by decide +kernel
theorem dX3_describe_105 : decode cX3_describe 105 = .ok (.getfield 45, 3) := by decide +kernel
theorem dX3_describe_108 : decode cX3_describe 108 = .ok (.aload_n 0, 1) := by decide +kernel
theorem dX3_describe_109 : decode cX3_describe 109 = .ok (.getfield 30, 3) := by decide +kernel
theorem dX3_describe_112 : decode cX3_describe 112 = .ok (.iconst 0, 1) := by decide +kernel
theorem dX3_describe_113 : decode cX3_describe 113 = .ok (.iaload, 1) := by decide +kernel
theorem dX3_describe_114 : decode cX3_describe 114 = .ok (.iastore, 1) := by decide +kernel
theorem dX3_describe_115 : decode cX3_describe 115 = .ok (.aload_n 0, 1) := by decide +kernel
theorem dX3_describe_116 : decode cX3_describe 116 = .ok (.getfield 18, 3) := by decide +kernel
theorem dX3_describe_119 : decode cX3_describe 119 = .ok (.aload_n 0, 1) := by decide +kernel
theorem dX3_describe_120 : decode cX3_describe 120 = .ok (.getfield 45, 3) := by decide +kernel
theorem dX3_describe_123 : decode cX3_describe 123 = .ok (.aload_n 0, 1) := by decide +kernel
theorem dX3_describe_124 : decode cX3_describe 124 = .ok (.getfield 70, 3) := by decide +kernel
theorem dX3_describe_127 : decode cX3_describe 127 = .ok (.iastore, 1) := by decide +kernel
theorem dX3_describe_128 : decode cX3_describe 128 = .ok (.aload_n 0, 1) := by decide +kernel
theorem dX3_describe_129 : decode cX3_describe 129 = .ok (.getfield 21, 3) := by decide +kernel
theorem dX3_describe_132 : decode cX3_describe 132 = .ok (.aload_n 0, 1) := by decide +kernel
theorem dX3_describe_133 : decode cX3_describe 133 = .ok (.getfield 45, 3) := by decide +kernel
theorem dX3_describe_136 : decode cX3_describe 136 = .ok (.iload 4, 2) := by decide +kernel
theorem dX3_describe_138 : decode cX3_describe 138 = .ok (.iload 5, 2) := by decide +kernel
theorem dX3_describe_140 : decode cX3_describe 140 = .ok (.iconst 2, 1) := by decide +kernel
theorem dX3_describe_141 : decode cX3_describe 141 = .ok (.idiv, 1) := by decide +kernel
theorem dX3_describe_142 : decode cX3_describe 142 = .ok (.iadd, 1) := by decide +kernel
theorem dX3_describe_143 : decode cX3_describe 143 = .ok (.iastore, 1) := by decide +kernel
theorem dX3_describe_144 : decode cX3_describe 144 = .ok (.aload_n 0, 1) := by decide +kernel
theorem dX3_describe_145 : decode cX3_describe 145 = .ok (.getfield 15, 3) := by decide +kernel
theorem dX3_describe_148 : decode cX3_describe 148 = .ok (.aload_n 0, 1) := by decide +kernel
theorem dX3_describe_149 : decode cX3_describe 149 = .ok (.getfield 45, 3) := by decide +kernel
theorem dX3_describe_152 : decode cX3_describe 152 = .ok (.iload_n 3, 1) := by decide +kernel
theorem dX3_describe_153 : decode cX3_describe 153 = .ok (.ifCond .le 7, 3) := by decide +kernel
theorem dX3_describe_156 : decode cX3_describe 156 = .ok (.iconst 2, 1) := by decide +kernel
theorem dX3_describe_157 : decode cX3_describe 157 = .ok (.goto 17, 3) := by decide +kernel
theorem dX3_describe_160 : decode cX3_describe 160 = .ok (.iload_n 2, 1) := by decide +kernel
theorem dX3_describe_161 : decode cX3_describe 161 = .ok (.ifCond .ne 12, 3) := by decide +kernel
theorem dX3_describe_164 : decode cX3_describe 164 = .ok (.iload 4, 2) := by decide +kernel
theorem dX3_describe_166 : decode cX3_describe 166 = .ok (.ifCond .ne 7, 3) := by decide +kernel
theorem dX3_describe_169 : decode cX3_describe 169 = .ok (.iconst 1, 1) := by decide +kernel
theorem dX3_describe_170 : decode cX3_describe 170 = .ok (.goto 4, 3) := by decide +kernel
theorem dX3_describe_173 : decode cX3_describe 173 = .ok (.iconst 0, 1) := by decide +kernel
theorem dX3_describe_174 : decode cX3_describe 174 = .ok (.iastore, 1) := by decide +kernel
theorem dX3_describe_175 : decode cX3_describe 175 = .ok (.aload_n 0, 1) := by decide +kernel
theorem dX3_describe_176 : decode cX3_describe 176 = .ok (.getfield 24, 3) := by decide +kernel
theorem dX3_describe_179 : decode cX3_describe 179 = .ok (.aload_n 0, 1) := by decide +kernel
theorem dX3_describe_180 : decode cX3_describe 180 = .ok (.getfield 45, 3) := by decide +kernel
theorem dX3_describe_183 : decode cX3_describe 183 = .ok (.aload_n 0, 1) := by decide +kernel
theorem dX3_describe_184 : decode cX3_describe 184 = .ok (.getfield 15, 3) := by decide +kernel
theorem dX3_describe_187 : decode cX3_describe 187 = .ok (.aload_n 0, 1) := by decide +kernel
theorem dX3_describe_188 : decode cX3_describe 188 = .ok (.getfield 45, 3) := by decide +kernel
theorem dX3_describe_191 : decode cX3_describe 191 = .ok (.iaload, 1) := by decide +kernel
theorem dX3_describe_192 : decode cX3_describe 192 = .ok (.ifCond .ne 7, 3) := by decide +kernel
theorem dX3_describe_195 : decode cX3_describe 195 = .ok (.iload_n 2, 1) := by decide +kernel
theorem dX3_describe_196 : decode cX3_describe 196 = .ok (.goto 4, 3) := by decide +kernel
theorem dX3_describe_199 : decode cX3_describe 199 = .ok (.iconst 0, 1) := by decide +kernel
theorem dX3_describe_200 : decode cX3_describe 200 = .ok (.iastore, 1) := by decide +kernel
theorem dX3_describe_201 : decode cX3_describe 201 = .ok (.aload_n 0, 1) := by decide +kernel
theorem dX3_describe_202 : decode cX3_describe 202 = .ok (.dup, 1) := by decide +kernel
theorem dX3_describe_203 : decode cX3_describe 203 = .ok (.getfield 48, 3) := by decide +kernel
theorem dX3_describe_206 : decode cX3_describe 206 = .ok (.aload_n 0, 1) := by decide +kernel
theorem dX3_describe_207 : decode cX3_describe 207 = .ok (.getfield 15, 3) := by decide +kernel
theorem dX3_describe_210 : decode cX3_describe 210 = .ok (.aload_n 0, 1) := by decide +kernel
theorem dX3_describe_211 : decode cX3_describe 211 = .ok (.getfield 45, 3) := by decide +kernel
theorem dX3_describe_214 : decode cX3_describe 214 = .ok (.iaload, 1) := by decide +kernel
theorem dX3_describe_215 : decode cX3_describe 215 = .ok (.iconst 2, 1) := by decide +kernel
theorem dX3_describe_216 : decode cX3_describe 216 = .ok (.if_icmp .ne 7, 3) := by decide +kernel
theorem dX3_describe_219 : decode cX3_describe 219 = .ok (.iconst 1, 1) := by decide +kernel
theorem dX3_describe_220 : decode cX3_describe 220 = .ok (.goto 4, 3) := by decide +kernel
theorem dX3_describe_223 : decode cX3_describe 223 = .ok (.iconst 0, 1) := by decide +kernel
theorem dX3_describe_224 : decode cX3_describe 224 = .ok (.iadd, 1) := by decide +kernel
theorem dX3_describe_225 : decode cX3_describe 225 = .ok (.putfield 48, 3) := by decide +kernel
theorem dX3_describe_228 : decode cX3_describe 228 = .ok (.return_, 1) := by decide +kernel
theorem dX3_openOutside_0 : decode cX3_openOutside 0 = .ok (.iconst 0, 1) := by decide +kernel
theorem dX3_openOutside_1 : decode cX3_openOutside 1 = .ok (.istore_n 3, 1) := by decide +kernel
theorem dX3_openOutside_2 : decode cX3_openOutside 2 = .ok (.iconst 0, 1) := by decide +kernel
theorem dX3_openOutside_3 : decode cX3_openOutside 3 = .ok (.istore 4, 2) := by decide +kernel
theorem dX3_openOutside_5 : decode cX3_openOutside 5 = .ok (.iload 4, 2) := by decide +kernel
theorem dX3_openOutside_7 : decode cX3_openOutside 7 = .ok (.aload_n 1, 1) := by decide +kernel
theorem dX3_openOutside_8 : decode cX3_openOutside 8 = .ok (.getfield 77, 3) := by decide +kernel
theorem dX3_openOutside_11 : decode cX3_openOutside 11 = .ok (.iload_n 2, 1) := by decide +kernel
theorem dX3_openOutside_12 : decode cX3_openOutside 12 = .ok (.iaload, 1) := by decide +kernel
theorem dX3_openOutside_13 : decode cX3_openOutside 13 = .ok (.if_icmp .ge 42, 3) := by decide +kernel
theorem dX3_openOutside_16 : decode cX3_openOutside 16 = .ok (.aload_n 1, 1) := by decide +kernel
theorem dX3_openOutside_17 : decode cX3_openOutside 17 = .ok (.iload_n 2, 1) := by decide +kernel
theorem dX3_openOutside_18 : decode cX3_openOutside 18 = .ok (.iload 4, 2) := by decide +kernel
theorem dX3_openOutside_20 : decode cX3_openOutside 20 = .ok (.invokevirtual 80, 3) := by decide +kernel
theorem dX3_openOutside_23 : decode cX3_openOutside 23 = .ok (.istore 5, 2) := by decide +kernel
theorem dX3_openOutside_25 : decode cX3_openOutside 25 = .ok (.aload_n 1, 1) := by decide +kernel
theorem dX3_openOutside_26 : decode cX3_openOutside 26 = .ok (.getfield 87, 3) := by decide +kernel
theorem dX3_openOutside_29 : decode cX3_openOutside 29 = .ok (.iload 5, 2) := by decide +kernel
theorem dX3_openOutside_31 : decode cX3_openOutside 31 = .ok (.baload, 1) := by decide +kernel
theorem dX3_openOutside_32 : decode cX3_openOutside 32 = .ok (.ifCond .eq 17, 3) := by decide +kernel
theorem dX3_openOutside_35 : decode cX3_openOutside 35 = .ok (.aload_n 1, 1) := by decide +kernel
theorem dX3_openOutside_36 : decode cX3_openOutside 36 = .ok (.getfield 95, 3) := by decide +kernel
theorem dX3_openOutside_39 : decode cX3_openOutside 39 = .ok (.iload 5, 2) := by decide +kernel
theorem dX3_openOutside_41 : decode cX3_openOutside 41 = .ok (.iaload, 1) := by decide +kernel
theorem dX3_openOutside_42 : decode cX3_openOutside 42 = .ok (.iconst (-1), 1) := by decide +kernel
theorem dX3_openOutside_43 : decode cX3_openOutside 43 = .ok (.if_icmp .ne 6, 3) := by decide +kernel
theorem dX3_openOutside_46 : decode cX3_openOutside 46 = .ok (.iinc 3 1, 3) := by decide +kernel
theorem dX3_openOutside_49 : decode cX3_openOutside 49 = .ok (.iinc 4 1, 3) := by decide +kernel
theorem dX3_openOutside_52 : decode cX3_openOutside 52 = .ok (.goto (-47), 3) := by decide +kernel
theorem dX3_openOutside_55 : decode cX3_openOutside 55 = .ok (.iload_n 3, 1) := by decide +kernel
theorem dX3_openOutside_56 : decode cX3_openOutside 56 = .ok (.ireturn, 1) := by decide +kernel
theorem dX3_countLongs_0 : decode cX3_countLongs 0 = .ok (.iconst 0, 1) := by decide +kernel
theorem dX3_countLongs_1 : decode cX3_countLongs 1 = .ok (.istore_n 1, 1) := by decide +kernel
theorem dX3_countLongs_2 : decode cX3_countLongs 2 = .ok (.iconst 0, 1) := by decide +kernel
theorem dX3_countLongs_3 : decode cX3_countLongs 3 = .ok (.istore_n 2, 1) := by decide +kernel
theorem dX3_countLongs_4 : decode cX3_countLongs 4 = .ok (.iload_n 2, 1) := by decide +kernel
theorem dX3_countLongs_5 : decode cX3_countLongs 5 = .ok (.aload_n 0, 1) := by decide +kernel
theorem dX3_countLongs_6 : decode cX3_countLongs 6 = .ok (.getfield 45, 3) := by decide +kernel
theorem dX3_countLongs_9 : decode cX3_countLongs 9 = .ok (.if_icmp .ge 60, 3) := by decide +kernel
theorem dX3_countLongs_12 : decode cX3_countLongs 12 = .ok (.aload_n 0, 1) := by decide +kernel
theorem dX3_countLongs_13 : decode cX3_countLongs 13 = .ok (.getfield 15, 3) := by decide +kernel
theorem dX3_countLongs_16 : decode cX3_countLongs 16 = .ok (.iload_n 2, 1) := by decide +kernel
theorem dX3_countLongs_17 : decode cX3_countLongs 17 = .ok (.iaload, 1) := by decide +kernel
theorem dX3_countLongs_18 : decode cX3_countLongs 18 = .ok (.ifCond .ne 26, 3) := by decide +kernel
theorem dX3_countLongs_21 : decode cX3_countLongs 21 = .ok (.aload_n 0, 1) := by decide +kernel
theorem dX3_countLongs_22 : decode cX3_countLongs 22 = .ok (.getfield 18, 3) := by decide +kernel
theorem dX3_countLongs_25 : decode cX3_countLongs 25 = .ok (.iload_n 2, 1) := by decide +kernel
theorem dX3_countLongs_26 : decode cX3_countLongs 26 = .ok (.iaload, 1) := by decide +kernel
theorem dX3_countLongs_27 : decode cX3_countLongs 27 = .ok (.iconst 3, 1) := by decide +kernel
theorem dX3_countLongs_28 : decode cX3_countLongs 28 = .ok (.if_icmp .lt 16, 3) := by decide +kernel
theorem dX3_countLongs_31 : decode cX3_countLongs 31 = .ok (.aload_n 0, 1) := by decide +kernel
theorem dX3_countLongs_32 : decode cX3_countLongs 32 = .ok (.getfield 24, 3) := by decide +kernel
theorem dX3_countLongs_35 : decode cX3_countLongs 35 = .ok (.iload_n 2, 1) := by decide +kernel
theorem dX3_countLongs_36 : decode cX3_countLongs 36 = .ok (.iaload, 1) := by decide +kernel
theorem dX3_countLongs_37 : decode cX3_countLongs 37 = .ok (.ifCond .ne 7, 3) := by decide +kernel
theorem dX3_countLongs_40 : decode cX3_countLongs 40 = .ok (.iconst 1, 1) := by decide +kernel
theorem dX3_countLongs_41 : decode cX3_countLongs 41 = .ok (.goto 4, 3) := by decide +kernel
theorem dX3_countLongs_44 : decode cX3_countLongs 44 = .ok (.iconst 0, 1) := by decide +kernel
theorem dX3_countLongs_45 : decode cX3_countLongs 45 = .ok (.istore_n 3, 1) := by decide +kernel
theorem dX3_countLongs_46 : decode cX3_countLongs 46 = .ok (.iload_n 3, 1) := by decide +kernel
theorem dX3_countLongs_47 : decode cX3_countLongs 47 = .ok (.ifCond .ne 13, 3) := by decide +kernel
theorem dX3_countLongs_50 : decode cX3_countLongs 50 = .ok (.aload_n 0, 1) := by decide +kernel
theorem dX3_countLongs_51 : decode cX3_countLongs 51 = .ok (.getfield 15, 3) := by decide +kernel
theorem dX3_countLongs_54 : decode cX3_countLongs 54 = .ok (.iload_n 2, 1) := by decide +kernel
theorem dX3_countLongs_55 : decode cX3_countLongs 55 = .ok (.iaload, 1) := by decide +kernel
theorem dX3_countLongs_56 : decode cX3_countLongs 56 = .ok (.iconst 1, 1) := by decide +kernel
theorem dX3_countLongs_57 : decode cX3_countLongs 57 = .ok (.if_icmp .ne 6, 3) := by decide +kernel
theorem dX3_countLongs_60 : decode cX3_countLongs 60 = .ok (.iinc 1 1, 3) := by decide +kernel
theorem dX3_countLongs_63 : decode cX3_countLongs 63 = .ok (.iinc 2 1, 3) := by decide +kernel
theorem dX3_countLongs_66 : decode cX3_countLongs 66 = .ok (.goto (-62), 3) := by decide +kernel
theorem dX3_countLongs_69 : decode cX3_countLongs 69 = .ok (.iload_n 1, 1) := by decide +kernel
theorem dX3_countLongs_70 : decode cX3_countLongs 70 = .ok (.ireturn, 1) := by decide +kernel
theorem dX3_closable_0 : decode cX3_closable 0 = .ok (.aload_n 1, 1) := by decide +kernel
theorem dX3_closable_1 : decode cX3_closable 1 = .ok (.getfield 59, 3) := by decide +kernel
theorem dX3_closable_4 : decode cX3_closable 4 = .ok (.iconst 0, 1) := by decide +kernel
theorem dX3_closable_5 : decode cX3_closable 5 = .ok (.aload_n 0, 1) := by decide +kernel
theorem dX3_closable_6 : decode cX3_closable 6 = .ok (.getfield 33, 3) := by decide +kernel
theorem dX3_closable_9 : decode cX3_closable 9 = .ok (.iconst 0, 1) := by decide +kernel
theorem dX3_closable_10 : decode cX3_closable 10 = .ok (.aload_n 1, 1) := by decide +kernel
theorem dX3_closable_11 : decode cX3_closable 11 = .ok (.getfield 57, 3) := by decide +kernel
theorem dX3_closable_14 : decode cX3_closable 14 = .ok (.invokestatic 98, 3) := by decide +kernel
theorem dX3_closable_17 : decode cX3_closable 17 = .ok (.aload_n 0, 1) := by decide +kernel
theorem dX3_closable_18 : decode cX3_closable 18 = .ok (.iconst 0, 1) := by decide +kernel
theorem dX3_closable_19 : decode cX3_closable 19 = .ok (.putfield 70, 3) := by decide +kernel
theorem dX3_closable_22 : decode cX3_closable 22 = .ok (.iconst 0, 1) := by decide +kernel
theorem dX3_closable_23 : decode cX3_closable 23 = .ok (.istore_n 2, 1) := by decide +kernel
theorem dX3_closable_24 : decode cX3_closable 24 = .ok (.iload_n 2, 1) := by decide +kernel
theorem dX3_closable_25 : decode cX3_closable 25 = .ok (.aload_n 1, 1) := by decide +kernel
theorem dX3_closable_26 : decode cX3_closable 26 = .ok (.getfield 57, 3) := by decide +kernel
theorem dX3_closable_29 : decode cX3_closable 29 = .ok (.if_icmp .ge 14, 3) := by decide +kernel
theorem dX3_closable_32 : decode cX3_closable 32 = .ok (.aload_n 0, 1) := by decide +kernel
theorem dX3_closable_33 : decode cX3_closable 33 = .ok (.iload_n 2, 1) := by decide +kernel
theorem dX3_closable_34 : decode cX3_closable 34 = .ok (.invokevirtual 104, 3) := by decide +kernel
theorem dX3_closable_37 : decode cX3_closable 37 = .ok (.iinc 2 1, 3) := by decide +kernel
theorem dX3_closable_40 : decode cX3_closable 40 = .ok (.goto (-16), 3) := by decide +kernel
theorem dX3_closable_43 : decode cX3_closable 43 = .ok (.iconst 0, 1) := by decide +kernel
theorem dX3_closable_44 : decode cX3_closable 44 = .ok (.istore_n 2, 1) := by decide +kernel
theorem dX3_closable_45 : decode cX3_closable 45 = .ok (.iconst 0, 1) := by decide +kernel
theorem dX3_closable_46 : decode cX3_closable 46 = .ok (.istore_n 3, 1) := by decide +kernel
theorem dX3_closable_47 : decode cX3_closable 47 = .ok (.iload_n 3, 1) := by decide +kernel
theorem dX3_closable_48 : decode cX3_closable 48 = .ok (.aload_n 0, 1) := by decide +kernel
theorem dX3_closable_49 : decode cX3_closable 49 = .ok (.getfield 70, 3) := by decide +kernel
theorem dX3_closable_52 : decode cX3_closable 52 = .ok (.if_icmp .ge 30, 3) := by decide +kernel
theorem dX3_closable_55 : decode cX3_closable 55 = .ok (.iload_n 3, 1) := by decide +kernel
theorem dX3_closable_56 : decode cX3_closable 56 = .ok (.sipush 200, 3) := by decide +kernel
theorem dX3_closable_59 : decode cX3_closable 59 = .ok (.if_icmp .ge 23, 3) := by decide +kernel
theorem dX3_closable_62 : decode cX3_closable 62 = .ok (.iload_n 2, 1) := by decide +kernel
theorem dX3_closable_63 : decode cX3_closable 63 = .ok (.aload_n 0, 1) := by decide +kernel
theorem dX3_closable_64 : decode cX3_closable 64 = .ok (.aload_n 1, 1) := by decide +kernel
theorem dX3_closable_65 : decode cX3_closable 65 = .ok (.aload_n 0, 1) := by decide +kernel
theorem dX3_closable_66 : decode cX3_closable 66 = .ok (.getfield 30, 3) := by decide +kernel
theorem dX3_closable_69 : decode cX3_closable 69 = .ok (.iload_n 3, 1) := by decide +kernel
theorem dX3_closable_70 : decode cX3_closable 70 = .ok (.iaload, 1) := by decide +kernel
theorem dX3_closable_71 : decode cX3_closable 71 = .ok (.invokevirtual 107, 3) := by decide +kernel
theorem dX3_closable_74 : decode cX3_closable 74 = .ok (.iadd, 1) := by decide +kernel
theorem dX3_closable_75 : decode cX3_closable 75 = .ok (.istore_n 2, 1) := by decide +kernel
theorem dX3_closable_76 : decode cX3_closable 76 = .ok (.iinc 3 1, 3) := by decide +kernel
theorem dX3_closable_79 : decode cX3_closable 79 = .ok (.goto (-32), 3) := by decide +kernel
theorem dX3_closable_82 : decode cX3_closable 82 = .ok (.iload_n 2, 1) := by decide +kernel
theorem dX3_closable_83 : decode cX3_closable 83 = .ok (.ireturn, 1) := by decide +kernel
theorem dX3_queueIfLast_0 : decode cX3_queueIfLast 0 = .ok (.aload_n 0, 1) := by decide +kernel
theorem dX3_queueIfLast_1 : decode cX3_queueIfLast 1 = .ok (.getfield 33, 3) := by decide +kernel
theorem dX3_queueIfLast_4 : decode cX3_queueIfLast 4 = .ok (.iload_n 1, 1) := by decide +kernel
theorem dX3_queueIfLast_5 : decode cX3_queueIfLast 5 = .ok (.iaload, 1) := by decide +kernel
theorem dX3_queueIfLast_6 : decode cX3_queueIfLast 6 = .ok (.iconst 1, 1) := by decide +kernel
theorem dX3_queueIfLast_7 : decode cX3_queueIfLast 7 = .ok (.if_icmp .ne 33, 3) := by decide +kernel
theorem dX3_queueIfLast_10 : decode cX3_queueIfLast 10 = .ok (.aload_n 0, 1) := by decide +kernel
theorem dX3_queueIfLast_11 : decode cX3_queueIfLast 11 = .ok (.getfield 70, 3) := by decide +kernel
theorem dX3_queueIfLast_14 : decode cX3_queueIfLast 14 = .ok (.sipush 200, 3) := by decide +kernel
theorem dX3_queueIfLast_17 : decode cX3_queueIfLast 17 = .ok (.if_icmp .ge 23, 3) := by decide +kernel
theorem dX3_queueIfLast_20 : decode cX3_queueIfLast 20 = .ok (.aload_n 0, 1) := by decide +kernel
theorem dX3_queueIfLast_21 : decode cX3_queueIfLast 21 = .ok (.getfield 30, 3) := by decide +kernel
theorem dX3_queueIfLast_24 : decode cX3_queueIfLast 24 = .ok (.aload_n 0, 1) := by decide +kernel
theorem dX3_queueIfLast_25 : decode cX3_queueIfLast 25 = .ok (.getfield 70, 3) := by decide +kernel
theorem dX3_queueIfLast_28 : decode cX3_queueIfLast 28 = .ok (.iload_n 1, 1) := by decide +kernel
theorem dX3_queueIfLast_29 : decode cX3_queueIfLast 29 = .ok (.iastore, 1) := by decide +kernel
theorem dX3_queueIfLast_30 : decode cX3_queueIfLast 30 = .ok (.aload_n 0, 1) := by decide +kernel
theorem dX3_queueIfLast_31 : decode cX3_queueIfLast 31 = .ok (.dup, 1) := by decide +kernel
theorem dX3_queueIfLast_32 : decode cX3_queueIfLast 32 = .ok (.getfield 70, 3) := by decide +kernel
theorem dX3_queueIfLast_35 : decode cX3_queueIfLast 35 = .ok (.iconst 1, 1) := by decide +kernel
theorem dX3_queueIfLast_36 : decode cX3_queueIfLast 36 = .ok (.iadd, 1) := by decide +kernel
theorem dX3_queueIfLast_37 : decode cX3_queueIfLast 37 = .ok (.putfield 70, 3) := by decide +kernel
theorem dX3_queueIfLast_40 : decode cX3_queueIfLast 40 = .ok (.return_, 1) := by decide +kernel
theorem dX3_closeOne_0 : decode cX3_closeOne 0 = .ok (.aload_n 0, 1) := by decide +kernel
theorem dX3_closeOne_1 : decode cX3_closeOne 1 = .ok (.getfield 33, 3) := by decide +kernel
theorem dX3_closeOne_4 : decode cX3_closeOne 4 = .ok (.iload_n 2, 1) := by decide +kernel
theorem dX3_closeOne_5 : decode cX3_closeOne 5 = .ok (.iaload, 1) := by decide +kernel
theorem dX3_closeOne_6 : decode cX3_closeOne 6 = .ok (.ifCond .ne 5, 3) := by decide +kernel
theorem dX3_closeOne_9 : decode cX3_closeOne 9 = .ok (.iconst 0, 1) := by decide +kernel
theorem dX3_closeOne_10 : decode cX3_closeOne 10 = .ok (.ireturn, 1) := by decide +kernel
theorem dX3_closeOne_11 : decode cX3_closeOne 11 = .ok (.aload_n 0, 1) := by decide +kernel
theorem dX3_closeOne_12 : decode cX3_closeOne 12 = .ok (.aload_n 1, 1) := by decide +kernel
theorem dX3_closeOne_13 : decode cX3_closeOne 13 = .ok (.iload_n 2, 1) := by decide +kernel
theorem dX3_closeOne_14 : decode cX3_closeOne 14 = .ok (.invokevirtual 110, 3) := by decide +kernel
theorem dX3_closeOne_17 : decode cX3_closeOne 17 = .ok (.istore_n 3, 1) := by decide +kernel
theorem dX3_closeOne_18 : decode cX3_closeOne 18 = .ok (.aload_n 0, 1) := by decide +kernel
theorem dX3_closeOne_19 : decode cX3_closeOne 19 = .ok (.getfield 33, 3) := by decide +kernel
theorem dX3_closeOne_22 : decode cX3_closeOne 22 = .ok (.iload_n 2, 1) := by decide +kernel
theorem dX3_closeOne_23 : decode cX3_closeOne 23 = .ok (.iconst 0, 1) := by decide +kernel
theorem dX3_closeOne_24 : decode cX3_closeOne 24 = .ok (.iastore, 1) := by decide +kernel
theorem dX3_closeOne_25 : decode cX3_closeOne 25 = .ok (.iload_n 3, 1) := by decide +kernel
theorem dX3_closeOne_26 : decode cX3_closeOne 26 = .ok (.iconst (-1), 1) := by decide +kernel
theorem dX3_closeOne_27 : decode cX3_closeOne 27 = .ok (.if_icmp .ne 5, 3) := by decide +kernel
theorem dX3_closeOne_30 : decode cX3_closeOne 30 = .ok (.iconst 1, 1) := by decide +kernel
theorem dX3_closeOne_31 : decode cX3_closeOne 31 = .ok (.ireturn, 1) := by decide +kernel
theorem dX3_closeOne_32 : decode cX3_closeOne 32 = .ok (.aload_n 0, 1) := by decide +kernel
theorem dX3_closeOne_33 : decode cX3_closeOne 33 = .ok (.getfield 33, 3) := by decide +kernel
theorem dX3_closeOne_36 : decode cX3_closeOne 36 = .ok (.iload_n 3, 1) := by decide +kernel
theorem dX3_closeOne_37 : decode cX3_closeOne 37 = .ok (.dup2, 1) := by decide +kernel
theorem dX3_closeOne_38 : decode cX3_closeOne 38 = .ok (.iaload, 1) := by decide +kernel
theorem dX3_closeOne_39 : decode cX3_closeOne 39 = .ok (.iconst 1, 1) := by decide +kernel
theorem dX3_closeOne_40 : decode cX3_closeOne 40 = .ok (.isub, 1) := by decide +kernel
theorem dX3_closeOne_41 : decode cX3_closeOne 41 = .ok (.iastore, 1) := by decide +kernel
theorem dX3_closeOne_42 : decode cX3_closeOne 42 = .ok (.aload_n 0, 1) := by decide +kernel
theorem dX3_closeOne_43 : decode cX3_closeOne 43 = .ok (.iload_n 3, 1) := by decide +kernel
theorem dX3_closeOne_44 : decode cX3_closeOne 44 = .ok (.invokevirtual 104, 3) := by decide +kernel
theorem dX3_closeOne_47 : decode cX3_closeOne 47 = .ok (.aload_n 0, 1) := by decide +kernel
theorem dX3_closeOne_48 : decode cX3_closeOne 48 = .ok (.getfield 33, 3) := by decide +kernel
theorem dX3_closeOne_51 : decode cX3_closeOne 51 = .ok (.iload_n 3, 1) := by decide +kernel
theorem dX3_closeOne_52 : decode cX3_closeOne 52 = .ok (.iaload, 1) := by decide +kernel
theorem dX3_closeOne_53 : decode cX3_closeOne 53 = .ok (.ifCond .ne 7, 3) := by decide +kernel
theorem dX3_closeOne_56 : decode cX3_closeOne 56 = .ok (.iconst 2, 1) := by decide +kernel
theorem dX3_closeOne_57 : decode cX3_closeOne 57 = .ok (.goto 4, 3) := by decide +kernel
theorem dX3_closeOne_60 : decode cX3_closeOne 60 = .ok (.iconst 1, 1) := by decide +kernel
theorem dX3_closeOne_61 : decode cX3_closeOne 61 = .ok (.ireturn, 1) := by decide +kernel
theorem dX3_neighbourLeft_0 : decode cX3_neighbourLeft 0 = .ok (.iconst 0, 1) := by decide +kernel
theorem dX3_neighbourLeft_1 : decode cX3_neighbourLeft 1 = .ok (.istore_n 3, 1) := by decide +kernel
theorem dX3_neighbourLeft_2 : decode cX3_neighbourLeft 2 = .ok (.iload_n 3, 1) := by decide +kernel
theorem dX3_neighbourLeft_3 : decode cX3_neighbourLeft 3 = .ok (.aload_n 1, 1) := by decide +kernel
theorem dX3_neighbourLeft_4 : decode cX3_neighbourLeft 4 = .ok (.getfield 77, 3) := by decide +kernel
theorem dX3_neighbourLeft_7 : decode cX3_neighbourLeft 7 = .ok (.iload_n 2, 1) := by decide +kernel
theorem dX3_neighbourLeft_8 : decode cX3_neighbourLeft 8 = .ok (.iaload, 1) := by decide +kernel
theorem dX3_neighbourLeft_9 : decode cX3_neighbourLeft 9 = .ok (.if_icmp .ge 55, 3) := by decide +kernel
theorem dX3_neighbourLeft_12 : decode cX3_neighbourLeft 12 = .ok (.aload_n 1, 1) := by decide +kernel
theorem dX3_neighbourLeft_13 : decode cX3_neighbourLeft 13 = .ok (.iload_n 2, 1) := by decide +kernel
theorem dX3_neighbourLeft_14 : decode cX3_neighbourLeft 14 = .ok (.iload_n 3, 1) := by decide +kernel
theorem dX3_neighbourLeft_15 : decode cX3_neighbourLeft 15 = .ok (.invokevirtual 80, 3) := by decide +kernel
theorem dX3_neighbourLeft_18 : decode cX3_neighbourLeft 18 = .ok (.istore 4, 2) := by decide +kernel
theorem dX3_neighbourLeft_20 : decode cX3_neighbourLeft 20 = .ok (.aload_n 1, 1) := by decide +kernel
theorem dX3_neighbourLeft_21 : decode cX3_neighbourLeft 21 = .ok (.iload 4, 2) := by decide +kernel
theorem dX3_neighbourLeft_23 : decode cX3_neighbourLeft 23 = .ok (.iload_n 2, 1) := by decide +kernel
theorem dX3_neighbourLeft_24 : decode cX3_neighbourLeft 24 = .ok (.invokevirtual 84, 3) := by decide +kernel
theorem dX3_neighbourLeft_27 : decode cX3_neighbourLeft 27 = .ok (.istore 5, 2) := by decide +kernel
theorem dX3_neighbourLeft_29 : decode cX3_neighbourLeft 29 = .ok (.aload_n 1, 1) := by decide +kernel
theorem dX3_neighbourLeft_30 : decode cX3_neighbourLeft 30 = .ok (.getfield 87, 3) := by decide +kernel
theorem dX3_neighbourLeft_33 : decode cX3_neighbourLeft 33 = .ok (.iload 4, 2) := by decide +kernel
theorem dX3_neighbourLeft_35 : decode cX3_neighbourLeft 35 = .ok (.baload, 1) := by decide +kernel
theorem dX3_neighbourLeft_36 : decode cX3_neighbourLeft 36 = .ok (.ifCond .eq 22, 3) := by decide +kernel
theorem dX3_neighbourLeft_39 : decode cX3_neighbourLeft 39 = .ok (.iload 5, 2) := by decide +kernel
theorem dX3_neighbourLeft_41 : decode cX3_neighbourLeft 41 = .ok (.iconst (-1), 1) := by decide +kernel
theorem dX3_neighbourLeft_42 : decode cX3_neighbourLeft 42 = .ok (.if_icmp .eq 16, 3) := by decide +kernel
theorem dX3_neighbourLeft_45 : decode cX3_neighbourLeft 45 = .ok (.aload_n 0, 1) := by decide +kernel
theorem dX3_neighbourLeft_46 : decode cX3_neighbourLeft 46 = .ok (.getfield 33, 3) := by decide +kernel
theorem dX3_neighbourLeft_49 : decode cX3_neighbourLeft 49 = .ok (.iload 5, 2) := by decide +kernel
theorem dX3_neighbourLeft_51 : decode cX3_neighbourLeft 51 = .ok (.iaload, 1) := by decide +kernel
theorem dX3_neighbourLeft_52 : decode cX3_neighbourLeft 52 = .ok (.ifCond .le 6, 3) := by decide +kernel
theorem dX3_neighbourLeft_55 : decode cX3_neighbourLeft 55 = .ok (.iload 5, 2) := by decide +kernel
theorem dX3_neighbourLeft_57 : decode cX3_neighbourLeft 57 = .ok (.ireturn, 1) := by decide +kernel
theorem dX3_neighbourLeft_58 : decode cX3_neighbourLeft 58 = .ok (.iinc 3 1, 3) := by decide +kernel
theorem dX3_neighbourLeft_61 : decode cX3_neighbourLeft 61 = .ok (.goto (-59), 3) := by decide +kernel
theorem dX3_neighbourLeft_64 : decode cX3_neighbourLeft 64 = .ok (.iconst (-1), 1) := by decide +kernel
theorem dX3_neighbourLeft_65 : decode cX3_neighbourLeft 65 = .ok (.ireturn, 1) := by decide +kernel
theorem dX4_init_0 : decode cX4_init 0 = .ok (.aload_n 0, 1) := by decide +kernel
theorem dX4_init_1 : decode cX4_init 1 = .ok (.invokespecial 3, 3) := by decide +kernel
theorem dX4_init_4 : decode cX4_init 4 = .ok (.aload_n 0, 1) := by decide +kernel
theorem dX4_init_5 : decode cX4_init 5 = .ok (.bipush 16, 2) := by decide +kernel
theorem dX4_init_7 : decode cX4_init 7 = .ok (.newarray .int, 2) := by decide +kernel
theorem dX4_init_9 : decode cX4_init 9 = .ok (.putfield 9, 3) := by decide +kernel
theorem dX4_init_12 : decode cX4_init 12 = .ok (.aload_n 0, 1) := by decide +kernel
theorem dX4_init_13 : decode cX4_init 13 = .ok (.bipush 16, 2) := by decide +kernel
theorem dX4_init_15 : decode cX4_init 15 = .ok (.newarray .int, 2) := by decide +kernel
theorem dX4_init_17 : decode cX4_init 17 = .ok (.putfield 15, 3) := by decide +kernel
theorem dX4_init_20 : decode cX4_init 20 = .ok (.aload_n 0, 1) := by decide +kernel
theorem dX4_init_21 : decode cX4_init 21 = .ok (.bipush 16, 2) := by decide +kernel
theorem dX4_init_23 : decode cX4_init 23 = .ok (.newarray .int, 2) := by decide +kernel
theorem dX4_init_25 : decode cX4_init 25 = .ok (.putfield 18, 3) := by decide +kernel
theorem dX4_init_28 : decode cX4_init 28 = .ok (.aload_n 0, 1) := by decide +kernel
theorem dX4_init_29 : decode cX4_init 29 = .ok (.iconst 1, 1) := by decide +kernel
theorem dX4_init_30 : decode cX4_init 30 = .ok (.newarray .long, 2) := by decide +kernel
theorem dX4_init_32 : decode cX4_init 32 = .ok (.putfield 21, 3) := by decide +kernel
theorem dX4_init_35 : decode cX4_init 35 = .ok (.return_, 1) := by decide +kernel
theorem dX4_forget_0 : decode cX4_forget 0 = .ok (.aload_n 0, 1) := by decide +kernel
theorem dX4_forget_1 : decode cX4_forget 1 = .ok (.iconst 0, 1) := by decide +kernel
theorem dX4_forget_2 : decode cX4_forget 2 = .ok (.putfield 25, 3) := by decide +kernel
theorem dX4_forget_5 : decode cX4_forget 5 = .ok (.return_, 1) := by decide +kernel
theorem dX4_worthOfAll_0 : decode cX4_worthOfAll 0 = .ok (.aload_n 0, 1) := by decide +kernel
theorem dX4_worthOfAll_1 : decode cX4_worthOfAll 1 = .ok (.aload_n 0, 1) := by decide +kernel
theorem dX4_worthOfAll_2 : decode cX4_worthOfAll 2 = .ok (.aload_n 1, 1) := by decide +kernel
theorem dX4_worthOfAll_3 : decode cX4_worthOfAll 3 = .ok (.invokevirtual 29, 3) := by decide +kernel
theorem dX4_worthOfAll_6 : decode cX4_worthOfAll 6 = .ok (.invokevirtual 33, 3) := by decide +kernel
theorem dX4_worthOfAll_9 : decode cX4_worthOfAll 9 = .ok (.ireturn, 1) := by decide +kernel
theorem dX4_worthOfOne_0 : decode cX4_worthOfOne 0 = .ok (.aload_n 0, 1) := by decide +kernel
theorem dX4_worthOfOne_1 : decode cX4_worthOfOne 1 = .ok (.aload_n 0, 1) := by decide +kernel
theorem dX4_worthOfOne_2 : decode cX4_worthOfOne 2 = .ok (.aload_n 1, 1) := by decide +kernel
theorem dX4_worthOfOne_3 : decode cX4_worthOfOne 3 = .ok (.invokevirtual 29, 3) := by decide +kernel
theorem dX4_worthOfOne_6 : decode cX4_worthOfOne 6 = .ok (.iload_n 2, 1) := by decide +kernel
theorem dX4_worthOfOne_7 : decode cX4_worthOfOne 7 = .ok (.invokevirtual 37, 3) := by decide +kernel
theorem dX4_worthOfOne_10 : decode cX4_worthOfOne 10 = .ok (.ireturn, 1) := by decide +kernel
theorem dX4_bestSide_0 : decode cX4_bestSide 0 = .ok (.aload_n 0, 1) := by decide +kernel
theorem dX4_bestSide_1 : decode cX4_bestSide 1 = .ok (.aload_n 1, 1) := by decide +kernel
theorem dX4_bestSide_2 : decode cX4_bestSide 2 = .ok (.invokevirtual 29, 3) := by decide +kernel
theorem dX4_bestSide_5 : decode cX4_bestSide 5 = .ok (.istore_n 3, 1) := by decide +kernel
theorem dX4_bestSide_6 : decode cX4_bestSide 6 = .ok (.aload_n 0, 1) := by decide +kernel
theorem dX4_bestSide_7 : decode cX4_bestSide 7 = .ok (.iload_n 3, 1) := by decide +kernel
theorem dX4_bestSide_8 : decode cX4_bestSide 8 = .ok (.invokevirtual 33, 3) := by decide +kernel
theorem dX4_bestSide_11 : decode cX4_bestSide 11 = .ok (.istore 4, 2) := by decide +kernel
theorem dX4_bestSide_13 : decode cX4_bestSide 13 = .ok (.iconst 0, 1) := by decide +kernel
theorem dX4_bestSide_14 : decode cX4_bestSide 14 = .ok (.istore 5, 2) := by decide +kernel
theorem dX4_bestSide_16 : decode cX4_bestSide 16 = .ok (.iconst 0, 1) := by decide +kernel
theorem dX4_bestSide_17 : decode cX4_bestSide 17 = .ok (.istore 6, 2) := by decide +kernel
theorem dX4_bestSide_19 : decode cX4_bestSide 19 = .ok (.iload 6, 2) := by decide +kernel
theorem dX4_bestSide_21 : decode cX4_bestSide 21 = .ok (.aload_n 1, 1) := by decide +kernel
theorem dX4_bestSide_22 : decode cX4_bestSide 22 = .ok (.getfield 41, 3) := by decide +kernel
theorem dX4_bestSide_25 : decode cX4_bestSide 25 = .ok (.if_icmp .ge 43, 3) := by decide +kernel
theorem dX4_bestSide_28 : decode cX4_bestSide 28 = .ok (.aload_n 1, 1) := by decide +kernel
theorem dX4_bestSide_29 : decode cX4_bestSide 29 = .ok (.getfield 46, 3) := by decide +kernel
theorem dX4_bestSide_32 : decode cX4_bestSide 32 = .ok (.iload 6, 2) := by decide +kernel
theorem dX4_bestSide_34 : decode cX4_bestSide 34 = .ok (.baload, 1) := by decide +kernel
theorem dX4_bestSide_35 : decode cX4_bestSide 35 = .ok (.ifCond .eq 27, 3) := by decide +kernel
theorem dX4_bestSide_38 : decode cX4_bestSide 38 = .ok (.aload_n 0, 1) := by decide +kernel
theorem dX4_bestSide_39 : decode cX4_bestSide 39 = .ok (.iload_n 3, 1) := by decide +kernel
theorem dX4_bestSide_40 : decode cX4_bestSide 40 = .ok (.iload 6, 2) := by decide +kernel
theorem dX4_bestSide_42 : decode cX4_bestSide 42 = .ok (.invokevirtual 37, 3) := by decide +kernel
theorem dX4_bestSide_45 : decode cX4_bestSide 45 = .ok (.iload 4, 2) := by decide +kernel
theorem dX4_bestSide_47 : decode cX4_bestSide 47 = .ok (.if_icmp .ne 15, 3) := by decide +kernel
theorem dX4_bestSide_50 : decode cX4_bestSide 50 = .ok (.iload 5, 2) := by decide +kernel
theorem dX4_bestSide_52 : decode cX4_bestSide 52 = .ok (.iload_n 2, 1) := by decide +kernel
theorem dX4_bestSide_53 : decode cX4_bestSide 53 = .ok (.if_icmp .ne 6, 3) := by decide +kernel
theorem dX4_bestSide_56 : decode cX4_bestSide 56 = .ok (.iload 6, 2) := by decide +kernel
theorem dX4_bestSide_58 : decode cX4_bestSide 58 = .ok (.ireturn, 1) := by decide +kernel
theorem dX4_bestSide_59 : decode cX4_bestSide 59 = .ok (.iinc 5 1, 3) := by decide +kernel
theorem dX4_bestSide_62 : decode cX4_bestSide 62 = .ok (.iinc 6 1, 3) := by decide +kernel
theorem dX4_bestSide_65 : decode cX4_bestSide 65 = .ok (.goto (-46), 3) := by decide +kernel
theorem dX4_bestSide_68 : decode cX4_bestSide 68 = .ok (.iconst (-1), 1) := by decide +kernel
theorem dX4_bestSide_69 : decode cX4_bestSide 69 = .ok (.ireturn, 1) := by decide +kernel
theorem dX4_worthInSet_0 : decode cX4_worthInSet 0 = .ok (.iconst 0, 1) := by decide +kernel
theorem dX4_worthInSet_1 : decode cX4_worthInSet 1 = .ok (.istore_n 3, 1) := by decide +kernel
theorem dX4_worthInSet_2 : decode cX4_worthInSet 2 = .ok (.iload_n 3, 1) := by decide +kernel
theorem dX4_worthInSet_3 : decode cX4_worthInSet 3 = .ok (.aload_n 0, 1) := by decide +kernel
theorem dX4_worthInSet_4 : decode cX4_worthInSet 4 = .ok (.getfield 25, 3) := by decide +kernel
theorem dX4_worthInSet_7 : decode cX4_worthInSet 7 = .ok (.if_icmp .ge 26, 3) := by decide +kernel
theorem dX4_worthInSet_10 : decode cX4_worthInSet 10 = .ok (.aload_n 0, 1) := by decide +kernel
theorem dX4_worthInSet_11 : decode cX4_worthInSet 11 = .ok (.getfield 9, 3) := by decide +kernel
theorem dX4_worthInSet_14 : decode cX4_worthInSet 14 = .ok (.iload_n 3, 1) := by decide +kernel
theorem dX4_worthInSet_15 : decode cX4_worthInSet 15 = .ok (.iaload, 1) := by decide +kernel
theorem dX4_worthInSet_16 : decode cX4_worthInSet 16 = .ok (.iload_n 2, 1) := by decide +kernel
theorem dX4_worthInSet_17 : decode cX4_worthInSet 17 = .ok (.if_icmp .ne 10, 3) := by decide +kernel
theorem dX4_worthInSet_20 : decode cX4_worthInSet 20 = .ok (.aload_n 0, 1) := by decide +kernel
theorem dX4_worthInSet_21 : decode cX4_worthInSet 21 = .ok (.iload_n 1, 1) := by decide +kernel
theorem dX4_worthInSet_22 : decode cX4_worthInSet 22 = .ok (.iload_n 3, 1) := by decide +kernel
theorem dX4_worthInSet_23 : decode cX4_worthInSet 23 = .ok (.invokevirtual 50, 3) := by decide +kernel
theorem dX4_worthInSet_26 : decode cX4_worthInSet 26 = .ok (.ireturn, 1) := by decide +kernel
theorem dX4_worthInSet_27 : decode cX4_worthInSet 27 = .ok (.iinc 3 1, 3) := by decide +kernel
theorem dX4_worthInSet_30 : decode cX4_worthInSet 30 = .ok (.goto (-28), 3) := by decide +kernel
theorem dX4_worthInSet_33 : decode cX4_worthInSet 33 = .ok (.sipush 1000, 3) := by decide +kernel
theorem dX4_worthInSet_36 : decode cX4_worthInSet 36 = .ok (.ireturn, 1) := by decide +kernel
theorem dX4_openSet_0 : decode cX4_openSet 0 = .ok (.aload_n 0, 1) := by decide +kernel
theorem dX4_openSet_1 : decode cX4_openSet 1 = .ok (.aload_n 1, 1) := by decide +kernel
theorem dX4_openSet_2 : decode cX4_openSet 2 = .ok (.invokevirtual 53, 3) := by decide +kernel
theorem dX4_openSet_5 : decode cX4_openSet 5 = .ok (.istore_n 2, 1) := by decide +kernel
theorem dX4_openSet_6 : decode cX4_openSet 6 = .ok (.iload_n 2, 1) := by decide +kernel
theorem dX4_openSet_7 : decode cX4_openSet 7 = .ok (.invokestatic 56, 3) := by decide +kernel
theorem dX4_openSet_10 : decode cX4_openSet 10 = .ok (.aload_n 1, 1) := by decide +kernel
theorem dX4_openSet_11 : decode cX4_openSet 11 = .ok (.getfield 61, 3) := by decide +kernel
theorem dX4_openSet_14 : decode cX4_openSet 14 = .ok (.if_icmp .ne 5, 3) := by decide +kernel
theorem dX4_openSet_17 : decode cX4_openSet 17 = .ok (.iload_n 2, 1) := by decide +kernel
theorem dX4_openSet_18 : decode cX4_openSet 18 = .ok (.ireturn, 1) := by decide +kernel
theorem dX4_openSet_19 : decode cX4_openSet 19 = .ok (.aload_n 0, 1) := by decide +kernel
theorem dX4_openSet_20 : decode cX4_openSet 20 = .ok (.aload_n 1, 1) := by decide +kernel
theorem dX4_openSet_21 : decode cX4_openSet 21 = .ok (.invokevirtual 64, 3) := by decide +kernel
theorem dX4_openSet_24 : decode cX4_openSet 24 = .ok (.istore_n 3, 1) := by decide +kernel
theorem dX4_openSet_25 : decode cX4_openSet 25 = .ok (.aload_n 0, 1) := by decide +kernel
theorem dX4_openSet_26 : decode cX4_openSet 26 = .ok (.aload_n 1, 1) := by decide +kernel
theorem dX4_openSet_27 : decode cX4_openSet 27 = .ok (.iload_n 3, 1) := by decide +kernel
theorem dX4_openSet_28 : decode cX4_openSet 28 = .ok (.invokevirtual 67, 3) := by decide +kernel
theorem dX4_openSet_31 : decode cX4_openSet 31 = .ok (.aload_n 0, 1) := by decide +kernel
theorem dX4_openSet_32 : decode cX4_openSet 32 = .ok (.iload_n 3, 1) := by decide +kernel
theorem dX4_openSet_33 : decode cX4_openSet 33 = .ok (.invokevirtual 71, 3) := by decide +kernel
theorem dX4_openSet_36 : decode cX4_openSet 36 = .ok (.aload_n 0, 1) := by decide +kernel
theorem dX4_openSet_37 : decode cX4_openSet 37 = .ok (.aload_n 1, 1) := by decide +kernel
theorem dX4_openSet_38 : decode cX4_openSet 38 = .ok (.invokevirtual 53, 3) := by decide +kernel
theorem dX4_openSet_41 : decode cX4_openSet 41 = .ok (.ireturn, 1) := by decide +kernel
theorem dX4_openInBase_0 : decode cX4_openInBase 0 = .ok (.iconst 0, 1) := by decide +kernel
theorem dX4_openInBase_1 : decode cX4_openInBase 1 = .ok (.istore_n 2, 1) := by decide +kernel
theorem dX4_openInBase_2 : decode cX4_openInBase 2 = .ok (.iconst 0, 1) := by decide +kernel
theorem dX4_openInBase_3 : decode cX4_openInBase 3 = .ok (.istore_n 3, 1) := by decide +kernel
theorem dX4_openInBase_4 : decode cX4_openInBase 4 = .ok (.iload_n 3, 1) := by decide +kernel
theorem dX4_openInBase_5 : decode cX4_openInBase 5 = .ok (.aload_n 0, 1) := by decide +kernel
theorem dX4_openInBase_6 : decode cX4_openInBase 6 = .ok (.getfield 25, 3) := by decide +kernel
theorem dX4_openInBase_9 : decode cX4_openInBase 9 = .ok (.if_icmp .ge 28, 3) := by decide +kernel
theorem dX4_openInBase_12 : decode cX4_openInBase 12 = .ok (.aload_n 1, 1) := by decide +kernel
theorem dX4_openInBase_13 : decode cX4_openInBase 13 = .ok (.aload_n 0, 1) := by decide +kernel
theorem dX4_openInBase_14 : decode cX4_openInBase 14 = .ok (.getfield 9, 3) := by decide +kernel
theorem dX4_openInBase_17 : decode cX4_openInBase 17 = .ok (.iload_n 3, 1) := by decide +kernel
theorem dX4_openInBase_18 : decode cX4_openInBase 18 = .ok (.iaload, 1) := by decide +kernel
theorem dX4_openInBase_19 : decode cX4_openInBase 19 = .ok (.invokevirtual 75, 3) := by decide +kernel
theorem dX4_openInBase_22 : decode cX4_openInBase 22 = .ok (.ifCond .eq 9, 3) := by decide +kernel
theorem dX4_openInBase_25 : decode cX4_openInBase 25 = .ok (.iload_n 2, 1) := by decide +kernel
theorem dX4_openInBase_26 : decode cX4_openInBase 26 = .ok (.iconst 1, 1) := by decide +kernel
theorem dX4_openInBase_27 : decode cX4_openInBase 27 = .ok (.iload_n 3, 1) := by decide +kernel
theorem dX4_openInBase_28 : decode cX4_openInBase 28 = .ok (.ishl, 1) := by decide +kernel
theorem dX4_openInBase_29 : decode cX4_openInBase 29 = .ok (.ior, 1) := by decide +kernel
theorem dX4_openInBase_30 : decode cX4_openInBase 30 = .ok (.istore_n 2, 1) := by decide +kernel
theorem dX4_openInBase_31 : decode cX4_openInBase 31 = .ok (.iinc 3 1, 3) := by decide +kernel
theorem dX4_openInBase_34 : decode cX4_openInBase 34 = .ok (.goto (-30), 3) := by decide +kernel
theorem dX4_openInBase_37 : decode cX4_openInBase 37 = .ok (.iload_n 2, 1) := by decide +kernel
theorem dX4_openInBase_38 : decode cX4_openInBase 38 = .ok (.ireturn, 1) := by decide +kernel
theorem dX4_keptOfBase_0 : decode cX4_keptOfBase 0 = .ok (.iconst 0, 1) := by decide +kernel
theorem dX4_keptOfBase_1 : decode cX4_keptOfBase 1 = .ok (.istore_n 2, 1) := by decide +kernel
theorem dX4_keptOfBase_2 : decode cX4_keptOfBase 2 = .ok (.iconst 0, 1) := by decide +kernel
theorem dX4_keptOfBase_3 : decode cX4_keptOfBase 3 = .ok (.istore_n 3, 1) := by decide +kernel
theorem dX4_keptOfBase_4 : decode cX4_keptOfBase 4 = .ok (.iload_n 3, 1) := by decide +kernel
theorem dX4_keptOfBase_5 : decode cX4_keptOfBase 5 = .ok (.aload_n 0, 1) := by decide +kernel
theorem dX4_keptOfBase_6 : decode cX4_keptOfBase 6 = .ok (.getfield 25, 3) := by decide +kernel
theorem dX4_keptOfBase_9 : decode cX4_keptOfBase 9 = .ok (.if_icmp .ge 25, 3) := by decide +kernel
theorem dX4_keptOfBase_12 : decode cX4_keptOfBase 12 = .ok (.aload_n 1, 1) := by decide +kernel
theorem dX4_keptOfBase_13 : decode cX4_keptOfBase 13 = .ok (.aload_n 0, 1) := by decide +kernel
theorem dX4_keptOfBase_14 : decode cX4_keptOfBase 14 = .ok (.getfield 9, 3) := by decide +kernel
theorem dX4_keptOfBase_17 : decode cX4_keptOfBase 17 = .ok (.iload_n 3, 1) := by decide +kernel
theorem dX4_keptOfBase_18 : decode cX4_keptOfBase 18 = .ok (.iaload, 1) := by decide +kernel
theorem dX4_keptOfBase_19 : decode cX4_keptOfBase 19 = .ok (.invokevirtual 75, 3) := by decide +kernel
theorem dX4_keptOfBase_22 : decode cX4_keptOfBase 22 = .ok (.ifCond .eq 12, 3) := by decide +kernel
theorem dX4_keptOfBase_25 : decode cX4_keptOfBase 25 = .ok (.iinc 2 1, 3) := by decide +kernel
theorem dX4_keptOfBase_28 : decode cX4_keptOfBase 28 = .ok (.iinc 3 1, 3) := by decide +kernel
theorem dX4_keptOfBase_31 : decode cX4_keptOfBase 31 = .ok (.goto (-27), 3) := by decide +kernel
theorem dX4_keptOfBase_34 : decode cX4_keptOfBase 34 = .ok (.iload_n 2, 1) := by decide +kernel
theorem dX4_keptOfBase_35 : decode cX4_keptOfBase 35 = .ok (.ireturn, 1) := by decide +kernel
theorem dX4_widen_0 : decode cX4_widen 0 = .ok (.aload_n 0, 1) := by decide +kernel
theorem dX4_widen_1 : decode cX4_widen 1 = .ok (.iload_n 2, 1) := by decide +kernel
theorem dX4_widen_2 : decode cX4_widen 2 = .ok (.putfield 25, 3) := by decide +kernel
theorem dX4_widen_5 : decode cX4_widen 5 = .ok (.iconst 0, 1) := by decide +kernel
theorem dX4_widen_6 : decode cX4_widen 6 = .ok (.istore_n 3, 1) := by decide +kernel
theorem dX4_widen_7 : decode cX4_widen 7 = .ok (.iload_n 3, 1) := by decide +kernel
theorem dX4_widen_8 : decode cX4_widen 8 = .ok (.aload_n 1, 1) := by decide +kernel
theorem dX4_widen_9 : decode cX4_widen 9 = .ok (.getfield 41, 3) := by decide +kernel
theorem dX4_widen_12 : decode cX4_widen 12 = .ok (.if_icmp .ge 56, 3) := by decide +kernel
theorem dX4_widen_15 : decode cX4_widen 15 = .ok (.aload_n 1, 1) := by decide +kernel
theorem dX4_widen_16 : decode cX4_widen 16 = .ok (.getfield 46, 3) := by decide +kernel
theorem dX4_widen_19 : decode cX4_widen 19 = .ok (.iload_n 3, 1) := by decide +kernel
theorem dX4_widen_20 : decode cX4_widen 20 = .ok (.baload, 1) := by decide +kernel
theorem dX4_widen_21 : decode cX4_widen 21 = .ok (.ifCond .eq 41, 3) := by decide +kernel
theorem dX4_widen_24 : decode cX4_widen 24 = .ok (.aload_n 0, 1) := by decide +kernel
theorem dX4_widen_25 : decode cX4_widen 25 = .ok (.getfield 25, 3) := by decide +kernel
theorem dX4_widen_28 : decode cX4_widen 28 = .ok (.bipush 16, 2) := by decide +kernel
theorem dX4_widen_30 : decode cX4_widen 30 = .ok (.if_icmp .ge 32, 3) := by decide +kernel
theorem dX4_widen_33 : decode cX4_widen 33 = .ok (.aload_n 0, 1) := by decide +kernel
theorem dX4_widen_34 : decode cX4_widen 34 = .ok (.iload_n 3, 1) := by decide +kernel
theorem dX4_widen_35 : decode cX4_widen 35 = .ok (.iload_n 2, 1) := by decide +kernel
theorem dX4_widen_36 : decode cX4_widen 36 = .ok (.invokevirtual 79, 3) := by decide +kernel
theorem dX4_widen_39 : decode cX4_widen 39 = .ok (.ifCond .ne 23, 3) := by decide +kernel
theorem dX4_widen_42 : decode cX4_widen 42 = .ok (.aload_n 0, 1) := by decide +kernel
theorem dX4_widen_43 : decode cX4_widen 43 = .ok (.getfield 9, 3) := by decide +kernel
theorem dX4_widen_46 : decode cX4_widen 46 = .ok (.aload_n 0, 1) := by decide +kernel
theorem dX4_widen_47 : decode cX4_widen 47 = .ok (.getfield 25, 3) := by decide +kernel
theorem dX4_widen_50 : decode cX4_widen 50 = .ok (.iload_n 3, 1) := by decide +kernel
theorem dX4_widen_51 : decode cX4_widen 51 = .ok (.iastore, 1) := by decide +kernel
theorem dX4_widen_52 : decode cX4_widen 52 = .ok (.aload_n 0, 1) := by decide +kernel
theorem dX4_widen_53 : decode cX4_widen 53 = .ok (.dup, 1) := by decide +kernel
theorem dX4_widen_54 : decode cX4_widen 54 = .ok (.getfield 25, 3) := by decide +kernel
theorem dX4_widen_57 : decode cX4_widen 57 = .ok (.iconst 1, 1) := by decide +kernel
theorem dX4_widen_58 : decode cX4_widen 58 = .ok (.iadd, 1) := by decide +kernel
theorem dX4_widen_59 : decode cX4_widen 59 = .ok (.putfield 25, 3) := by decide +kernel
theorem dX4_widen_62 : decode cX4_widen 62 = .ok (.iinc 3 1, 3) := by decide +kernel
theorem dX4_widen_65 : decode cX4_widen 65 = .ok (.goto (-58), 3) := by decide +kernel
theorem dX4_widen_68 : decode cX4_widen 68 = .ok (.iconst 0, 1) := by decide +kernel
theorem dX4_widen_69 : decode cX4_widen 69 = .ok (.istore_n 3, 1) := by decide +kernel
theorem dX4_widen_70 : decode cX4_widen 70 = .ok (.iload_n 3, 1) := by decide +kernel
theorem dX4_widen_71 : decode cX4_widen 71 = .ok (.aload_n 0, 1) := by decide +kernel
theorem dX4_widen_72 : decode cX4_widen 72 = .ok (.getfield 25, 3) := by decide +kernel
theorem dX4_widen_75 : decode cX4_widen 75 = .ok (.if_icmp .ge 53, 3) := by decide +kernel
theorem dX4_widen_78 : decode cX4_widen 78 = .ok (.aload_n 0, 1) := by decide +kernel
theorem dX4_widen_79 : decode cX4_widen 79 = .ok (.getfield 15, 3) := by decide +kernel
theorem dX4_widen_82 : decode cX4_widen 82 = .ok (.iload_n 3, 1) := by decide +kernel
theorem dX4_widen_83 : decode cX4_widen 83 = .ok (.aload_n 0, 1) := by decide +kernel
theorem dX4_widen_84 : decode cX4_widen 84 = .ok (.aload_n 1, 1) := by decide +kernel
theorem dX4_widen_85 : decode cX4_widen 85 = .ok (.aload_n 1, 1) := by decide +kernel
theorem dX4_widen_86 : decode cX4_widen 86 = .ok (.getfield 83, 3) := by decide +kernel
theorem dX4_widen_89 : decode cX4_widen 89 = .ok (.aload_n 0, 1) := by decide +kernel
theorem dX4_widen_90 : decode cX4_widen 90 = .ok (.getfield 9, 3) := by decide +kernel
theorem dX4_widen_93 : decode cX4_widen 93 = .ok (.iload_n 3, 1) := by decide +kernel
theorem dX4_widen_94 : decode cX4_widen 94 = .ok (.iaload, 1) := by decide +kernel
theorem dX4_widen_95 : decode cX4_widen 95 = .ok (.iaload, 1) := by decide +kernel
theorem dX4_widen_96 : decode cX4_widen 96 = .ok (.invokevirtual 86, 3) := by decide +kernel
theorem dX4_widen_99 : decode cX4_widen 99 = .ok (.iastore, 1) := by decide +kernel
theorem dX4_widen_100 : decode cX4_widen 100 = .ok (.aload_n 0, 1) := by decide +kernel
theorem dX4_widen_101 : decode cX4_widen 101 = .ok (.getfield 18, 3) := by decide +kernel
theorem dX4_widen_104 : decode cX4_widen 104 = .ok (.iload_n 3, 1) := by decide +kernel
theorem dX4_widen_105 : decode cX4_widen 105 = .ok (.aload_n 0, 1) := by decide +kernel
theorem dX4_widen_106 : decode cX4_widen 106 = .ok (.aload_n 1, 1) := by decide +kernel
theorem dX4_widen_107 : decode cX4_widen 107 = .ok (.aload_n 1, 1) := by decide +kernel
theorem dX4_widen_108 : decode cX4_widen 108 = .ok (.getfield 90, 3) := by decide +kernel
theorem dX4_widen_111 : decode cX4_widen 111 = .ok (.aload_n 0, 1) := by decide +kernel
theorem dX4_widen_112 : decode cX4_widen 112 = .ok (.getfield 9, 3) := by decide +kernel
theorem dX4_widen_115 : decode cX4_widen 115 = .ok (.iload_n 3, 1) := by decide +kernel
theorem dX4_widen_116 : decode cX4_widen 116 = .ok (.iaload, 1) := by decide +kernel
theorem dX4_widen_117 : decode cX4_widen 117 = .ok (.iaload, 1) := by decide +kernel
theorem dX4_widen_118 : decode cX4_widen 118 = .ok (.invokevirtual 86, 3) := by decide +kernel
theorem dX4_widen_121 : decode cX4_widen 121 = .ok (.iastore, 1) := by decide +kernel
theorem dX4_widen_122 : decode cX4_widen 122 = .ok (.iinc 3 1, 3) := by decide +kernel
theorem dX4_widen_125 : decode cX4_widen 125 = .ok (.goto (-55), 3) := by decide +kernel
theorem dX4_widen_128 : decode cX4_widen 128 = .ok (.return_, 1) := by decide +kernel
theorem dX4_isKept_0 : decode cX4_isKept 0 = .ok (.iconst 0, 1) := by decide +kernel
theorem dX4_isKept_1 : decode cX4_isKept 1 = .ok (.istore_n 3, 1) := by decide +kernel
theorem dX4_isKept_2 : decode cX4_isKept 2 = .ok (.iload_n 3, 1) := by decide +kernel
theorem dX4_isKept_3 : decode cX4_isKept 3 = .ok (.iload_n 2, 1) := by decide +kernel
theorem dX4_isKept_4 : decode cX4_isKept 4 = .ok (.if_icmp .ge 21, 3) := by decide +kernel
theorem dX4_isKept_7 : decode cX4_isKept 7 = .ok (.aload_n 0, 1) := by decide +kernel
theorem dX4_isKept_8 : decode cX4_isKept 8 = .ok (.getfield 9, 3) := by decide +kernel
theorem dX4_isKept_11 : decode cX4_isKept 11 = .ok (.iload_n 3, 1) := by decide +kernel
theorem dX4_isKept_12 : decode cX4_isKept 12 = .ok (.iaload, 1) := by decide +kernel
theorem dX4_isKept_13 : decode cX4_isKept 13 = .ok (.iload_n 1, 1) := by decide +kernel
theorem dX4_isKept_14 : decode cX4_isKept 14 = .ok (.if_icmp .ne 5, 3) := by decide +kernel
theorem dX4_isKept_17 : decode cX4_isKept 17 = .ok (.iconst 1, 1) := by decide +kernel
theorem dX4_isKept_18 : decode cX4_isKept 18 = .ok (.ireturn, 1) := by decide +kernel
theorem dX4_isKept_19 : decode cX4_isKept 19 = .ok (.iinc 3 1, 3) := by decide +kernel
theorem dX4_isKept_22 : decode cX4_isKept 22 = .ok (.goto (-20), 3) := by decide +kernel
theorem dX4_isKept_25 : decode cX4_isKept 25 = .ok (.iconst 0, 1) := by decide +kernel
theorem dX4_isKept_26 : decode cX4_isKept 26 = .ok (.ireturn, 1) := by decide +kernel
theorem dX4_setOf_0 : decode cX4_setOf 0 = .ok (.iconst 0, 1) := by decide +kernel
theorem dX4_setOf_1 : decode cX4_setOf 1 = .ok (.istore_n 3, 1) := by decide +kernel
theorem dX4_setOf_2 : decode cX4_setOf 2 = .ok (.iconst 0, 1) := by decide +kernel
theorem dX4_setOf_3 : decode cX4_setOf 3 = .ok (.istore 4, 2) := by decide +kernel
theorem dX4_setOf_5 : decode cX4_setOf 5 = .ok (.iload 4, 2) := by decide +kernel
theorem dX4_setOf_7 : decode cX4_setOf 7 = .ok (.aload_n 0, 1) := by decide +kernel
theorem dX4_setOf_8 : decode cX4_setOf 8 = .ok (.getfield 25, 3) := by decide +kernel
theorem dX4_setOf_11 : decode cX4_setOf 11 = .ok (.if_icmp .ge 53, 3) := by decide +kernel
theorem dX4_setOf_14 : decode cX4_setOf 14 = .ok (.iload_n 2, 1) := by decide +kernel
theorem dX4_setOf_15 : decode cX4_setOf 15 = .ok (.iconst (-1), 1) := by decide +kernel
theorem dX4_setOf_16 : decode cX4_setOf 16 = .ok (.if_icmp .eq 48, 3) := by decide +kernel
theorem dX4_setOf_19 : decode cX4_setOf 19 = .ok (.aload_n 1, 1) := by decide +kernel
theorem dX4_setOf_20 : decode cX4_setOf 20 = .ok (.getfield 83, 3) := by decide +kernel
theorem dX4_setOf_23 : decode cX4_setOf 23 = .ok (.aload_n 0, 1) := by decide +kernel
theorem dX4_setOf_24 : decode cX4_setOf 24 = .ok (.getfield 9, 3) := by decide +kernel
theorem dX4_setOf_27 : decode cX4_setOf 27 = .ok (.iload 4, 2) := by decide +kernel
theorem dX4_setOf_29 : decode cX4_setOf 29 = .ok (.iaload, 1) := by decide +kernel
theorem dX4_setOf_30 : decode cX4_setOf 30 = .ok (.iaload, 1) := by decide +kernel
theorem dX4_setOf_31 : decode cX4_setOf 31 = .ok (.iload_n 2, 1) := by decide +kernel
theorem dX4_setOf_32 : decode cX4_setOf 32 = .ok (.if_icmp .eq 19, 3) := by decide +kernel
theorem dX4_setOf_35 : decode cX4_setOf 35 = .ok (.aload_n 1, 1) := by decide +kernel
theorem dX4_setOf_36 : decode cX4_setOf 36 = .ok (.getfield 90, 3) := by decide +kernel
theorem dX4_setOf_39 : decode cX4_setOf 39 = .ok (.aload_n 0, 1) := by decide +kernel
theorem dX4_setOf_40 : decode cX4_setOf 40 = .ok (.getfield 9, 3) := by decide +kernel
theorem dX4_setOf_43 : decode cX4_setOf 43 = .ok (.iload 4, 2) := by decide +kernel
theorem dX4_setOf_45 : decode cX4_setOf 45 = .ok (.iaload, 1) := by decide +kernel
theorem dX4_setOf_46 : decode cX4_setOf 46 = .ok (.iaload, 1) := by decide +kernel
theorem dX4_setOf_47 : decode cX4_setOf 47 = .ok (.iload_n 2, 1) := by decide +kernel
theorem dX4_setOf_48 : decode cX4_setOf 48 = .ok (.if_icmp .ne 10, 3) := by decide +kernel
theorem dX4_setOf_51 : decode cX4_setOf 51 = .ok (.iload_n 3, 1) := by decide +kernel
theorem dX4_setOf_52 : decode cX4_setOf 52 = .ok (.iconst 1, 1) := by decide +kernel
theorem dX4_setOf_53 : decode cX4_setOf 53 = .ok (.iload 4, 2) := by decide +kernel
theorem dX4_setOf_55 : decode cX4_setOf 55 = .ok (.ishl, 1) := by decide +kernel
theorem dX4_setOf_56 : decode cX4_setOf 56 = .ok (.ior, 1) := by decide +kernel
theorem dX4_setOf_57 : decode cX4_setOf 57 = .ok (.istore_n 3, 1) := by decide +kernel
theorem dX4_setOf_58 : decode cX4_setOf 58 = .ok (.iinc 4 1, 3) := by decide +kernel
theorem dX4_setOf_61 : decode cX4_setOf 61 = .ok (.goto (-56), 3) := by decide +kernel
theorem dX4_setOf_64 : decode cX4_setOf 64 = .ok (.iload_n 3, 1) := by decide +kernel
theorem dX4_setOf_65 : decode cX4_setOf 65 = .ok (.ireturn, 1) := by decide +kernel
theorem dX4_fill_0 : decode cX4_fill 0 = .ok (.iconst 1, 1) := by decide +kernel
theorem dX4_fill_1 : decode cX4_fill 1 = .ok (.aload_n 0, 1) := by decide +kernel
theorem dX4_fill_2 : decode cX4_fill 2 = .ok (.getfield 25, 3) := by decide +kernel
theorem dX4_fill_5 : decode cX4_fill 5 = .ok (.ishl, 1) := by decide +kernel
theorem dX4_fill_6 : decode cX4_fill 6 = .ok (.istore_n 2, 1) := by decide +kernel
theorem dX4_fill_7 : decode cX4_fill 7 = .ok (.iload_n 2, 1) := by decide +kernel
theorem dX4_fill_8 : decode cX4_fill 8 = .ok (.bipush 7, 2) := by decide +kernel
theorem dX4_fill_10 : decode cX4_fill 10 = .ok (.iadd, 1) := by decide +kernel
theorem dX4_fill_11 : decode cX4_fill 11 = .ok (.iconst 3, 1) := by decide +kernel
theorem dX4_fill_12 : decode cX4_fill 12 = .ok (.ishr, 1) := by decide +kernel
theorem dX4_fill_13 : decode cX4_fill 13 = .ok (.istore_n 3, 1) := by decide +kernel
theorem dX4_fill_14 : decode cX4_fill 14 = .ok (.aload_n 0, 1) := by decide +kernel
theorem dX4_fill_15 : decode cX4_fill 15 = .ok (.getfield 21, 3) := by decide +kernel
theorem dX4_fill_18 : decode cX4_fill 18 = .ok (.arraylength, 1) := by decide +kernel
theorem dX4_fill_19 : decode cX4_fill 19 = .ok (.iload_n 3, 1) := by decide +kernel
theorem dX4_fill_20 : decode cX4_fill 20 = .ok (.if_icmp .ge 15, 3) := by decide +kernel
theorem dX4_fill_23 : decode cX4_fill 23 = .ok (.aload_n 0, 1) := by decide +kernel
theorem dX4_fill_24 : decode cX4_fill 24 = .ok (.aload_n 0, 1) := by decide +kernel
theorem dX4_fill_25 : decode cX4_fill 25 = .ok (.getfield 21, 3) := by decide +kernel
theorem dX4_fill_28 : decode cX4_fill 28 = .ok (.iload_n 3, 1) := by decide +kernel
theorem dX4_fill_29 : decode cX4_fill 29 = .ok (.invokestatic 93, 3) := by decide +kernel
theorem dX4_fill_32 : decode cX4_fill 32 = .ok (.putfield 21, 3) := by decide +kernel
theorem dX4_fill_35 : decode cX4_fill 35 = .ok (.iconst 1, 1) := by decide +kernel
theorem dX4_fill_36 : decode cX4_fill 36 = .ok (.iload_n 1, 1) := by decide +kernel
theorem dX4_fill_37 : decode cX4_fill 37 = .ok (.ishl, 1) := by decide +kernel
theorem dX4_fill_38 : decode cX4_fill 38 = .ok (.istore 4, 2) := by decide +kernel
theorem dX4_fill_40 : decode cX4_fill 40 = .ok (.iload 4, 2) := by decide +kernel
theorem dX4_fill_42 : decode cX4_fill 42 = .ok (.iload_n 2, 1) := by decide +kernel
theorem dX4_fill_43 : decode cX4_fill 43 = .ok (.if_icmp .ge 66, 3) := by decide +kernel
theorem dX4_fill_46 : decode cX4_fill 46 = .ok (.iload 4, 2) := by decide +kernel
theorem dX4_fill_48 : decode cX4_fill 48 = .ok (.bipush 7, 2) := by decide +kernel
theorem dX4_fill_50 : decode cX4_fill 50 = .ok (.iand, 1) := by decide +kernel
theorem dX4_fill_51 : decode cX4_fill 51 = .ok (.iconst 3, 1) := by decide +kernel
theorem dX4_fill_52 : decode cX4_fill 52 = .ok (.ishl, 1) := by decide +kernel
theorem dX4_fill_53 : decode cX4_fill 53 = .ok (.istore 5, 2) := by decide +kernel
theorem dX4_fill_55 : decode cX4_fill 55 = .ok (.aload_n 0, 1) := by decide +kernel
theorem dX4_fill_56 : decode cX4_fill 56 = .ok (.getfield 21, 3) := by decide +kernel
theorem dX4_fill_59 : decode cX4_fill 59 = .ok (.iload 4, 2) := by decide +kernel
theorem dX4_fill_61 : decode cX4_fill 61 = .ok (.iconst 3, 1) := by decide +kernel
theorem dX4_fill_62 : decode cX4_fill 62 = .ok (.ishr, 1) := by decide +kernel
theorem dX4_fill_63 : decode cX4_fill 63 = .ok (.laload, 1) := by decide +kernel
theorem dX4_fill_64 : decode cX4_fill 64 = .ok (.ldc2_w 99, 3) := by decide +kernel
theorem dX4_fill_67 : decode cX4_fill 67 = .ok (.iload 5, 2) := by decide +kernel
theorem dX4_fill_69 : decode cX4_fill 69 = .ok (.lshl, 1) := by decide +kernel
theorem dX4_fill_70 : decode cX4_fill 70 = .ok (.ldc2_w 101, 3) := by decide +kernel
theorem dX4_fill_73 : decode cX4_fill 73 = .ok (.lxor, 1) := by decide +kernel
theorem dX4_fill_74 : decode cX4_fill 74 = .ok (.land, 1) := by decide +kernel
theorem dX4_fill_75 : decode cX4_fill 75 = .ok (.lstore 6, 2) := by decide +kernel
theorem dX4_fill_77 : decode cX4_fill 77 = .ok (.aload_n 0, 1) := by decide +kernel
theorem dX4_fill_78 : decode cX4_fill 78 = .ok (.getfield 21, 3) := by decide +kernel
theorem dX4_fill_81 : decode cX4_fill 81 = .ok (.iload 4, 2) := by decide +kernel
theorem dX4_fill_83 : decode cX4_fill 83 = .ok (.iconst 3, 1) := by decide +kernel
theorem dX4_fill_84 : decode cX4_fill 84 = .ok (.ishr, 1) := by decide +kernel
theorem dX4_fill_85 : decode cX4_fill 85 = .ok (.lload 6, 2) := by decide +kernel
theorem dX4_fill_87 : decode cX4_fill 87 = .ok (.aload_n 0, 1) := by decide +kernel
theorem dX4_fill_88 : decode cX4_fill 88 = .ok (.iload 4, 2) := by decide +kernel
theorem dX4_fill_90 : decode cX4_fill 90 = .ok (.invokevirtual 103, 3) := by decide +kernel
theorem dX4_fill_93 : decode cX4_fill 93 = .ok (.i2l, 1) := by decide +kernel
theorem dX4_fill_94 : decode cX4_fill 94 = .ok (.ldc2_w 99, 3) := by decide +kernel
theorem dX4_fill_97 : decode cX4_fill 97 = .ok (.land, 1) := by decide +kernel
theorem dX4_fill_98 : decode cX4_fill 98 = .ok (.iload 5, 2) := by decide +kernel
theorem dX4_fill_100 : decode cX4_fill 100 = .ok (.lshl, 1) := by decide +kernel
theorem dX4_fill_101 : decode cX4_fill 101 = .ok (.lor, 1) := by decide +kernel
theorem dX4_fill_102 : decode cX4_fill 102 = .ok (.lastore, 1) := by decide +kernel
theorem dX4_fill_103 : decode cX4_fill 103 = .ok (.iinc 4 1, 3) := by decide +kernel
theorem dX4_fill_106 : decode cX4_fill 106 = .ok (.goto (-66), 3) := by decide +kernel
theorem dX4_fill_109 : decode cX4_fill 109 = .ok (.return_, 1) := by decide +kernel
theorem dX4_bestOfSet_0 : decode cX4_bestOfSet 0 = .ok (.ldc 106, 2) := by decide +kernel
theorem dX4_bestOfSet_2 : decode cX4_bestOfSet 2 = .ok (.istore_n 2, 1) := by decide +kernel
theorem dX4_bestOfSet_3 : decode cX4_bestOfSet 3 = .ok (.iconst 0, 1) := by decide +kernel
theorem dX4_bestOfSet_4 : decode cX4_bestOfSet 4 = .ok (.istore_n 3, 1) := by decide +kernel
theorem dX4_bestOfSet_5 : decode cX4_bestOfSet 5 = .ok (.iload_n 3, 1) := by decide +kernel
theorem dX4_bestOfSet_6 : decode cX4_bestOfSet 6 = .ok (.aload_n 0, 1) := by decide +kernel
theorem dX4_bestOfSet_7 : decode cX4_bestOfSet 7 = .ok (.getfield 25, 3) := by decide +kernel
theorem dX4_bestOfSet_10 : decode cX4_bestOfSet 10 = .ok (.if_icmp .ge 38, 3) := by decide +kernel
theorem dX4_bestOfSet_13 : decode cX4_bestOfSet 13 = .ok (.iload_n 1, 1) := by decide +kernel
theorem dX4_bestOfSet_14 : decode cX4_bestOfSet 14 = .ok (.iload_n 3, 1) := by decide +kernel
theorem dX4_bestOfSet_15 : decode cX4_bestOfSet 15 = .ok (.ishr, 1) := by decide +kernel
theorem dX4_bestOfSet_16 : decode cX4_bestOfSet 16 = .ok (.iconst 1, 1) := by decide +kernel
theorem dX4_bestOfSet_17 : decode cX4_bestOfSet 17 = .ok (.iand, 1) := by decide +kernel
theorem dX4_bestOfSet_18 : decode cX4_bestOfSet 18 = .ok (.ifCond .eq 24, 3) := by decide +kernel
theorem dX4_bestOfSet_21 : decode cX4_bestOfSet 21 = .ok (.aload_n 0, 1) := by decide +kernel
theorem dX4_bestOfSet_22 : decode cX4_bestOfSet 22 = .ok (.iload_n 1, 1) := by decide +kernel
theorem dX4_bestOfSet_23 : decode cX4_bestOfSet 23 = .ok (.iload_n 3, 1) := by decide +kernel
theorem dX4_bestOfSet_24 : decode cX4_bestOfSet 24 = .ok (.invokevirtual 50, 3) := by decide +kernel
theorem dX4_bestOfSet_27 : decode cX4_bestOfSet 27 = .ok (.istore 4, 2) := by decide +kernel
theorem dX4_bestOfSet_29 : decode cX4_bestOfSet 29 = .ok (.iload 4, 2) := by decide +kernel
theorem dX4_bestOfSet_31 : decode cX4_bestOfSet 31 = .ok (.iload_n 2, 1) := by decide +kernel
theorem dX4_bestOfSet_32 : decode cX4_bestOfSet 32 = .ok (.if_icmp .le 8, 3) := by decide +kernel
theorem dX4_bestOfSet_35 : decode cX4_bestOfSet 35 = .ok (.iload 4, 2) := by decide +kernel
theorem dX4_bestOfSet_37 : decode cX4_bestOfSet 37 = .ok (.goto 4, 3) := by decide +kernel
theorem dX4_bestOfSet_40 : decode cX4_bestOfSet 40 = .ok (.iload_n 2, 1) := by decide +kernel
theorem dX4_bestOfSet_41 : decode cX4_bestOfSet 41 = .ok (.istore_n 2, 1) := by decide +kernel
theorem dX4_bestOfSet_42 : decode cX4_bestOfSet 42 = .ok (.iinc 3 1, 3) := by decide +kernel
theorem dX4_bestOfSet_45 : decode cX4_bestOfSet 45 = .ok (.goto (-40), 3) := by decide +kernel
theorem dX4_bestOfSet_48 : decode cX4_bestOfSet 48 = .ok (.iload_n 2, 1) := by decide +kernel
theorem dX4_bestOfSet_49 : decode cX4_bestOfSet 49 = .ok (.ireturn, 1) := by decide +kernel
theorem dX4_worthOfDraw_0 : decode cX4_worthOfDraw 0 = .ok (.iconst 1, 1) := by decide +kernel
theorem dX4_worthOfDraw_1 : decode cX4_worthOfDraw 1 = .ok (.iload_n 2, 1) := by decide +kernel
theorem dX4_worthOfDraw_2 : decode cX4_worthOfDraw 2 = .ok (.ishl, 1) := by decide +kernel
theorem dX4_worthOfDraw_3 : decode cX4_worthOfDraw 3 = .ok (.istore_n 3, 1) := by decide +kernel
theorem dX4_worthOfDraw_4 : decode cX4_worthOfDraw 4 = .ok (.aload_n 0, 1) := by decide +kernel
theorem dX4_worthOfDraw_5 : decode cX4_worthOfDraw 5 = .ok (.iload_n 1, 1) := by decide +kernel
theorem dX4_worthOfDraw_6 : decode cX4_worthOfDraw 6 = .ok (.iload_n 3, 1) := by decide +kernel
theorem dX4_worthOfDraw_7 : decode cX4_worthOfDraw 7 = .ok (.ixor, 1) := by decide +kernel
theorem dX4_worthOfDraw_8 : decode cX4_worthOfDraw 8 = .ok (.invokevirtual 33, 3) := by decide +kernel
theorem dX4_worthOfDraw_11 : decode cX4_worthOfDraw 11 = .ok (.istore 4, 2) := by decide +kernel
theorem dX4_worthOfDraw_13 : decode cX4_worthOfDraw 13 = .ok (.iload_n 1, 1) := by decide +kernel
theorem dX4_worthOfDraw_14 : decode cX4_worthOfDraw 14 = .ok (.aload_n 0, 1) := by decide +kernel
theorem dX4_worthOfDraw_15 : decode cX4_worthOfDraw 15 = .ok (.getfield 15, 3) := by decide +kernel
theorem dX4_worthOfDraw_18 : decode cX4_worthOfDraw 18 = .ok (.iload_n 2, 1) := by decide +kernel
theorem dX4_worthOfDraw_19 : decode cX4_worthOfDraw 19 = .ok (.iaload, 1) := by decide +kernel
theorem dX4_worthOfDraw_20 : decode cX4_worthOfDraw 20 = .ok (.iand, 1) := by decide +kernel
theorem dX4_worthOfDraw_21 : decode cX4_worthOfDraw 21 = .ok (.iload_n 3, 1) := by decide +kernel
theorem dX4_worthOfDraw_22 : decode cX4_worthOfDraw 22 = .ok (.if_icmp .ne 7, 3) := by decide +kernel
theorem dX4_worthOfDraw_25 : decode cX4_worthOfDraw 25 = .ok (.iconst 1, 1) := by decide +kernel
theorem dX4_worthOfDraw_26 : decode cX4_worthOfDraw 26 = .ok (.goto 4, 3) := by decide +kernel
theorem dX4_worthOfDraw_29 : decode cX4_worthOfDraw 29 = .ok (.iconst 0, 1) := by decide +kernel
theorem dX4_worthOfDraw_30 : decode cX4_worthOfDraw 30 = .ok (.istore 5, 2) := by decide +kernel
theorem dX4_worthOfDraw_32 : decode cX4_worthOfDraw 32 = .ok (.iload_n 1, 1) := by decide +kernel
theorem dX4_worthOfDraw_33 : decode cX4_worthOfDraw 33 = .ok (.aload_n 0, 1) := by decide +kernel
theorem dX4_worthOfDraw_34 : decode cX4_worthOfDraw 34 = .ok (.getfield 18, 3) := by decide +kernel
theorem dX4_worthOfDraw_37 : decode cX4_worthOfDraw 37 = .ok (.iload_n 2, 1) := by decide +kernel
theorem dX4_worthOfDraw_38 : decode cX4_worthOfDraw 38 = .ok (.iaload, 1) := by decide +kernel
theorem dX4_worthOfDraw_39 : decode cX4_worthOfDraw 39 = .ok (.iand, 1) := by decide +kernel
theorem dX4_worthOfDraw_40 : decode cX4_worthOfDraw 40 = .ok (.iload_n 3, 1) := by decide +kernel
theorem dX4_worthOfDraw_41 : decode cX4_worthOfDraw 41 = .ok (.if_icmp .ne 6, 3) := by decide +kernel
theorem dX4_worthOfDraw_44 : decode cX4_worthOfDraw 44 = .ok (.iinc 5 1, 3) := by decide +kernel
theorem dX4_worthOfDraw_47 : decode cX4_worthOfDraw 47 = .ok (.iload 5, 2) := by decide +kernel
theorem dX4_worthOfDraw_49 : decode cX4_worthOfDraw 49 = .ok (.ifCond .le 11, 3) := by decide +kernel
theorem dX4_worthOfDraw_52 : decode cX4_worthOfDraw 52 = .ok (.iload 5, 2) := by decide +kernel
theorem dX4_worthOfDraw_54 : decode cX4_worthOfDraw 54 = .ok (.iload 4, 2) := by decide +kernel
theorem dX4_worthOfDraw_56 : decode cX4_worthOfDraw 56 = .ok (.iadd, 1) := by decide +kernel
theorem dX4_worthOfDraw_57 : decode cX4_worthOfDraw 57 = .ok (.goto 6, 3) := by decide +kernel
theorem dX4_worthOfDraw_60 : decode cX4_worthOfDraw 60 = .ok (.iload 4, 2) := by decide +kernel
theorem dX4_worthOfDraw_62 : decode cX4_worthOfDraw 62 = .ok (.ineg, 1) := by decide +kernel
theorem dX4_worthOfDraw_63 : decode cX4_worthOfDraw 63 = .ok (.ireturn, 1) := by decide +kernel
theorem dX4_worthOfSet_0 : decode cX4_worthOfSet 0 = .ok (.aload_n 0, 1) := by decide +kernel
theorem dX4_worthOfSet_1 : decode cX4_worthOfSet 1 = .ok (.getfield 21, 3) := by decide +kernel
theorem dX4_worthOfSet_4 : decode cX4_worthOfSet 4 = .ok (.iload_n 1, 1) := by decide +kernel
theorem dX4_worthOfSet_5 : decode cX4_worthOfSet 5 = .ok (.iconst 3, 1) := by decide +kernel
theorem dX4_worthOfSet_6 : decode cX4_worthOfSet 6 = .ok (.ishr, 1) := by decide +kernel
theorem dX4_worthOfSet_7 : decode cX4_worthOfSet 7 = .ok (.laload, 1) := by decide +kernel
theorem dX4_worthOfSet_8 : decode cX4_worthOfSet 8 = .ok (.iload_n 1, 1) := by decide +kernel
theorem dX4_worthOfSet_9 : decode cX4_worthOfSet 9 = .ok (.bipush 7, 2) := by decide +kernel
theorem dX4_worthOfSet_11 : decode cX4_worthOfSet 11 = .ok (.iand, 1) := by decide +kernel
theorem dX4_worthOfSet_12 : decode cX4_worthOfSet 12 = .ok (.iconst 3, 1) := by decide +kernel
theorem dX4_worthOfSet_13 : decode cX4_worthOfSet 13 = .ok (.ishl, 1) := by decide +kernel
theorem dX4_worthOfSet_14 : decode cX4_worthOfSet 14 = .ok (.lshr, 1) := by decide +kernel
theorem dX4_worthOfSet_15 : decode cX4_worthOfSet 15 = .ok (.l2i, 1) := by decide +kernel
theorem dX4_worthOfSet_16 : decode cX4_worthOfSet 16 = .ok (.i2b, 1) := by decide +kernel
theorem dX4_worthOfSet_17 : decode cX4_worthOfSet 17 = .ok (.ireturn, 1) := by decide +kernel
theorem dX5_init_0 : decode cX5_init 0 = .ok (.aload_n 0, 1) := by decide +kernel
theorem dX5_init_1 : decode cX5_init 1 = .ok (.invokespecial 1, 3) := by decide +kernel
theorem dX5_init_4 : decode cX5_init 4 = .ok (.aload_n 0, 1) := by decide +kernel
theorem dX5_init_5 : decode cX5_init 5 = .ok (.new 7, 3) := by decide +kernel
theorem dX5_init_8 : decode cX5_init 8 = .ok (.dup, 1) := by decide +kernel
theorem dX5_init_9 : decode cX5_init 9 = .ok (.invokespecial 9, 3) := by decide +kernel
theorem dX5_init_12 : decode cX5_init 12 = .ok (.putfield 10, 3) := by decide +kernel
theorem dX5_init_15 : decode cX5_init 15 = .ok (.aload_n 0, 1) := by decide +kernel
theorem dX5_init_16 : decode cX5_init 16 = .ok (.new 16, 3) := by decide +kernel
theorem dX5_init_19 : decode cX5_init 19 = .ok (.dup, 1) := by decide +kernel
theorem dX5_init_20 : decode cX5_init 20 = .ok (.invokespecial 18, 3) := by decide +kernel
theorem dX5_init_23 : decode cX5_init 23 = .ok (.putfield 19, 3) := by decide +kernel
theorem dX5_init_26 : decode cX5_init 26 = .ok (.aload_n 0, 1) := by decide +kernel
theorem dX5_init_27 : decode cX5_init 27 = .ok (.new 23, 3) := by decide +kernel
theorem dX5_init_30 : decode cX5_init 30 = .ok (.dup, 1) := by decide +kernel
theorem dX5_init_31 : decode cX5_init 31 = .ok (.invokespecial 25, 3) := by decide +kernel
theorem dX5_init_34 : decode cX5_init 34 = .ok (.putfield 26, 3) := by decide +kernel
theorem dX5_init_37 : decode cX5_init 37 = .ok (.aload_n 0, 1) := by decide +kernel
theorem dX5_init_38 : decode cX5_init 38 = .ok (.new 30, 3) := by decide +kernel
theorem dX5_init_41 : decode cX5_init 41 = .ok (.dup, 1) := by decide +kernel
theorem dX5_init_42 : decode cX5_init 42 = .ok (.invokespecial 32, 3) := by decide +kernel
theorem dX5_init_45 : decode cX5_init 45 = .ok (.putfield 33, 3) := by decide +kernel
theorem dX5_init_48 : decode cX5_init 48 = .ok (.aload_n 0, 1) := by decide +kernel
theorem dX5_init_49 : decode cX5_init 49 = .ok (.new 37, 3) := by decide +kernel
theorem dX5_init_52 : decode cX5_init 52 = .ok (.dup, 1) := by decide +kernel
theorem dX5_init_53 : decode cX5_init 53 = .ok (.invokespecial 39, 3) := by decide +kernel
theorem dX5_init_56 : decode cX5_init 56 = .ok (.putfield 40, 3) := by decide +kernel
theorem dX5_init_59 : decode cX5_init 59 = .ok (.return_, 1) := by decide +kernel
theorem dX5_clear_0 : decode cX5_clear 0 = .ok (.aload_n 0, 1) := by decide +kernel
theorem dX5_clear_1 : decode cX5_clear 1 = .ok (.getfield 10, 3) := by decide +kernel
theorem dX5_clear_4 : decode cX5_clear 4 = .ok (.invokevirtual 44, 3) := by decide +kernel
theorem dX5_clear_7 : decode cX5_clear 7 = .ok (.aload_n 0, 1) := by decide +kernel
theorem dX5_clear_8 : decode cX5_clear 8 = .ok (.getfield 26, 3) := by decide +kernel
theorem dX5_clear_11 : decode cX5_clear 11 = .ok (.invokevirtual 47, 3) := by decide +kernel
theorem dX5_clear_14 : decode cX5_clear 14 = .ok (.return_, 1) := by decide +kernel
theorem dX5_field_0 : decode cX5_field 0 = .ok (.aload_n 0, 1) := by decide +kernel
theorem dX5_field_1 : decode cX5_field 1 = .ok (.getfield 10, 3) := by decide +kernel
theorem dX5_field_4 : decode cX5_field 4 = .ok (.invokevirtual 50, 3) := by decide +kernel
theorem dX5_field_7 : decode cX5_field 7 = .ok (.ireturn, 1) := by decide +kernel
theorem dX5_side_0 : decode cX5_side 0 = .ok (.aload_n 0, 1) := by decide +kernel
theorem dX5_side_1 : decode cX5_side 1 = .ok (.getfield 10, 3) := by decide +kernel
theorem dX5_side_4 : decode cX5_side 4 = .ok (.iload_n 1, 1) := by decide +kernel
theorem dX5_side_5 : decode cX5_side 5 = .ok (.iload_n 2, 1) := by decide +kernel
theorem dX5_side_6 : decode cX5_side 6 = .ok (.invokevirtual 54, 3) := by decide +kernel
theorem dX5_side_9 : decode cX5_side 9 = .ok (.ireturn, 1) := by decide +kernel
theorem dX5_grid_0 : decode cX5_grid 0 = .ok (.iload_n 1, 1) := by decide +kernel
theorem dX5_grid_1 : decode cX5_grid 1 = .ok (.iconst 1, 1) := by decide +kernel
theorem dX5_grid_2 : decode cX5_grid 2 = .ok (.if_icmp .lt 20, 3) := by decide +kernel
theorem dX5_grid_5 : decode cX5_grid 5 = .ok (.iload_n 1, 1) := by decide +kernel
theorem dX5_grid_6 : decode cX5_grid 6 = .ok (.bipush 12, 2) := by decide +kernel
theorem dX5_grid_8 : decode cX5_grid 8 = .ok (.if_icmp .gt 14, 3) := by decide +kernel
theorem dX5_grid_11 : decode cX5_grid 11 = .ok (.iload_n 2, 1) := by decide +kernel
theorem dX5_grid_12 : decode cX5_grid 12 = .ok (.iconst 1, 1) := by decide +kernel
theorem dX5_grid_13 : decode cX5_grid 13 = .ok (.if_icmp .lt 9, 3) := by decide +kernel
theorem dX5_grid_16 : decode cX5_grid 16 = .ok (.iload_n 2, 1) := by decide +kernel
theorem dX5_grid_17 : decode cX5_grid 17 = .ok (.bipush 12, 2) := by decide +kernel
theorem dX5_grid_19 : decode cX5_grid 19 = .ok (.if_icmp .le 5, 3) := by decide +kernel
theorem dX5_grid_22 : decode cX5_grid 22 = .ok (.iconst 0, 1) := by decide +kernel
theorem dX5_grid_23 : decode cX5_grid 23 = .ok (.ireturn, 1) := by decide +kernel
theorem dX5_grid_24 : decode cX5_grid 24 = .ok (.aload_n 0, 1) := by decide +kernel
theorem dX5_grid_25 : decode cX5_grid 25 = .ok (.getfield 10, 3) := by decide +kernel
theorem dX5_grid_28 : decode cX5_grid 28 = .ok (.iload_n 1, 1) := by decide +kernel
theorem dX5_grid_29 : decode cX5_grid 29 = .ok (.iload_n 2, 1) := by decide +kernel
theorem dX5_grid_30 : decode cX5_grid 30 = .ok (.invokevirtual 58, 3) := by decide +kernel
theorem dX5_grid_33 : decode cX5_grid 33 = .ok (.aload_n 0, 1) := by decide +kernel
theorem dX5_grid_34 : decode cX5_grid 34 = .ok (.getfield 26, 3) := by decide +kernel
theorem dX5_grid_37 : decode cX5_grid 37 = .ok (.invokevirtual 47, 3) := by decide +kernel
theorem dX5_grid_40 : decode cX5_grid 40 = .ok (.iconst 1, 1) := by decide +kernel
theorem dX5_grid_41 : decode cX5_grid 41 = .ok (.ireturn, 1) := by decide +kernel
theorem dX5_draw_0 : decode cX5_draw 0 = .ok (.aload_n 0, 1) := by decide +kernel
theorem dX5_draw_1 : decode cX5_draw 1 = .ok (.getfield 10, 3) := by decide +kernel
theorem dX5_draw_4 : decode cX5_draw 4 = .ok (.iload_n 1, 1) := by decide +kernel
theorem dX5_draw_5 : decode cX5_draw 5 = .ok (.invokevirtual 62, 3) := by decide +kernel
theorem dX5_draw_8 : decode cX5_draw 8 = .ok (.ifCond .eq 14, 3) := by decide +kernel
theorem dX5_draw_11 : decode cX5_draw 11 = .ok (.aload_n 0, 1) := by decide +kernel
theorem dX5_draw_12 : decode cX5_draw 12 = .ok (.getfield 10, 3) := by decide +kernel
theorem dX5_draw_15 : decode cX5_draw 15 = .ok (.iload_n 1, 1) := by decide +kernel
theorem dX5_draw_16 : decode cX5_draw 16 = .ok (.invokevirtual 66, 3) := by decide +kernel
theorem dX5_draw_19 : decode cX5_draw 19 = .ok (.goto 4, 3) := by decide +kernel
theorem dX5_draw_22 : decode cX5_draw 22 = .ok (.iconst (-1), 1) := by decide +kernel
theorem dX5_draw_23 : decode cX5_draw 23 = .ok (.ireturn, 1) := by decide +kernel
theorem dX5_undo_0 : decode cX5_undo 0 = .ok (.aload_n 0, 1) := by decide +kernel
theorem dX5_undo_1 : decode cX5_undo 1 = .ok (.getfield 10, 3) := by decide +kernel
theorem dX5_undo_4 : decode cX5_undo 4 = .ok (.invokevirtual 70, 3) := by decide +kernel
theorem dX5_undo_7 : decode cX5_undo 7 = .ok (.ireturn, 1) := by decide +kernel
theorem dX5_redo_0 : decode cX5_redo 0 = .ok (.aload_n 0, 1) := by decide +kernel
theorem dX5_redo_1 : decode cX5_redo 1 = .ok (.getfield 10, 3) := by decide +kernel
theorem dX5_redo_4 : decode cX5_redo 4 = .ok (.invokevirtual 73, 3) := by decide +kernel
theorem dX5_redo_7 : decode cX5_redo 7 = .ok (.ireturn, 1) := by decide +kernel
theorem dX5_whose_0 : decode cX5_whose 0 = .ok (.aload_n 0, 1) := by decide +kernel
theorem dX5_whose_1 : decode cX5_whose 1 = .ok (.getfield 10, 3) := by decide +kernel
theorem dX5_whose_4 : decode cX5_whose 4 = .ok (.getfield 76, 3) := by decide +kernel
theorem dX5_whose_7 : decode cX5_whose 7 = .ok (.ifCond .ne 7, 3) := by decide +kernel
theorem dX5_whose_10 : decode cX5_whose 10 = .ok (.iconst (-1), 1) := by decide +kernel
theorem dX5_whose_11 : decode cX5_whose 11 = .ok (.goto 10, 3) := by decide +kernel
theorem dX5_whose_14 : decode cX5_whose 14 = .ok (.aload_n 0, 1) := by decide +kernel
theorem dX5_whose_15 : decode cX5_whose 15 = .ok (.getfield 10, 3) := by decide +kernel
theorem dX5_whose_18 : decode cX5_whose 18 = .ok (.getfield 80, 3) := by decide +kernel
theorem dX5_whose_21 : decode cX5_whose 21 = .ok (.ireturn, 1) := by decide +kernel
theorem dX5_look_0 : decode cX5_look 0 = .ok (.aload_n 0, 1) := by decide +kernel
theorem dX5_look_1 : decode cX5_look 1 = .ok (.getfield 10, 3) := by decide +kernel
theorem dX5_look_4 : decode cX5_look 4 = .ok (.iload_n 1, 1) := by decide +kernel
theorem dX5_look_5 : decode cX5_look 5 = .ok (.invokevirtual 83, 3) := by decide +kernel
theorem dX5_look_8 : decode cX5_look 8 = .ok (.ifCond .ne 5, 3) := by decide +kernel
theorem dX5_look_11 : decode cX5_look 11 = .ok (.iconst (-1), 1) := by decide +kernel
theorem dX5_look_12 : decode cX5_look 12 = .ok (.ireturn, 1) := by decide +kernel
theorem dX5_look_13 : decode cX5_look 13 = .ok (.iload_n 2, 1) := by decide +kernel
theorem dX5_look_14 : decode cX5_look 14 = .ok (.tableswitch 70 0 3 #[30, 40, 50, 60], 30) := by decide +kernel
theorem dX5_look_44 : decode cX5_look 44 = .ok (.aload_n 0, 1) := by decide +kernel
theorem dX5_look_45 : decode cX5_look 45 = .ok (.getfield 10, 3) := by decide +kernel
theorem dX5_look_48 : decode cX5_look 48 = .ok (.getfield 86, 3) := by decide +kernel
theorem dX5_look_51 : decode cX5_look 51 = .ok (.iload_n 1, 1) := by decide +kernel
theorem dX5_look_52 : decode cX5_look 52 = .ok (.iaload, 1) := by decide +kernel
theorem dX5_look_53 : decode cX5_look 53 = .ok (.ireturn, 1) := by decide +kernel
theorem dX5_look_54 : decode cX5_look 54 = .ok (.aload_n 0, 1) := by decide +kernel
theorem dX5_look_55 : decode cX5_look 55 = .ok (.getfield 10, 3) := by decide +kernel
theorem dX5_look_58 : decode cX5_look 58 = .ok (.getfield 90, 3) := by decide +kernel
theorem dX5_look_61 : decode cX5_look 61 = .ok (.iload_n 1, 1) := by decide +kernel
theorem dX5_look_62 : decode cX5_look 62 = .ok (.iaload, 1) := by decide +kernel
theorem dX5_look_63 : decode cX5_look 63 = .ok (.ireturn, 1) := by decide +kernel
theorem dX5_look_64 : decode cX5_look 64 = .ok (.aload_n 0, 1) := by decide +kernel
theorem dX5_look_65 : decode cX5_look 65 = .ok (.getfield 10, 3) := by decide +kernel
theorem dX5_look_68 : decode cX5_look 68 = .ok (.getfield 93, 3) := by decide +kernel
theorem dX5_look_71 : decode cX5_look 71 = .ok (.iload_n 1, 1) := by decide +kernel
theorem dX5_look_72 : decode cX5_look 72 = .ok (.iaload, 1) := by decide +kernel
theorem dX5_look_73 : decode cX5_look 73 = .ok (.ireturn, 1) := by decide +kernel
theorem dX5_look_74 : decode cX5_look 74 = .ok (.aload_n 0, 1) := by decide +kernel
theorem dX5_look_75 : decode cX5_look 75 = .ok (.invokevirtual 96, 3) := by decide +kernel
theorem dX5_look_78 : decode cX5_look 78 = .ok (.getfield 100, 3) := by decide +kernel
theorem dX5_look_81 : decode cX5_look 81 = .ok (.iload_n 1, 1) := by decide +kernel
theorem dX5_look_82 : decode cX5_look 82 = .ok (.iaload, 1) := by decide +kernel
theorem dX5_look_83 : decode cX5_look 83 = .ok (.ireturn, 1) := by decide +kernel
theorem dX5_look_84 : decode cX5_look 84 = .ok (.iconst (-1), 1) := by decide +kernel
theorem dX5_look_85 : decode cX5_look 85 = .ok (.ireturn, 1) := by decide +kernel
theorem dX5_ask_0 : decode cX5_ask 0 = .ok (.aload_n 0, 1) := by decide +kernel
theorem dX5_ask_1 : decode cX5_ask 1 = .ok (.getfield 10, 3) := by decide +kernel
theorem dX5_ask_4 : decode cX5_ask 4 = .ok (.iload_n 1, 1) := by decide +kernel
theorem dX5_ask_5 : decode cX5_ask 5 = .ok (.invokevirtual 103, 3) := by decide +kernel
theorem dX5_ask_8 : decode cX5_ask 8 = .ok (.ifCond .ne 5, 3) := by decide +kernel
theorem dX5_ask_11 : decode cX5_ask 11 = .ok (.iconst (-1), 1) := by decide +kernel
theorem dX5_ask_12 : decode cX5_ask 12 = .ok (.ireturn, 1) := by decide +kernel
theorem dX5_ask_13 : decode cX5_ask 13 = .ok (.iload_n 2, 1) := by decide +kernel
theorem dX5_ask_14 : decode cX5_ask 14 = .ok (.tableswitch 76 0 3 #[30, 47, 57, 67], 30) := by decide +kernel
theorem dX5_ask_44 : decode cX5_ask 44 = .ok (.aload_n 0, 1) := by decide +kernel
theorem dX5_ask_45 : decode cX5_ask 45 = .ok (.getfield 10, 3) := by decide +kernel
theorem dX5_ask_48 : decode cX5_ask 48 = .ok (.iload_n 1, 1) := by decide +kernel
theorem dX5_ask_49 : decode cX5_ask 49 = .ok (.invokevirtual 62, 3) := by decide +kernel
theorem dX5_ask_52 : decode cX5_ask 52 = .ok (.ifCond .eq 7, 3) := by decide +kernel
theorem dX5_ask_55 : decode cX5_ask 55 = .ok (.iconst 1, 1) := by decide +kernel
theorem dX5_ask_56 : decode cX5_ask 56 = .ok (.goto 4, 3) := by decide +kernel
theorem dX5_ask_59 : decode cX5_ask 59 = .ok (.iconst 0, 1) := by decide +kernel
theorem dX5_ask_60 : decode cX5_ask 60 = .ok (.ireturn, 1) := by decide +kernel
theorem dX5_ask_61 : decode cX5_ask 61 = .ok (.aload_n 0, 1) := by decide +kernel
theorem dX5_ask_62 : decode cX5_ask 62 = .ok (.getfield 10, 3) := by decide +kernel
theorem dX5_ask_65 : decode cX5_ask 65 = .ok (.getfield 106, 3) := by decide +kernel
theorem dX5_ask_68 : decode cX5_ask 68 = .ok (.iload_n 1, 1) := by decide +kernel
theorem dX5_ask_69 : decode cX5_ask 69 = .ok (.iaload, 1) := by decide +kernel
theorem dX5_ask_70 : decode cX5_ask 70 = .ok (.ireturn, 1) := by decide +kernel
theorem dX5_ask_71 : decode cX5_ask 71 = .ok (.aload_n 0, 1) := by decide +kernel
theorem dX5_ask_72 : decode cX5_ask 72 = .ok (.getfield 10, 3) := by decide +kernel
theorem dX5_ask_75 : decode cX5_ask 75 = .ok (.getfield 109, 3) := by decide +kernel
theorem dX5_ask_78 : decode cX5_ask 78 = .ok (.iload_n 1, 1) := by decide +kernel
theorem dX5_ask_79 : decode cX5_ask 79 = .ok (.iaload, 1) := by decide +kernel
theorem dX5_ask_80 : decode cX5_ask 80 = .ok (.ireturn, 1) := by decide +kernel
theorem dX5_ask_81 : decode cX5_ask 81 = .ok (.aload_n 0, 1) := by decide +kernel
theorem dX5_ask_82 : decode cX5_ask 82 = .ok (.getfield 10, 3) := by decide +kernel
theorem dX5_ask_85 : decode cX5_ask 85 = .ok (.iload_n 1, 1) := by decide +kernel
theorem dX5_ask_86 : decode cX5_ask 86 = .ok (.invokevirtual 112, 3) := by decide +kernel
theorem dX5_ask_89 : decode cX5_ask 89 = .ok (.ireturn, 1) := by decide +kernel
theorem dX5_ask_90 : decode cX5_ask 90 = .ok (.iconst (-1), 1) := by decide +kernel
theorem dX5_ask_91 : decode cX5_ask 91 = .ok (.ireturn, 1) := by decide +kernel
theorem dX5_drawn_0 : decode cX5_drawn 0 = .ok (.iload_n 1, 1) := by decide +kernel
theorem dX5_drawn_1 : decode cX5_drawn 1 = .ok (.ifCond .lt 14, 3) := by decide +kernel
theorem dX5_drawn_4 : decode cX5_drawn 4 = .ok (.iload_n 1, 1) := by decide +kernel
theorem dX5_drawn_5 : decode cX5_drawn 5 = .ok (.aload_n 0, 1) := by decide +kernel
theorem dX5_drawn_6 : decode cX5_drawn 6 = .ok (.getfield 10, 3) := by decide +kernel
theorem dX5_drawn_9 : decode cX5_drawn 9 = .ok (.getfield 115, 3) := by decide +kernel
theorem dX5_drawn_12 : decode cX5_drawn 12 = .ok (.if_icmp .lt 13, 3) := by decide +kernel
theorem dX5_drawn_15 : decode cX5_drawn 15 = .ok (.new 118, 3) := by decide +kernel
theorem dX5_drawn_18 : decode cX5_drawn 18 = .ok (.dup, 1) := by decide +kernel
theorem dX5_drawn_19 : decode cX5_drawn 19 = .ok (.ldc 120, 2) := by decide +kernel
theorem dX5_drawn_21 : decode cX5_drawn 21 = .ok (.invokespecial 122, 3) := by decide +kernel
theorem dX5_drawn_24 : decode cX5_drawn 24 = .ok (.athrow, 1) := by decide +kernel
theorem dX5_drawn_25 : decode cX5_drawn 25 = .ok (.aload_n 0, 1) := by decide +kernel
theorem dX5_drawn_26 : decode cX5_drawn 26 = .ok (.getfield 10, 3) := by decide +kernel
theorem dX5_drawn_29 : decode cX5_drawn 29 = .ok (.getfield 125, 3) := by decide +kernel
theorem dX5_drawn_32 : decode cX5_drawn 32 = .ok (.iload_n 1, 1) := by decide +kernel
theorem dX5_drawn_33 : decode cX5_drawn 33 = .ok (.iaload, 1) := by decide +kernel
theorem dX5_drawn_34 : decode cX5_drawn 34 = .ok (.ireturn, 1) := by decide +kernel
theorem dX5_part_0 : decode cX5_part 0 = .ok (.aload_n 0, 1) := by decide +kernel
theorem dX5_part_1 : decode cX5_part 1 = .ok (.invokevirtual 96, 3) := by decide +kernel
theorem dX5_part_4 : decode cX5_part 4 = .ok (.astore_n 3, 1) := by decide +kernel
theorem dX5_part_5 : decode cX5_part 5 = .ok (.iload_n 1, 1) := by decide +kernel
theorem dX5_part_6 : decode cX5_part 6 = .ok (.ifCond .lt 11, 3) := by decide +kernel
theorem dX5_part_9 : decode cX5_part 9 = .ok (.iload_n 1, 1) := by decide +kernel
theorem dX5_part_10 : decode cX5_part 10 = .ok (.aload_n 3, 1) := by decide +kernel
theorem dX5_part_11 : decode cX5_part 11 = .ok (.getfield 128, 3) := by decide +kernel
theorem dX5_part_14 : decode cX5_part 14 = .ok (.if_icmp .lt 5, 3) := by decide +kernel
theorem dX5_part_17 : decode cX5_part 17 = .ok (.iconst (-1), 1) := by decide +kernel
theorem dX5_part_18 : decode cX5_part 18 = .ok (.ireturn, 1) := by decide +kernel
theorem dX5_part_19 : decode cX5_part 19 = .ok (.iload_n 2, 1) := by decide +kernel
theorem dX5_part_20 : decode cX5_part 20 = .ok (.tableswitch 71 0 4 #[36, 43, 50, 57, 64], 36) := by decide +kernel
theorem dX5_part_56 : decode cX5_part 56 = .ok (.aload_n 3, 1) := by decide +kernel
theorem dX5_part_57 : decode cX5_part 57 = .ok (.getfield 131, 3) := by decide +kernel
theorem dX5_part_60 : decode cX5_part 60 = .ok (.iload_n 1, 1) := by decide +kernel
theorem dX5_part_61 : decode cX5_part 61 = .ok (.iaload, 1) := by decide +kernel
theorem dX5_part_62 : decode cX5_part 62 = .ok (.ireturn, 1) := by decide +kernel
theorem dX5_part_63 : decode cX5_part 63 = .ok (.aload_n 3, 1) := by decide +kernel
theorem dX5_part_64 : decode cX5_part 64 = .ok (.getfield 134, 3) := by decide +kernel
theorem dX5_part_67 : decode cX5_part 67 = .ok (.iload_n 1, 1) := by decide +kernel
theorem dX5_part_68 : decode cX5_part 68 = .ok (.iaload, 1) := by decide +kernel
theorem dX5_part_69 : decode cX5_part 69 = .ok (.ireturn, 1) := by decide +kernel
theorem dX5_part_70 : decode cX5_part 70 = .ok (.aload_n 3, 1) := by decide +kernel
theorem dX5_part_71 : decode cX5_part 71 = .ok (.getfield 137, 3) := by decide +kernel
theorem dX5_part_74 : decode cX5_part 74 = .ok (.iload_n 1, 1) := by decide +kernel
theorem dX5_part_75 : decode cX5_part 75 = .ok (.iaload, 1) := by decide +kernel
theorem dX5_part_76 : decode cX5_part 76 = .ok (.ireturn, 1) := by decide +kernel
theorem dX5_part_77 : decode cX5_part 77 = .ok (.aload_n 3, 1) := by decide +kernel
theorem dX5_part_78 : decode cX5_part 78 = .ok (.getfield 140, 3) := by decide +kernel
theorem dX5_part_81 : decode cX5_part 81 = .ok (.iload_n 1, 1) := by decide +kernel
theorem dX5_part_82 : decode cX5_part 82 = .ok (.iaload, 1) := by decide +kernel
theorem dX5_part_83 : decode cX5_part 83 = .ok (.ireturn, 1) := by decide +kernel
theorem dX5_part_84 : decode cX5_part 84 = .ok (.aload_n 3, 1) := by decide +kernel
theorem dX5_part_85 : decode cX5_part 85 = .ok (.getfield 143, 3) := by decide +kernel
theorem dX5_part_88 : decode cX5_part 88 = .ok (.iload_n 1, 1) := by decide +kernel
theorem dX5_part_89 : decode cX5_part 89 = .ok (.iaload, 1) := by decide +kernel
theorem dX5_part_90 : decode cX5_part 90 = .ok (.ireturn, 1) := by decide +kernel
theorem dX5_part_91 : decode cX5_part 91 = .ok (.iconst (-1), 1) := by decide +kernel
theorem dX5_part_92 : decode cX5_part 92 = .ok (.ireturn, 1) := by decide +kernel
theorem dX5_loose_0 : decode cX5_loose 0 = .ok (.aload_n 0, 1) := by decide +kernel
theorem dX5_loose_1 : decode cX5_loose 1 = .ok (.getfield 19, 3) := by decide +kernel
theorem dX5_loose_4 : decode cX5_loose 4 = .ok (.aload_n 0, 1) := by decide +kernel
theorem dX5_loose_5 : decode cX5_loose 5 = .ok (.getfield 10, 3) := by decide +kernel
theorem dX5_loose_8 : decode cX5_loose 8 = .ok (.invokevirtual 146, 3) := by decide +kernel
theorem dX5_loose_11 : decode cX5_loose 11 = .ok (.ireturn, 1) := by decide +kernel
theorem dX5_worth_0 : decode cX5_worth 0 = .ok (.aload_n 0, 1) := by decide +kernel
theorem dX5_worth_1 : decode cX5_worth 1 = .ok (.invokevirtual 150, 3) := by decide +kernel
theorem dX5_worth_4 : decode cX5_worth 4 = .ok (.ifCond .eq 9, 3) := by decide +kernel
theorem dX5_worth_7 : decode cX5_worth 7 = .ok (.sipush 1000, 3) := by decide +kernel
theorem dX5_worth_10 : decode cX5_worth 10 = .ok (.goto 14, 3) := by decide +kernel
theorem dX5_worth_13 : decode cX5_worth 13 = .ok (.aload_n 0, 1) := by decide +kernel
theorem dX5_worth_14 : decode cX5_worth 14 = .ok (.getfield 26, 3) := by decide +kernel
theorem dX5_worth_17 : decode cX5_worth 17 = .ok (.aload_n 0, 1) := by decide +kernel
theorem dX5_worth_18 : decode cX5_worth 18 = .ok (.getfield 10, 3) := by decide +kernel
theorem dX5_worth_21 : decode cX5_worth 21 = .ok (.invokevirtual 154, 3) := by decide +kernel
theorem dX5_worth_24 : decode cX5_worth 24 = .ok (.ireturn, 1) := by decide +kernel
theorem dX5_worthOf_0 : decode cX5_worthOf 0 = .ok (.aload_n 0, 1) := by decide +kernel
theorem dX5_worthOf_1 : decode cX5_worthOf 1 = .ok (.invokevirtual 150, 3) := by decide +kernel
theorem dX5_worthOf_4 : decode cX5_worthOf 4 = .ok (.ifCond .ne 14, 3) := by decide +kernel
theorem dX5_worthOf_7 : decode cX5_worthOf 7 = .ok (.aload_n 0, 1) := by decide +kernel
theorem dX5_worthOf_8 : decode cX5_worthOf 8 = .ok (.getfield 10, 3) := by decide +kernel
theorem dX5_worthOf_11 : decode cX5_worthOf 11 = .ok (.iload_n 1, 1) := by decide +kernel
theorem dX5_worthOf_12 : decode cX5_worthOf 12 = .ok (.invokevirtual 62, 3) := by decide +kernel
theorem dX5_worthOf_15 : decode cX5_worthOf 15 = .ok (.ifCond .ne 9, 3) := by decide +kernel
theorem dX5_worthOf_18 : decode cX5_worthOf 18 = .ok (.sipush 1000, 3) := by decide +kernel
theorem dX5_worthOf_21 : decode cX5_worthOf 21 = .ok (.goto 15, 3) := by decide +kernel
theorem dX5_worthOf_24 : decode cX5_worthOf 24 = .ok (.aload_n 0, 1) := by decide +kernel
theorem dX5_worthOf_25 : decode cX5_worthOf 25 = .ok (.getfield 26, 3) := by decide +kernel
theorem dX5_worthOf_28 : decode cX5_worthOf 28 = .ok (.aload_n 0, 1) := by decide +kernel
theorem dX5_worthOf_29 : decode cX5_worthOf 29 = .ok (.getfield 10, 3) := by decide +kernel
theorem dX5_worthOf_32 : decode cX5_worthOf 32 = .ok (.iload_n 1, 1) := by decide +kernel
theorem dX5_worthOf_33 : decode cX5_worthOf 33 = .ok (.invokevirtual 157, 3) := by decide +kernel
theorem dX5_worthOf_36 : decode cX5_worthOf 36 = .ok (.ireturn, 1) := by decide +kernel
theorem dX5_best_0 : decode cX5_best 0 = .ok (.aload_n 0, 1) := by decide +kernel
theorem dX5_best_1 : decode cX5_best 1 = .ok (.invokevirtual 150, 3) := by decide +kernel
theorem dX5_best_4 : decode cX5_best 4 = .ok (.ifCond .eq 7, 3) := by decide +kernel
theorem dX5_best_7 : decode cX5_best 7 = .ok (.iconst (-1), 1) := by decide +kernel
theorem dX5_best_8 : decode cX5_best 8 = .ok (.goto 15, 3) := by decide +kernel
theorem dX5_best_11 : decode cX5_best 11 = .ok (.aload_n 0, 1) := by decide +kernel
theorem dX5_best_12 : decode cX5_best 12 = .ok (.getfield 26, 3) := by decide +kernel
theorem dX5_best_15 : decode cX5_best 15 = .ok (.aload_n 0, 1) := by decide +kernel
theorem dX5_best_16 : decode cX5_best 16 = .ok (.getfield 10, 3) := by decide +kernel
theorem dX5_best_19 : decode cX5_best 19 = .ok (.iload_n 1, 1) := by decide +kernel
theorem dX5_best_20 : decode cX5_best 20 = .ok (.invokevirtual 161, 3) := by decide +kernel
theorem dX5_best_23 : decode cX5_best 23 = .ok (.ireturn, 1) := by decide +kernel
theorem dX5_simple_0 : decode cX5_simple 0 = .ok (.aload_n 0, 1) := by decide +kernel
theorem dX5_simple_1 : decode cX5_simple 1 = .ok (.invokevirtual 164, 3) := by decide +kernel
theorem dX5_simple_4 : decode cX5_simple 4 = .ok (.astore_n 1, 1) := by decide +kernel
theorem dX5_simple_5 : decode cX5_simple 5 = .ok (.aload_n 1, 1) := by decide +kernel
theorem dX5_simple_6 : decode cX5_simple 6 = .ok (.invokevirtual 168, 3) := by decide +kernel
theorem dX5_simple_9 : decode cX5_simple 9 = .ok (.ifCond .eq 10, 3) := by decide +kernel
theorem dX5_simple_12 : decode cX5_simple 12 = .ok (.aload_n 1, 1) := by decide +kernel
theorem dX5_simple_13 : decode cX5_simple 13 = .ok (.invokevirtual 171, 3) := by decide +kernel
theorem dX5_simple_16 : decode cX5_simple 16 = .ok (.goto 6, 3) := by decide +kernel
theorem dX5_simple_19 : decode cX5_simple 19 = .ok (.sipush 1000, 3) := by decide +kernel
theorem dX5_simple_22 : decode cX5_simple 22 = .ok (.ireturn, 1) := by decide +kernel
theorem dX5_keep_0 : decode cX5_keep 0 = .ok (.aload_n 0, 1) := by decide +kernel
theorem dX5_keep_1 : decode cX5_keep 1 = .ok (.invokevirtual 164, 3) := by decide +kernel
theorem dX5_keep_4 : decode cX5_keep 4 = .ok (.astore_n 1, 1) := by decide +kernel
theorem dX5_keep_5 : decode cX5_keep 5 = .ok (.aload_n 1, 1) := by decide +kernel
theorem dX5_keep_6 : decode cX5_keep 6 = .ok (.getfield 174, 3) := by decide +kernel
theorem dX5_keep_9 : decode cX5_keep 9 = .ok (.ifCond .eq 17, 3) := by decide +kernel
theorem dX5_keep_12 : decode cX5_keep 12 = .ok (.aload_n 1, 1) := by decide +kernel
theorem dX5_keep_13 : decode cX5_keep 13 = .ok (.invokevirtual 168, 3) := by decide +kernel
theorem dX5_keep_16 : decode cX5_keep 16 = .ok (.ifCond .eq 10, 3) := by decide +kernel
theorem dX5_keep_19 : decode cX5_keep 19 = .ok (.aload_n 1, 1) := by decide +kernel
theorem dX5_keep_20 : decode cX5_keep 20 = .ok (.invokevirtual 178, 3) := by decide +kernel
theorem dX5_keep_23 : decode cX5_keep 23 = .ok (.goto 6, 3) := by decide +kernel
theorem dX5_keep_26 : decode cX5_keep 26 = .ok (.sipush 1000, 3) := by decide +kernel
theorem dX5_keep_29 : decode cX5_keep 29 = .ok (.ireturn, 1) := by decide +kernel
theorem dX5_give_0 : decode cX5_give 0 = .ok (.aload_n 0, 1) := by decide +kernel
theorem dX5_give_1 : decode cX5_give 1 = .ok (.invokevirtual 164, 3) := by decide +kernel
theorem dX5_give_4 : decode cX5_give 4 = .ok (.astore_n 2, 1) := by decide +kernel
theorem dX5_give_5 : decode cX5_give 5 = .ok (.aload_n 2, 1) := by decide +kernel
theorem dX5_give_6 : decode cX5_give 6 = .ok (.getfield 174, 3) := by decide +kernel
theorem dX5_give_9 : decode cX5_give 9 = .ok (.ifCond .ne 21, 3) := by decide +kernel
theorem dX5_give_12 : decode cX5_give 12 = .ok (.aload_n 2, 1) := by decide +kernel
theorem dX5_give_13 : decode cX5_give 13 = .ok (.invokevirtual 168, 3) := by decide +kernel
theorem dX5_give_16 : decode cX5_give 16 = .ok (.ifCond .eq 14, 3) := by decide +kernel
theorem dX5_give_19 : decode cX5_give 19 = .ok (.aload_n 2, 1) := by decide +kernel
theorem dX5_give_20 : decode cX5_give 20 = .ok (.getfield 181, 3) := by decide +kernel
theorem dX5_give_23 : decode cX5_give 23 = .ok (.iload_n 1, 1) := by decide +kernel
theorem dX5_give_24 : decode cX5_give 24 = .ok (.invokevirtual 184, 3) := by decide +kernel
theorem dX5_give_27 : decode cX5_give 27 = .ok (.goto 4, 3) := by decide +kernel
theorem dX5_give_30 : decode cX5_give 30 = .ok (.iconst (-1), 1) := by decide +kernel
theorem dX5_give_31 : decode cX5_give 31 = .ok (.ireturn, 1) := by decide +kernel
theorem dX5_longs_0 : decode cX5_longs 0 = .ok (.aload_n 0, 1) := by decide +kernel
theorem dX5_longs_1 : decode cX5_longs 1 = .ok (.invokevirtual 96, 3) := by decide +kernel
theorem dX5_longs_4 : decode cX5_longs 4 = .ok (.invokevirtual 187, 3) := by decide +kernel
theorem dX5_longs_7 : decode cX5_longs 7 = .ok (.ireturn, 1) := by decide +kernel
theorem dX5_count_0 : decode cX5_count 0 = .ok (.iload_n 1, 1) := by decide +kernel
theorem dX5_count_1 : decode cX5_count 1 = .ok (.tableswitch 167 0 9 #[55, 63, 71, 79, 99, 107, 123, 131, 147, 157], 55) := by decide +kernel
theorem dX5_count_56 : decode cX5_count 56 = .ok (.aload_n 0, 1) := by decide +kernel
theorem dX5_count_57 : decode cX5_count 57 = .ok (.getfield 10, 3) := by decide +kernel
theorem dX5_count_60 : decode cX5_count 60 = .ok (.getfield 190, 3) := by decide +kernel
theorem dX5_count_63 : decode cX5_count 63 = .ok (.ireturn, 1) := by decide +kernel
theorem dX5_count_64 : decode cX5_count 64 = .ok (.aload_n 0, 1) := by decide +kernel
theorem dX5_count_65 : decode cX5_count 65 = .ok (.getfield 10, 3) := by decide +kernel
theorem dX5_count_68 : decode cX5_count 68 = .ok (.getfield 192, 3) := by decide +kernel
theorem dX5_count_71 : decode cX5_count 71 = .ok (.ireturn, 1) := by decide +kernel
theorem dX5_count_72 : decode cX5_count 72 = .ok (.aload_n 0, 1) := by decide +kernel
theorem dX5_count_73 : decode cX5_count 73 = .ok (.getfield 10, 3) := by decide +kernel
theorem dX5_count_76 : decode cX5_count 76 = .ok (.getfield 76, 3) := by decide +kernel
theorem dX5_count_79 : decode cX5_count 79 = .ok (.ireturn, 1) := by decide +kernel
theorem dX5_count_80 : decode cX5_count 80 = .ok (.aload_n 0, 1) := by decide +kernel
theorem dX5_count_81 : decode cX5_count 81 = .ok (.getfield 10, 3) := by decide +kernel
theorem dX5_count_84 : decode cX5_count 84 = .ok (.getfield 194, 3) := by decide +kernel
theorem dX5_count_87 : decode cX5_count 87 = .ok (.iconst 0, 1) := by decide +kernel
theorem dX5_count_88 : decode cX5_count 88 = .ok (.iaload, 1) := by decide +kernel
theorem dX5_count_89 : decode cX5_count 89 = .ok (.aload_n 0, 1) := by decide +kernel
theorem dX5_count_90 : decode cX5_count 90 = .ok (.getfield 10, 3) := by decide +kernel
theorem dX5_count_93 : decode cX5_count 93 = .ok (.getfield 194, 3) := by decide +kernel
theorem dX5_count_96 : decode cX5_count 96 = .ok (.iconst 1, 1) := by decide +kernel
theorem dX5_count_97 : decode cX5_count 97 = .ok (.iaload, 1) := by decide +kernel
theorem dX5_count_98 : decode cX5_count 98 = .ok (.iadd, 1) := by decide +kernel
theorem dX5_count_99 : decode cX5_count 99 = .ok (.ireturn, 1) := by decide +kernel
theorem dX5_count_100 : decode cX5_count 100 = .ok (.aload_n 0, 1) := by decide +kernel
theorem dX5_count_101 : decode cX5_count 101 = .ok (.getfield 10, 3) := by decide +kernel
theorem dX5_count_104 : decode cX5_count 104 = .ok (.getfield 115, 3) := by decide +kernel
theorem dX5_count_107 : decode cX5_count 107 = .ok (.ireturn, 1) := by decide +kernel
theorem dX5_count_108 : decode cX5_count 108 = .ok (.aload_n 0, 1) := by decide +kernel
theorem dX5_count_109 : decode cX5_count 109 = .ok (.getfield 10, 3) := by decide +kernel
theorem dX5_count_112 : decode cX5_count 112 = .ok (.getfield 197, 3) := by decide +kernel
theorem dX5_count_115 : decode cX5_count 115 = .ok (.aload_n 0, 1) := by decide +kernel
theorem dX5_count_116 : decode cX5_count 116 = .ok (.getfield 10, 3) := by decide +kernel
theorem dX5_count_119 : decode cX5_count 119 = .ok (.getfield 115, 3) := by decide +kernel
theorem dX5_count_122 : decode cX5_count 122 = .ok (.isub, 1) := by decide +kernel
theorem dX5_count_123 : decode cX5_count 123 = .ok (.ireturn, 1) := by decide +kernel
theorem dX5_count_124 : decode cX5_count 124 = .ok (.aload_n 0, 1) := by decide +kernel
theorem dX5_count_125 : decode cX5_count 125 = .ok (.invokevirtual 96, 3) := by decide +kernel
theorem dX5_count_128 : decode cX5_count 128 = .ok (.getfield 128, 3) := by decide +kernel
theorem dX5_count_131 : decode cX5_count 131 = .ok (.ireturn, 1) := by decide +kernel
theorem dX5_count_132 : decode cX5_count 132 = .ok (.aload_n 0, 1) := by decide +kernel
theorem dX5_count_133 : decode cX5_count 133 = .ok (.invokevirtual 96, 3) := by decide +kernel
theorem dX5_count_136 : decode cX5_count 136 = .ok (.getfield 200, 3) := by decide +kernel
theorem dX5_count_139 : decode cX5_count 139 = .ok (.ifCond .ne 7, 3) := by decide +kernel
theorem dX5_count_142 : decode cX5_count 142 = .ok (.iconst 1, 1) := by decide +kernel
theorem dX5_count_143 : decode cX5_count 143 = .ok (.goto 4, 3) := by decide +kernel
theorem dX5_count_146 : decode cX5_count 146 = .ok (.iconst 0, 1) := by decide +kernel
theorem dX5_count_147 : decode cX5_count 147 = .ok (.ireturn, 1) := by decide +kernel
theorem dX5_count_148 : decode cX5_count 148 = .ok (.aload_n 0, 1) := by decide +kernel
theorem dX5_count_149 : decode cX5_count 149 = .ok (.getfield 10, 3) := by decide +kernel
theorem dX5_count_152 : decode cX5_count 152 = .ok (.getfield 194, 3) := by decide +kernel
theorem dX5_count_155 : decode cX5_count 155 = .ok (.iconst 0, 1) := by decide +kernel
theorem dX5_count_156 : decode cX5_count 156 = .ok (.iaload, 1) := by decide +kernel
theorem dX5_count_157 : decode cX5_count 157 = .ok (.ireturn, 1) := by decide +kernel
theorem dX5_count_158 : decode cX5_count 158 = .ok (.aload_n 0, 1) := by decide +kernel
theorem dX5_count_159 : decode cX5_count 159 = .ok (.getfield 10, 3) := by decide +kernel
theorem dX5_count_162 : decode cX5_count 162 = .ok (.getfield 194, 3) := by decide +kernel
theorem dX5_count_165 : decode cX5_count 165 = .ok (.iconst 1, 1) := by decide +kernel
theorem dX5_count_166 : decode cX5_count 166 = .ok (.iaload, 1) := by decide +kernel
theorem dX5_count_167 : decode cX5_count 167 = .ok (.ireturn, 1) := by decide +kernel
theorem dX5_count_168 : decode cX5_count 168 = .ok (.iconst (-1), 1) := by decide +kernel
theorem dX5_count_169 : decode cX5_count 169 = .ok (.ireturn, 1) := by decide +kernel
theorem dX5_empty_0 : decode cX5_empty 0 = .ok (.aload_n 0, 1) := by decide +kernel
theorem dX5_empty_1 : decode cX5_empty 1 = .ok (.getfield 40, 3) := by decide +kernel
theorem dX5_empty_4 : decode cX5_empty 4 = .ok (.invokevirtual 203, 3) := by decide +kernel
theorem dX5_empty_7 : decode cX5_empty 7 = .ok (.return_, 1) := by decide +kernel
theorem dX5_heap_0 : decode cX5_heap 0 = .ok (.iload_n 2, 1) := by decide +kernel
theorem dX5_heap_1 : decode cX5_heap 1 = .ok (.iload_n 1, 1) := by decide +kernel
theorem dX5_heap_2 : decode cX5_heap 2 = .ok (.ifCond .eq 7, 3) := by decide +kernel
theorem dX5_heap_5 : decode cX5_heap 5 = .ok (.iconst 2, 1) := by decide +kernel
theorem dX5_heap_6 : decode cX5_heap 6 = .ok (.goto 4, 3) := by decide +kernel
theorem dX5_heap_9 : decode cX5_heap 9 = .ok (.iconst 1, 1) := by decide +kernel
theorem dX5_heap_10 : decode cX5_heap 10 = .ok (.if_icmp .lt 38, 3) := by decide +kernel
theorem dX5_heap_13 : decode cX5_heap 13 = .ok (.iload_n 2, 1) := by decide +kernel
theorem dX5_heap_14 : decode cX5_heap 14 = .ok (.sipush 200, 3) := by decide +kernel
theorem dX5_heap_17 : decode cX5_heap 17 = .ok (.if_icmp .gt 31, 3) := by decide +kernel
theorem dX5_heap_20 : decode cX5_heap 20 = .ok (.iload_n 3, 1) := by decide +kernel
theorem dX5_heap_21 : decode cX5_heap 21 = .ok (.iconst 1, 1) := by decide +kernel
theorem dX5_heap_22 : decode cX5_heap 22 = .ok (.if_icmp .lt 26, 3) := by decide +kernel
theorem dX5_heap_25 : decode cX5_heap 25 = .ok (.iload_n 3, 1) := by decide +kernel
theorem dX5_heap_26 : decode cX5_heap 26 = .ok (.bipush 100, 2) := by decide +kernel
theorem dX5_heap_28 : decode cX5_heap 28 = .ok (.if_icmp .gt 20, 3) := by decide +kernel
theorem dX5_heap_31 : decode cX5_heap 31 = .ok (.aload_n 0, 1) := by decide +kernel
theorem dX5_heap_32 : decode cX5_heap 32 = .ok (.getfield 40, 3) := by decide +kernel
theorem dX5_heap_35 : decode cX5_heap 35 = .ok (.iload_n 1, 1) := by decide +kernel
theorem dX5_heap_36 : decode cX5_heap 36 = .ok (.iload_n 2, 1) := by decide +kernel
theorem dX5_heap_37 : decode cX5_heap 37 = .ok (.iload_n 3, 1) := by decide +kernel
theorem dX5_heap_38 : decode cX5_heap 38 = .ok (.invokevirtual 204, 3) := by decide +kernel
theorem dX5_heap_41 : decode cX5_heap 41 = .ok (.ifCond .eq 7, 3) := by decide +kernel
theorem dX5_heap_44 : decode cX5_heap 44 = .ok (.iconst 1, 1) := by decide +kernel
theorem dX5_heap_45 : decode cX5_heap 45 = .ok (.goto 4, 3) := by decide +kernel
theorem dX5_heap_48 : decode cX5_heap 48 = .ok (.iconst 0, 1) := by decide +kernel
theorem dX5_heap_49 : decode cX5_heap 49 = .ok (.istore 4, 2) := by decide +kernel
theorem dX5_heap_51 : decode cX5_heap 51 = .ok (.iload 4, 2) := by decide +kernel
theorem dX5_heap_53 : decode cX5_heap 53 = .ok (.ifCond .eq 16, 3) := by decide +kernel
theorem dX5_heap_56 : decode cX5_heap 56 = .ok (.aload_n 0, 1) := by decide +kernel
theorem dX5_heap_57 : decode cX5_heap 57 = .ok (.getfield 40, 3) := by decide +kernel
theorem dX5_heap_60 : decode cX5_heap 60 = .ok (.iload_n 1, 1) := by decide +kernel
theorem dX5_heap_61 : decode cX5_heap 61 = .ok (.iload_n 2, 1) := by decide +kernel
theorem dX5_heap_62 : decode cX5_heap 62 = .ok (.iload_n 3, 1) := by decide +kernel
theorem dX5_heap_63 : decode cX5_heap 63 = .ok (.invokevirtual 208, 3) := by decide +kernel
theorem dX5_heap_66 : decode cX5_heap 66 = .ok (.goto 4, 3) := by decide +kernel
theorem dX5_heap_69 : decode cX5_heap 69 = .ok (.iconst (-1), 1) := by decide +kernel
theorem dX5_heap_70 : decode cX5_heap 70 = .ok (.ireturn, 1) := by decide +kernel
theorem dX5_value_0 : decode cX5_value 0 = .ok (.aload_n 0, 1) := by decide +kernel
theorem dX5_value_1 : decode cX5_value 1 = .ok (.getfield 40, 3) := by decide +kernel
theorem dX5_value_4 : decode cX5_value 4 = .ok (.invokevirtual 212, 3) := by decide +kernel
theorem dX5_value_7 : decode cX5_value 7 = .ok (.ifCond .ne 13, 3) := by decide +kernel
theorem dX5_value_10 : decode cX5_value 10 = .ok (.new 213, 3) := by decide +kernel
theorem dX5_value_13 : decode cX5_value 13 = .ok (.dup, 1) := by decide +kernel
theorem dX5_value_14 : decode cX5_value 14 = .ok (.ldc 215, 2) := by decide +kernel
theorem dX5_value_16 : decode cX5_value 16 = .ok (.invokespecial 217, 3) := by decide +kernel
theorem dX5_value_19 : decode cX5_value 19 = .ok (.athrow, 1) := by decide +kernel
theorem dX5_value_20 : decode cX5_value 20 = .ok (.aload_n 0, 1) := by decide +kernel
theorem dX5_value_21 : decode cX5_value 21 = .ok (.getfield 40, 3) := by decide +kernel
theorem dX5_value_24 : decode cX5_value 24 = .ok (.invokevirtual 218, 3) := by decide +kernel
theorem dX5_value_27 : decode cX5_value 27 = .ok (.ireturn, 1) := by decide +kernel
theorem dX5_open_0 : decode cX5_open 0 = .ok (.aload_n 0, 1) := by decide +kernel
theorem dX5_open_1 : decode cX5_open 1 = .ok (.getfield 40, 3) := by decide +kernel
theorem dX5_open_4 : decode cX5_open 4 = .ok (.invokevirtual 212, 3) := by decide +kernel
theorem dX5_open_7 : decode cX5_open 7 = .ok (.ifCond .eq 14, 3) := by decide +kernel
theorem dX5_open_10 : decode cX5_open 10 = .ok (.aload_n 0, 1) := by decide +kernel
theorem dX5_open_11 : decode cX5_open 11 = .ok (.getfield 40, 3) := by decide +kernel
theorem dX5_open_14 : decode cX5_open 14 = .ok (.iload_n 1, 1) := by decide +kernel
theorem dX5_open_15 : decode cX5_open 15 = .ok (.invokevirtual 184, 3) := by decide +kernel
theorem dX5_open_18 : decode cX5_open 18 = .ok (.goto 4, 3) := by decide +kernel
theorem dX5_open_21 : decode cX5_open 21 = .ok (.iconst (-1), 1) := by decide +kernel
theorem dX5_open_22 : decode cX5_open 22 = .ok (.ireturn, 1) := by decide +kernel
theorem dX5_isTooWide_0 : decode cX5_isTooWide 0 = .ok (.aload_n 0, 1) := by decide +kernel
theorem dX5_isTooWide_1 : decode cX5_isTooWide 1 = .ok (.getfield 10, 3) := by decide +kernel
theorem dX5_isTooWide_4 : decode cX5_isTooWide 4 = .ok (.getfield 76, 3) := by decide +kernel
theorem dX5_isTooWide_7 : decode cX5_isTooWide 7 = .ok (.bipush 16, 2) := by decide +kernel
theorem dX5_isTooWide_9 : decode cX5_isTooWide 9 = .ok (.if_icmp .le 7, 3) := by decide +kernel
theorem dX5_isTooWide_12 : decode cX5_isTooWide 12 = .ok (.iconst 1, 1) := by decide +kernel
theorem dX5_isTooWide_13 : decode cX5_isTooWide 13 = .ok (.goto 4, 3) := by decide +kernel
theorem dX5_isTooWide_16 : decode cX5_isTooWide 16 = .ok (.iconst 0, 1) := by decide +kernel
theorem dX5_isTooWide_17 : decode cX5_isTooWide 17 = .ok (.ireturn, 1) := by decide +kernel
theorem dX5_surveyed_0 : decode cX5_surveyed 0 = .ok (.aload_n 0, 1) := by decide +kernel
theorem dX5_surveyed_1 : decode cX5_surveyed 1 = .ok (.getfield 19, 3) := by decide +kernel
theorem dX5_surveyed_4 : decode cX5_surveyed 4 = .ok (.aload_n 0, 1) := by decide +kernel
theorem dX5_surveyed_5 : decode cX5_surveyed 5 = .ok (.getfield 10, 3) := by decide +kernel
theorem dX5_surveyed_8 : decode cX5_surveyed 8 = .ok (.invokevirtual 221, 3) := by decide +kernel
theorem dX5_surveyed_11 : decode cX5_surveyed 11 = .ok (.aload_n 0, 1) := by decide +kernel
theorem dX5_surveyed_12 : decode cX5_surveyed 12 = .ok (.getfield 19, 3) := by decide +kernel
theorem dX5_surveyed_15 : decode cX5_surveyed 15 = .ok (.areturn, 1) := by decide +kernel
theorem dX5_reckoned_0 : decode cX5_reckoned 0 = .ok (.aload_n 0, 1) := by decide +kernel
theorem dX5_reckoned_1 : decode cX5_reckoned 1 = .ok (.getfield 33, 3) := by decide +kernel
theorem dX5_reckoned_4 : decode cX5_reckoned 4 = .ok (.aload_n 0, 1) := by decide +kernel
theorem dX5_reckoned_5 : decode cX5_reckoned 5 = .ok (.invokevirtual 96, 3) := by decide +kernel
theorem dX5_reckoned_8 : decode cX5_reckoned 8 = .ok (.invokevirtual 225, 3) := by decide +kernel
theorem dX5_reckoned_11 : decode cX5_reckoned 11 = .ok (.aload_n 0, 1) := by decide +kernel
theorem dX5_reckoned_12 : decode cX5_reckoned 12 = .ok (.getfield 33, 3) := by decide +kernel
theorem dX5_reckoned_15 : decode cX5_reckoned 15 = .ok (.areturn, 1) := by decide +kernel
theorem dX6_init_0 : decode cX6_init 0 = .ok (.aload_n 0, 1) := by decide +kernel
theorem dX6_init_1 : decode cX6_init 1 = .ok (.invokespecial 1, 3) := by decide +kernel
theorem dX6_init_4 : decode cX6_init 4 = .ok (.aload_n 0, 1) := by decide +kernel
theorem dX6_init_5 : decode cX6_init 5 = .ok (.sipush 500, 3) := by decide +kernel
theorem dX6_init_8 : decode cX6_init 8 = .ok (.newarray .int, 2) := by decide +kernel
theorem dX6_init_10 : decode cX6_init 10 = .ok (.putfield 9, 3) := by decide +kernel
theorem dX6_init_13 : decode cX6_init 13 = .ok (.aload_n 0, 1) := by decide +kernel
theorem dX6_init_14 : decode cX6_init 14 = .ok (.sipush 500, 3) := by decide +kernel
theorem dX6_init_17 : decode cX6_init 17 = .ok (.newarray .int, 2) := by decide +kernel
theorem dX6_init_19 : decode cX6_init 19 = .ok (.putfield 13, 3) := by decide +kernel
theorem dX6_init_22 : decode cX6_init 22 = .ok (.aload_n 0, 1) := by decide +kernel
theorem dX6_init_23 : decode cX6_init 23 = .ok (.sipush 200, 3) := by decide +kernel
theorem dX6_init_26 : decode cX6_init 26 = .ok (.newarray .int, 2) := by decide +kernel
theorem dX6_init_28 : decode cX6_init 28 = .ok (.putfield 16, 3) := by decide +kernel
theorem dX6_init_31 : decode cX6_init 31 = .ok (.aload_n 0, 1) := by decide +kernel
theorem dX6_init_32 : decode cX6_init 32 = .ok (.sipush 500, 3) := by decide +kernel
theorem dX6_init_35 : decode cX6_init 35 = .ok (.newarray .int, 2) := by decide +kernel
theorem dX6_init_37 : decode cX6_init 37 = .ok (.putfield 19, 3) := by decide +kernel
theorem dX6_init_40 : decode cX6_init 40 = .ok (.aload_n 0, 1) := by decide +kernel
theorem dX6_init_41 : decode cX6_init 41 = .ok (.sipush 500, 3) := by decide +kernel
theorem dX6_init_44 : decode cX6_init 44 = .ok (.newarray .boolean, 2) := by decide +kernel
theorem dX6_init_46 : decode cX6_init 46 = .ok (.putfield 22, 3) := by decide +kernel
theorem dX6_init_49 : decode cX6_init 49 = .ok (.aload_n 0, 1) := by decide +kernel
theorem dX6_init_50 : decode cX6_init 50 = .ok (.sipush 200, 3) := by decide +kernel
theorem dX6_init_53 : decode cX6_init 53 = .ok (.newarray .int, 2) := by decide +kernel
theorem dX6_init_55 : decode cX6_init 55 = .ok (.putfield 26, 3) := by decide +kernel
theorem dX6_init_58 : decode cX6_init 58 = .ok (.aload_n 0, 1) := by decide +kernel
theorem dX6_init_59 : decode cX6_init 59 = .ok (.sipush 200, 3) := by decide +kernel
theorem dX6_init_62 : decode cX6_init 62 = .ok (.newarray .int, 2) := by decide +kernel
theorem dX6_init_64 : decode cX6_init 64 = .ok (.putfield 29, 3) := by decide +kernel
theorem dX6_init_67 : decode cX6_init 67 = .ok (.aload_n 0, 1) := by decide +kernel
theorem dX6_init_68 : decode cX6_init 68 = .ok (.sipush 200, 3) := by decide +kernel
theorem dX6_init_71 : decode cX6_init 71 = .ok (.newarray .int, 2) := by decide +kernel
theorem dX6_init_73 : decode cX6_init 73 = .ok (.putfield 32, 3) := by decide +kernel
theorem dX6_init_76 : decode cX6_init 76 = .ok (.aload_n 0, 1) := by decide +kernel
theorem dX6_init_77 : decode cX6_init 77 = .ok (.sipush 200, 3) := by decide +kernel
theorem dX6_init_80 : decode cX6_init 80 = .ok (.newarray .int, 2) := by decide +kernel
theorem dX6_init_82 : decode cX6_init 82 = .ok (.putfield 35, 3) := by decide +kernel
theorem dX6_init_85 : decode cX6_init 85 = .ok (.aload_n 0, 1) := by decide +kernel
theorem dX6_init_86 : decode cX6_init 86 = .ok (.sipush 200, 3) := by decide +kernel
theorem dX6_init_89 : decode cX6_init 89 = .ok (.newarray .int, 2) := by decide +kernel
theorem dX6_init_91 : decode cX6_init 91 = .ok (.putfield 38, 3) := by decide +kernel
theorem dX6_init_94 : decode cX6_init 94 = .ok (.aload_n 0, 1) := by decide +kernel
theorem dX6_init_95 : decode cX6_init 95 = .ok (.sipush 200, 3) := by decide +kernel
theorem dX6_init_98 : decode cX6_init 98 = .ok (.newarray .int, 2) := by decide +kernel
theorem dX6_init_100 : decode cX6_init 100 = .ok (.putfield 41, 3) := by decide +kernel
theorem dX6_init_103 : decode cX6_init 103 = .ok (.aload_n 0, 1) := by decide +kernel
theorem dX6_init_104 : decode cX6_init 104 = .ok (.sipush 200, 3) := by decide +kernel
theorem dX6_init_107 : decode cX6_init 107 = .ok (.newarray .int, 2) := by decide +kernel
theorem dX6_init_109 : decode cX6_init 109 = .ok (.putfield 44, 3) := by decide +kernel
theorem dX6_init_112 : decode cX6_init 112 = .ok (.aload_n 0, 1) := by decide +kernel
theorem dX6_init_113 : decode cX6_init 113 = .ok (.ldc 47, 2) := by decide +kernel
theorem dX6_init_115 : decode cX6_init 115 = .ok (.newarray .int, 2) := by decide +kernel
theorem dX6_init_117 : decode cX6_init 117 = .ok (.putfield 48, 3) := by decide +kernel
theorem dX6_init_120 : decode cX6_init 120 = .ok (.aload_n 0, 1) := by decide +kernel
theorem dX6_init_121 : decode cX6_init 121 = .ok (.bipush 16, 2) := by decide +kernel
theorem dX6_init_123 : decode cX6_init 123 = .ok (.newarray .int, 2) := by decide +kernel
theorem dX6_init_125 : decode cX6_init 125 = .ok (.putfield 51, 3) := by decide +kernel
theorem dX6_init_128 : decode cX6_init 128 = .ok (.aload_n 0, 1) := by decide +kernel
theorem dX6_init_129 : decode cX6_init 129 = .ok (.sipush 200, 3) := by decide +kernel
theorem dX6_init_132 : decode cX6_init 132 = .ok (.newarray .int, 2) := by decide +kernel
theorem dX6_init_134 : decode cX6_init 134 = .ok (.putfield 54, 3) := by decide +kernel
theorem dX6_init_137 : decode cX6_init 137 = .ok (.aload_n 0, 1) := by decide +kernel
theorem dX6_init_138 : decode cX6_init 138 = .ok (.bipush 30, 2) := by decide +kernel
theorem dX6_init_140 : decode cX6_init 140 = .ok (.newarray .int, 2) := by decide +kernel
