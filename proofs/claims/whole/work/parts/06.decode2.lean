theorem dX6_init_142 : decode cX6_init 142 = .ok (.putfield 57, 3) := by decide +kernel
theorem dX6_init_145 : decode cX6_init 145 = .ok (.aload_n 0, 1) := by decide +kernel
theorem dX6_init_146 : decode cX6_init 146 = .ok (.bipush 30, 2) := by decide +kernel
theorem dX6_init_148 : decode cX6_init 148 = .ok (.newarray .int, 2) := by decide +kernel
theorem dX6_init_150 : decode cX6_init 150 = .ok (.putfield 60, 3) := by decide +kernel
theorem dX6_init_153 : decode cX6_init 153 = .ok (.aload_n 0, 1) := by decide +kernel
theorem dX6_init_154 : decode cX6_init 154 = .ok (.bipush 30, 2) := by decide +kernel
theorem dX6_init_156 : decode cX6_init 156 = .ok (.newarray .int, 2) := by decide +kernel
theorem dX6_init_158 : decode cX6_init 158 = .ok (.putfield 63, 3) := by decide +kernel
theorem dX6_init_161 : decode cX6_init 161 = .ok (.aload_n 0, 1) := by decide +kernel
theorem dX6_init_162 : decode cX6_init 162 = .ok (.bipush 30, 2) := by decide +kernel
theorem dX6_init_164 : decode cX6_init 164 = .ok (.newarray .boolean, 2) := by decide +kernel
theorem dX6_init_166 : decode cX6_init 166 = .ok (.putfield 66, 3) := by decide +kernel
theorem dX6_init_169 : decode cX6_init 169 = .ok (.aload_n 0, 1) := by decide +kernel
theorem dX6_init_170 : decode cX6_init 170 = .ok (.sipush 20001, 3) := by decide +kernel
theorem dX6_init_173 : decode cX6_init 173 = .ok (.newarray .int, 2) := by decide +kernel
theorem dX6_init_175 : decode cX6_init 175 = .ok (.putfield 69, 3) := by decide +kernel
theorem dX6_init_178 : decode cX6_init 178 = .ok (.aload_n 0, 1) := by decide +kernel
theorem dX6_init_179 : decode cX6_init 179 = .ok (.sipush 201, 3) := by decide +kernel
theorem dX6_init_182 : decode cX6_init 182 = .ok (.newarray .int, 2) := by decide +kernel
theorem dX6_init_184 : decode cX6_init 184 = .ok (.putfield 72, 3) := by decide +kernel
theorem dX6_init_187 : decode cX6_init 187 = .ok (.aload_n 0, 1) := by decide +kernel
theorem dX6_init_188 : decode cX6_init 188 = .ok (.sipush 201, 3) := by decide +kernel
theorem dX6_init_191 : decode cX6_init 191 = .ok (.newarray .int, 2) := by decide +kernel
theorem dX6_init_193 : decode cX6_init 193 = .ok (.putfield 75, 3) := by decide +kernel
theorem dX6_init_196 : decode cX6_init 196 = .ok (.aload_n 0, 1) := by decide +kernel
theorem dX6_init_197 : decode cX6_init 197 = .ok (.sipush 201, 3) := by decide +kernel
theorem dX6_init_200 : decode cX6_init 200 = .ok (.newarray .int, 2) := by decide +kernel
theorem dX6_init_202 : decode cX6_init 202 = .ok (.putfield 78, 3) := by decide +kernel
theorem dX6_init_205 : decode cX6_init 205 = .ok (.aload_n 0, 1) := by decide +kernel
theorem dX6_init_206 : decode cX6_init 206 = .ok (.sipush 201, 3) := by decide +kernel
theorem dX6_init_209 : decode cX6_init 209 = .ok (.newarray .int, 2) := by decide +kernel
theorem dX6_init_211 : decode cX6_init 211 = .ok (.putfield 81, 3) := by decide +kernel
theorem dX6_init_214 : decode cX6_init 214 = .ok (.return_, 1) := by decide +kernel
theorem dX6_thrown_0 : decode cX6_thrown 0 = .ok (.aload_n 0, 1) := by decide +kernel
theorem dX6_thrown_1 : decode cX6_thrown 1 = .ok (.getfield 84, 3) := by decide +kernel
theorem dX6_thrown_4 : decode cX6_thrown 4 = .ok (.ireturn, 1) := by decide +kernel
theorem dX6_isField_0 : decode cX6_isField 0 = .ok (.iload_n 1, 1) := by decide +kernel
theorem dX6_isField_1 : decode cX6_isField 1 = .ok (.ifCond .lt 15, 3) := by decide +kernel
theorem dX6_isField_4 : decode cX6_isField 4 = .ok (.iload_n 1, 1) := by decide +kernel
theorem dX6_isField_5 : decode cX6_isField 5 = .ok (.aload_n 0, 1) := by decide +kernel
theorem dX6_isField_6 : decode cX6_isField 6 = .ok (.getfield 88, 3) := by decide +kernel
theorem dX6_isField_9 : decode cX6_isField 9 = .ok (.if_icmp .ge 7, 3) := by decide +kernel
theorem dX6_isField_12 : decode cX6_isField 12 = .ok (.iconst 1, 1) := by decide +kernel
theorem dX6_isField_13 : decode cX6_isField 13 = .ok (.goto 4, 3) := by decide +kernel
theorem dX6_isField_16 : decode cX6_isField 16 = .ok (.iconst 0, 1) := by decide +kernel
theorem dX6_isField_17 : decode cX6_isField 17 = .ok (.ireturn, 1) := by decide +kernel
theorem dX6_isSide_0 : decode cX6_isSide 0 = .ok (.iload_n 1, 1) := by decide +kernel
theorem dX6_isSide_1 : decode cX6_isSide 1 = .ok (.ifCond .lt 15, 3) := by decide +kernel
theorem dX6_isSide_4 : decode cX6_isSide 4 = .ok (.iload_n 1, 1) := by decide +kernel
theorem dX6_isSide_5 : decode cX6_isSide 5 = .ok (.aload_n 0, 1) := by decide +kernel
theorem dX6_isSide_6 : decode cX6_isSide 6 = .ok (.getfield 91, 3) := by decide +kernel
theorem dX6_isSide_9 : decode cX6_isSide 9 = .ok (.if_icmp .ge 7, 3) := by decide +kernel
theorem dX6_isSide_12 : decode cX6_isSide 12 = .ok (.iconst 1, 1) := by decide +kernel
theorem dX6_isSide_13 : decode cX6_isSide 13 = .ok (.goto 4, 3) := by decide +kernel
theorem dX6_isSide_16 : decode cX6_isSide 16 = .ok (.iconst 0, 1) := by decide +kernel
theorem dX6_isSide_17 : decode cX6_isSide 17 = .ok (.ireturn, 1) := by decide +kernel
theorem dX6_isOf_0 : decode cX6_isOf 0 = .ok (.aload_n 0, 1) := by decide +kernel
theorem dX6_isOf_1 : decode cX6_isOf 1 = .ok (.getfield 9, 3) := by decide +kernel
theorem dX6_isOf_4 : decode cX6_isOf 4 = .ok (.iload_n 1, 1) := by decide +kernel
theorem dX6_isOf_5 : decode cX6_isOf 5 = .ok (.iaload, 1) := by decide +kernel
theorem dX6_isOf_6 : decode cX6_isOf 6 = .ok (.iload_n 2, 1) := by decide +kernel
theorem dX6_isOf_7 : decode cX6_isOf 7 = .ok (.if_icmp .eq 13, 3) := by decide +kernel
theorem dX6_isOf_10 : decode cX6_isOf 10 = .ok (.aload_n 0, 1) := by decide +kernel
theorem dX6_isOf_11 : decode cX6_isOf 11 = .ok (.getfield 13, 3) := by decide +kernel
theorem dX6_isOf_14 : decode cX6_isOf 14 = .ok (.iload_n 1, 1) := by decide +kernel
theorem dX6_isOf_15 : decode cX6_isOf 15 = .ok (.iaload, 1) := by decide +kernel
theorem dX6_isOf_16 : decode cX6_isOf 16 = .ok (.iload_n 2, 1) := by decide +kernel
theorem dX6_isOf_17 : decode cX6_isOf 17 = .ok (.if_icmp .ne 7, 3) := by decide +kernel
theorem dX6_isOf_20 : decode cX6_isOf 20 = .ok (.iconst 1, 1) := by decide +kernel
theorem dX6_isOf_21 : decode cX6_isOf 21 = .ok (.goto 4, 3) := by decide +kernel
theorem dX6_isOf_24 : decode cX6_isOf 24 = .ok (.iconst 0, 1) := by decide +kernel
theorem dX6_isOf_25 : decode cX6_isOf 25 = .ok (.ireturn, 1) := by decide +kernel
theorem dX6_openSides_0 : decode cX6_openSides 0 = .ok (.iconst 0, 1) := by decide +kernel
theorem dX6_openSides_1 : decode cX6_openSides 1 = .ok (.istore_n 2, 1) := by decide +kernel
theorem dX6_openSides_2 : decode cX6_openSides 2 = .ok (.iconst 0, 1) := by decide +kernel
theorem dX6_openSides_3 : decode cX6_openSides 3 = .ok (.istore_n 3, 1) := by decide +kernel
theorem dX6_openSides_4 : decode cX6_openSides 4 = .ok (.iload_n 3, 1) := by decide +kernel
theorem dX6_openSides_5 : decode cX6_openSides 5 = .ok (.aload_n 0, 1) := by decide +kernel
theorem dX6_openSides_6 : decode cX6_openSides 6 = .ok (.getfield 91, 3) := by decide +kernel
theorem dX6_openSides_9 : decode cX6_openSides 9 = .ok (.if_icmp .ge 35, 3) := by decide +kernel
theorem dX6_openSides_12 : decode cX6_openSides 12 = .ok (.iload_n 2, 1) := by decide +kernel
theorem dX6_openSides_13 : decode cX6_openSides 13 = .ok (.aload_n 0, 1) := by decide +kernel
theorem dX6_openSides_14 : decode cX6_openSides 14 = .ok (.getfield 22, 3) := by decide +kernel
theorem dX6_openSides_17 : decode cX6_openSides 17 = .ok (.iload_n 3, 1) := by decide +kernel
theorem dX6_openSides_18 : decode cX6_openSides 18 = .ok (.baload, 1) := by decide +kernel
theorem dX6_openSides_19 : decode cX6_openSides 19 = .ok (.ifCond .eq 16, 3) := by decide +kernel
theorem dX6_openSides_22 : decode cX6_openSides 22 = .ok (.aload_n 0, 1) := by decide +kernel
theorem dX6_openSides_23 : decode cX6_openSides 23 = .ok (.iload_n 3, 1) := by decide +kernel
theorem dX6_openSides_24 : decode cX6_openSides 24 = .ok (.iload_n 1, 1) := by decide +kernel
theorem dX6_openSides_25 : decode cX6_openSides 25 = .ok (.invokevirtual 94, 3) := by decide +kernel
theorem dX6_openSides_28 : decode cX6_openSides 28 = .ok (.ifCond .eq 7, 3) := by decide +kernel
theorem dX6_openSides_31 : decode cX6_openSides 31 = .ok (.iconst 1, 1) := by decide +kernel
theorem dX6_openSides_32 : decode cX6_openSides 32 = .ok (.goto 4, 3) := by decide +kernel
theorem dX6_openSides_35 : decode cX6_openSides 35 = .ok (.iconst 0, 1) := by decide +kernel
theorem dX6_openSides_36 : decode cX6_openSides 36 = .ok (.iadd, 1) := by decide +kernel
theorem dX6_openSides_37 : decode cX6_openSides 37 = .ok (.istore_n 2, 1) := by decide +kernel
theorem dX6_openSides_38 : decode cX6_openSides 38 = .ok (.iinc 3 1, 3) := by decide +kernel
theorem dX6_openSides_41 : decode cX6_openSides 41 = .ok (.goto (-37), 3) := by decide +kernel
theorem dX6_openSides_44 : decode cX6_openSides 44 = .ok (.iload_n 2, 1) := by decide +kernel
theorem dX6_openSides_45 : decode cX6_openSides 45 = .ok (.ireturn, 1) := by decide +kernel
theorem dX6_closes_0 : decode cX6_closes 0 = .ok (.aload_n 0, 1) := by decide +kernel
theorem dX6_closes_1 : decode cX6_closes 1 = .ok (.aload_n 0, 1) := by decide +kernel
theorem dX6_closes_2 : decode cX6_closes 2 = .ok (.getfield 9, 3) := by decide +kernel
theorem dX6_closes_5 : decode cX6_closes 5 = .ok (.iload_n 1, 1) := by decide +kernel
theorem dX6_closes_6 : decode cX6_closes 6 = .ok (.iaload, 1) := by decide +kernel
theorem dX6_closes_7 : decode cX6_closes 7 = .ok (.invokevirtual 98, 3) := by decide +kernel
theorem dX6_closes_10 : decode cX6_closes 10 = .ok (.iconst 1, 1) := by decide +kernel
theorem dX6_closes_11 : decode cX6_closes 11 = .ok (.if_icmp .ne 7, 3) := by decide +kernel
theorem dX6_closes_14 : decode cX6_closes 14 = .ok (.iconst 1, 1) := by decide +kernel
theorem dX6_closes_15 : decode cX6_closes 15 = .ok (.goto 4, 3) := by decide +kernel
theorem dX6_closes_18 : decode cX6_closes 18 = .ok (.iconst 0, 1) := by decide +kernel
theorem dX6_closes_19 : decode cX6_closes 19 = .ok (.istore_n 2, 1) := by decide +kernel
theorem dX6_closes_20 : decode cX6_closes 20 = .ok (.aload_n 0, 1) := by decide +kernel
theorem dX6_closes_21 : decode cX6_closes 21 = .ok (.getfield 13, 3) := by decide +kernel
theorem dX6_closes_24 : decode cX6_closes 24 = .ok (.iload_n 1, 1) := by decide +kernel
theorem dX6_closes_25 : decode cX6_closes 25 = .ok (.iaload, 1) := by decide +kernel
theorem dX6_closes_26 : decode cX6_closes 26 = .ok (.iconst (-1), 1) := by decide +kernel
theorem dX6_closes_27 : decode cX6_closes 27 = .ok (.if_icmp .eq 20, 3) := by decide +kernel
theorem dX6_closes_30 : decode cX6_closes 30 = .ok (.aload_n 0, 1) := by decide +kernel
theorem dX6_closes_31 : decode cX6_closes 31 = .ok (.aload_n 0, 1) := by decide +kernel
theorem dX6_closes_32 : decode cX6_closes 32 = .ok (.getfield 13, 3) := by decide +kernel
theorem dX6_closes_35 : decode cX6_closes 35 = .ok (.iload_n 1, 1) := by decide +kernel
theorem dX6_closes_36 : decode cX6_closes 36 = .ok (.iaload, 1) := by decide +kernel
theorem dX6_closes_37 : decode cX6_closes 37 = .ok (.invokevirtual 98, 3) := by decide +kernel
theorem dX6_closes_40 : decode cX6_closes 40 = .ok (.iconst 1, 1) := by decide +kernel
theorem dX6_closes_41 : decode cX6_closes 41 = .ok (.if_icmp .ne 6, 3) := by decide +kernel
theorem dX6_closes_44 : decode cX6_closes 44 = .ok (.iinc 2 1, 3) := by decide +kernel
theorem dX6_closes_47 : decode cX6_closes 47 = .ok (.iload_n 2, 1) := by decide +kernel
theorem dX6_closes_48 : decode cX6_closes 48 = .ok (.ireturn, 1) := by decide +kernel
theorem dX6_play_0 : decode cX6_play 0 = .ok (.aload_n 0, 1) := by decide +kernel
theorem dX6_play_1 : decode cX6_play 1 = .ok (.iconst 0, 1) := by decide +kernel
theorem dX6_play_2 : decode cX6_play 2 = .ok (.putfield 84, 3) := by decide +kernel
theorem dX6_play_5 : decode cX6_play 5 = .ok (.iconst 0, 1) := by decide +kernel
theorem dX6_play_6 : decode cX6_play 6 = .ok (.istore_n 1, 1) := by decide +kernel
theorem dX6_play_7 : decode cX6_play 7 = .ok (.iload_n 1, 1) := by decide +kernel
theorem dX6_play_8 : decode cX6_play 8 = .ok (.aload_n 0, 1) := by decide +kernel
theorem dX6_play_9 : decode cX6_play 9 = .ok (.getfield 91, 3) := by decide +kernel
theorem dX6_play_12 : decode cX6_play 12 = .ok (.if_icmp .ge 16, 3) := by decide +kernel
theorem dX6_play_15 : decode cX6_play 15 = .ok (.aload_n 0, 1) := by decide +kernel
theorem dX6_play_16 : decode cX6_play 16 = .ok (.getfield 22, 3) := by decide +kernel
theorem dX6_play_19 : decode cX6_play 19 = .ok (.iload_n 1, 1) := by decide +kernel
theorem dX6_play_20 : decode cX6_play 20 = .ok (.iconst 1, 1) := by decide +kernel
theorem dX6_play_21 : decode cX6_play 21 = .ok (.bastore, 1) := by decide +kernel
theorem dX6_play_22 : decode cX6_play 22 = .ok (.iinc 1 1, 3) := by decide +kernel
theorem dX6_play_25 : decode cX6_play 25 = .ok (.goto (-18), 3) := by decide +kernel
theorem dX6_play_28 : decode cX6_play 28 = .ok (.iconst 0, 1) := by decide +kernel
theorem dX6_play_29 : decode cX6_play 29 = .ok (.istore_n 1, 1) := by decide +kernel
theorem dX6_play_30 : decode cX6_play 30 = .ok (.iload_n 1, 1) := by decide +kernel
theorem dX6_play_31 : decode cX6_play 31 = .ok (.aload_n 0, 1) := by decide +kernel
theorem dX6_play_32 : decode cX6_play 32 = .ok (.getfield 88, 3) := by decide +kernel
theorem dX6_play_35 : decode cX6_play 35 = .ok (.if_icmp .ge 16, 3) := by decide +kernel
theorem dX6_play_38 : decode cX6_play 38 = .ok (.aload_n 0, 1) := by decide +kernel
theorem dX6_play_39 : decode cX6_play 39 = .ok (.getfield 26, 3) := by decide +kernel
theorem dX6_play_42 : decode cX6_play 42 = .ok (.iload_n 1, 1) := by decide +kernel
theorem dX6_play_43 : decode cX6_play 43 = .ok (.iconst (-1), 1) := by decide +kernel
theorem dX6_play_44 : decode cX6_play 44 = .ok (.iastore, 1) := by decide +kernel
theorem dX6_play_45 : decode cX6_play 45 = .ok (.iinc 1 1, 3) := by decide +kernel
theorem dX6_play_48 : decode cX6_play 48 = .ok (.goto (-18), 3) := by decide +kernel
theorem dX6_play_51 : decode cX6_play 51 = .ok (.aload_n 0, 1) := by decide +kernel
theorem dX6_play_52 : decode cX6_play 52 = .ok (.iconst 0, 1) := by decide +kernel
theorem dX6_play_53 : decode cX6_play 53 = .ok (.putfield 102, 3) := by decide +kernel
theorem dX6_play_56 : decode cX6_play 56 = .ok (.iconst 0, 1) := by decide +kernel
theorem dX6_play_57 : decode cX6_play 57 = .ok (.istore_n 1, 1) := by decide +kernel
theorem dX6_play_58 : decode cX6_play 58 = .ok (.iload_n 1, 1) := by decide +kernel
theorem dX6_play_59 : decode cX6_play 59 = .ok (.aload_n 0, 1) := by decide +kernel
theorem dX6_play_60 : decode cX6_play 60 = .ok (.getfield 105, 3) := by decide +kernel
theorem dX6_play_63 : decode cX6_play 63 = .ok (.if_icmp .ge 117, 3) := by decide +kernel
theorem dX6_play_66 : decode cX6_play 66 = .ok (.aload_n 0, 1) := by decide +kernel
theorem dX6_play_67 : decode cX6_play 67 = .ok (.getfield 19, 3) := by decide +kernel
theorem dX6_play_70 : decode cX6_play 70 = .ok (.iload_n 1, 1) := by decide +kernel
theorem dX6_play_71 : decode cX6_play 71 = .ok (.iaload, 1) := by decide +kernel
theorem dX6_play_72 : decode cX6_play 72 = .ok (.istore_n 2, 1) := by decide +kernel
theorem dX6_play_73 : decode cX6_play 73 = .ok (.aload_n 0, 1) := by decide +kernel
theorem dX6_play_74 : decode cX6_play 74 = .ok (.iload_n 2, 1) := by decide +kernel
theorem dX6_play_75 : decode cX6_play 75 = .ok (.invokevirtual 108, 3) := by decide +kernel
theorem dX6_play_78 : decode cX6_play 78 = .ok (.istore_n 3, 1) := by decide +kernel
theorem dX6_play_79 : decode cX6_play 79 = .ok (.aload_n 0, 1) := by decide +kernel
theorem dX6_play_80 : decode cX6_play 80 = .ok (.getfield 22, 3) := by decide +kernel
theorem dX6_play_83 : decode cX6_play 83 = .ok (.iload_n 2, 1) := by decide +kernel
theorem dX6_play_84 : decode cX6_play 84 = .ok (.iconst 0, 1) := by decide +kernel
theorem dX6_play_85 : decode cX6_play 85 = .ok (.bastore, 1) := by decide +kernel
theorem dX6_play_86 : decode cX6_play 86 = .ok (.iload_n 3, 1) := by decide +kernel
theorem dX6_play_87 : decode cX6_play 87 = .ok (.ifCond .le 31, 3) := by decide +kernel
theorem dX6_play_90 : decode cX6_play 90 = .ok (.aload_n 0, 1) := by decide +kernel
theorem dX6_play_91 : decode cX6_play 91 = .ok (.aload_n 0, 1) := by decide +kernel
theorem dX6_play_92 : decode cX6_play 92 = .ok (.getfield 9, 3) := by decide +kernel
theorem dX6_play_95 : decode cX6_play 95 = .ok (.iload_n 2, 1) := by decide +kernel
theorem dX6_play_96 : decode cX6_play 96 = .ok (.iaload, 1) := by decide +kernel
theorem dX6_play_97 : decode cX6_play 97 = .ok (.invokevirtual 98, 3) := by decide +kernel
theorem dX6_play_100 : decode cX6_play 100 = .ok (.ifCond .ne 18, 3) := by decide +kernel
theorem dX6_play_103 : decode cX6_play 103 = .ok (.aload_n 0, 1) := by decide +kernel
theorem dX6_play_104 : decode cX6_play 104 = .ok (.getfield 26, 3) := by decide +kernel
theorem dX6_play_107 : decode cX6_play 107 = .ok (.aload_n 0, 1) := by decide +kernel
theorem dX6_play_108 : decode cX6_play 108 = .ok (.getfield 9, 3) := by decide +kernel
theorem dX6_play_111 : decode cX6_play 111 = .ok (.iload_n 2, 1) := by decide +kernel
theorem dX6_play_112 : decode cX6_play 112 = .ok (.iaload, 1) := by decide +kernel
theorem dX6_play_113 : decode cX6_play 113 = .ok (.aload_n 0, 1) := by decide +kernel
theorem dX6_play_114 : decode cX6_play 114 = .ok (.getfield 102, 3) := by decide +kernel
theorem dX6_play_117 : decode cX6_play 117 = .ok (.iastore, 1) := by decide +kernel
theorem dX6_play_118 : decode cX6_play 118 = .ok (.iload_n 3, 1) := by decide +kernel
theorem dX6_play_119 : decode cX6_play 119 = .ok (.ifCond .le 41, 3) := by decide +kernel
theorem dX6_play_122 : decode cX6_play 122 = .ok (.aload_n 0, 1) := by decide +kernel
theorem dX6_play_123 : decode cX6_play 123 = .ok (.getfield 13, 3) := by decide +kernel
theorem dX6_play_126 : decode cX6_play 126 = .ok (.iload_n 2, 1) := by decide +kernel
theorem dX6_play_127 : decode cX6_play 127 = .ok (.iaload, 1) := by decide +kernel
theorem dX6_play_128 : decode cX6_play 128 = .ok (.iconst (-1), 1) := by decide +kernel
theorem dX6_play_129 : decode cX6_play 129 = .ok (.if_icmp .eq 31, 3) := by decide +kernel
theorem dX6_play_132 : decode cX6_play 132 = .ok (.aload_n 0, 1) := by decide +kernel
theorem dX6_play_133 : decode cX6_play 133 = .ok (.aload_n 0, 1) := by decide +kernel
theorem dX6_play_134 : decode cX6_play 134 = .ok (.getfield 13, 3) := by decide +kernel
theorem dX6_play_137 : decode cX6_play 137 = .ok (.iload_n 2, 1) := by decide +kernel
theorem dX6_play_138 : decode cX6_play 138 = .ok (.iaload, 1) := by decide +kernel
theorem dX6_play_139 : decode cX6_play 139 = .ok (.invokevirtual 98, 3) := by decide +kernel
theorem dX6_play_142 : decode cX6_play 142 = .ok (.ifCond .ne 18, 3) := by decide +kernel
theorem dX6_play_145 : decode cX6_play 145 = .ok (.aload_n 0, 1) := by decide +kernel
theorem dX6_play_146 : decode cX6_play 146 = .ok (.getfield 26, 3) := by decide +kernel
theorem dX6_play_149 : decode cX6_play 149 = .ok (.aload_n 0, 1) := by decide +kernel
theorem dX6_play_150 : decode cX6_play 150 = .ok (.getfield 13, 3) := by decide +kernel
theorem dX6_play_153 : decode cX6_play 153 = .ok (.iload_n 2, 1) := by decide +kernel
theorem dX6_play_154 : decode cX6_play 154 = .ok (.iaload, 1) := by decide +kernel
theorem dX6_play_155 : decode cX6_play 155 = .ok (.aload_n 0, 1) := by decide +kernel
theorem dX6_play_156 : decode cX6_play 156 = .ok (.getfield 102, 3) := by decide +kernel
theorem dX6_play_159 : decode cX6_play 159 = .ok (.iastore, 1) := by decide +kernel
theorem dX6_play_160 : decode cX6_play 160 = .ok (.iload_n 3, 1) := by decide +kernel
theorem dX6_play_161 : decode cX6_play 161 = .ok (.ifCond .ne 13, 3) := by decide +kernel
theorem dX6_play_164 : decode cX6_play 164 = .ok (.aload_n 0, 1) := by decide +kernel
theorem dX6_play_165 : decode cX6_play 165 = .ok (.iconst 1, 1) := by decide +kernel
theorem dX6_play_166 : decode cX6_play 166 = .ok (.aload_n 0, 1) := by decide +kernel
theorem dX6_play_167 : decode cX6_play 167 = .ok (.getfield 102, 3) := by decide +kernel
theorem dX6_play_170 : decode cX6_play 170 = .ok (.isub, 1) := by decide +kernel
theorem dX6_play_171 : decode cX6_play 171 = .ok (.putfield 102, 3) := by decide +kernel
theorem dX6_play_174 : decode cX6_play 174 = .ok (.iinc 1 1, 3) := by decide +kernel
theorem dX6_play_177 : decode cX6_play 177 = .ok (.goto (-119), 3) := by decide +kernel
theorem dX6_play_180 : decode cX6_play 180 = .ok (.return_, 1) := by decide +kernel
theorem dX6_clear_0 : decode cX6_clear 0 = .ok (.aload_n 0, 1) := by decide +kernel
theorem dX6_clear_1 : decode cX6_clear 1 = .ok (.iconst 0, 1) := by decide +kernel
theorem dX6_clear_2 : decode cX6_clear 2 = .ok (.putfield 84, 3) := by decide +kernel
theorem dX6_clear_5 : decode cX6_clear 5 = .ok (.aload_n 0, 1) := by decide +kernel
theorem dX6_clear_6 : decode cX6_clear 6 = .ok (.iconst 0, 1) := by decide +kernel
theorem dX6_clear_7 : decode cX6_clear 7 = .ok (.putfield 88, 3) := by decide +kernel
theorem dX6_clear_10 : decode cX6_clear 10 = .ok (.aload_n 0, 1) := by decide +kernel
theorem dX6_clear_11 : decode cX6_clear 11 = .ok (.iconst 0, 1) := by decide +kernel
theorem dX6_clear_12 : decode cX6_clear 12 = .ok (.putfield 91, 3) := by decide +kernel
theorem dX6_clear_15 : decode cX6_clear 15 = .ok (.aload_n 0, 1) := by decide +kernel
theorem dX6_clear_16 : decode cX6_clear 16 = .ok (.iconst 0, 1) := by decide +kernel
theorem dX6_clear_17 : decode cX6_clear 17 = .ok (.putfield 105, 3) := by decide +kernel
theorem dX6_clear_20 : decode cX6_clear 20 = .ok (.aload_n 0, 1) := by decide +kernel
theorem dX6_clear_21 : decode cX6_clear 21 = .ok (.iconst 0, 1) := by decide +kernel
theorem dX6_clear_22 : decode cX6_clear 22 = .ok (.putfield 111, 3) := by decide +kernel
theorem dX6_clear_25 : decode cX6_clear 25 = .ok (.return_, 1) := by decide +kernel
theorem dX6_field_0 : decode cX6_field 0 = .ok (.aload_n 0, 1) := by decide +kernel
theorem dX6_field_1 : decode cX6_field 1 = .ok (.iconst 0, 1) := by decide +kernel
theorem dX6_field_2 : decode cX6_field 2 = .ok (.putfield 84, 3) := by decide +kernel
theorem dX6_field_5 : decode cX6_field 5 = .ok (.aload_n 0, 1) := by decide +kernel
theorem dX6_field_6 : decode cX6_field 6 = .ok (.getfield 88, 3) := by decide +kernel
theorem dX6_field_9 : decode cX6_field 9 = .ok (.sipush 200, 3) := by decide +kernel
theorem dX6_field_12 : decode cX6_field 12 = .ok (.if_icmp .eq 10, 3) := by decide +kernel
theorem dX6_field_15 : decode cX6_field 15 = .ok (.aload_n 0, 1) := by decide +kernel
theorem dX6_field_16 : decode cX6_field 16 = .ok (.getfield 111, 3) := by decide +kernel
theorem dX6_field_19 : decode cX6_field 19 = .ok (.ifCond .le 5, 3) := by decide +kernel
theorem dX6_field_22 : decode cX6_field 22 = .ok (.iconst (-1), 1) := by decide +kernel
theorem dX6_field_23 : decode cX6_field 23 = .ok (.ireturn, 1) := by decide +kernel
theorem dX6_field_24 : decode cX6_field 24 = .ok (.aload_n 0, 1) := by decide +kernel
theorem dX6_field_25 : decode cX6_field 25 = .ok (.getfield 16, 3) := by decide +kernel
theorem dX6_field_28 : decode cX6_field 28 = .ok (.aload_n 0, 1) := by decide +kernel
theorem dX6_field_29 : decode cX6_field 29 = .ok (.getfield 88, 3) := by decide +kernel
theorem dX6_field_32 : decode cX6_field 32 = .ok (.iconst 0, 1) := by decide +kernel
theorem dX6_field_33 : decode cX6_field 33 = .ok (.iastore, 1) := by decide +kernel
theorem dX6_field_34 : decode cX6_field 34 = .ok (.aload_n 0, 1) := by decide +kernel
theorem dX6_field_35 : decode cX6_field 35 = .ok (.dup, 1) := by decide +kernel
theorem dX6_field_36 : decode cX6_field 36 = .ok (.getfield 88, 3) := by decide +kernel
theorem dX6_field_39 : decode cX6_field 39 = .ok (.iconst 1, 1) := by decide +kernel
theorem dX6_field_40 : decode cX6_field 40 = .ok (.iadd, 1) := by decide +kernel
theorem dX6_field_41 : decode cX6_field 41 = .ok (.putfield 88, 3) := by decide +kernel
theorem dX6_field_44 : decode cX6_field 44 = .ok (.aload_n 0, 1) := by decide +kernel
theorem dX6_field_45 : decode cX6_field 45 = .ok (.getfield 88, 3) := by decide +kernel
theorem dX6_field_48 : decode cX6_field 48 = .ok (.iconst 1, 1) := by decide +kernel
theorem dX6_field_49 : decode cX6_field 49 = .ok (.isub, 1) := by decide +kernel
theorem dX6_field_50 : decode cX6_field 50 = .ok (.ireturn, 1) := by decide +kernel
theorem dX6_side_0 : decode cX6_side 0 = .ok (.aload_n 0, 1) := by decide +kernel
theorem dX6_side_1 : decode cX6_side 1 = .ok (.iconst 0, 1) := by decide +kernel
theorem dX6_side_2 : decode cX6_side 2 = .ok (.putfield 84, 3) := by decide +kernel
theorem dX6_side_5 : decode cX6_side 5 = .ok (.aload_n 0, 1) := by decide +kernel
theorem dX6_side_6 : decode cX6_side 6 = .ok (.getfield 91, 3) := by decide +kernel
theorem dX6_side_9 : decode cX6_side 9 = .ok (.sipush 500, 3) := by decide +kernel
theorem dX6_side_12 : decode cX6_side 12 = .ok (.if_icmp .eq 61, 3) := by decide +kernel
theorem dX6_side_15 : decode cX6_side 15 = .ok (.aload_n 0, 1) := by decide +kernel
theorem dX6_side_16 : decode cX6_side 16 = .ok (.getfield 111, 3) := by decide +kernel
theorem dX6_side_19 : decode cX6_side 19 = .ok (.ifCond .gt 54, 3) := by decide +kernel
theorem dX6_side_22 : decode cX6_side 22 = .ok (.aload_n 0, 1) := by decide +kernel
theorem dX6_side_23 : decode cX6_side 23 = .ok (.iload_n 1, 1) := by decide +kernel
theorem dX6_side_24 : decode cX6_side 24 = .ok (.invokevirtual 114, 3) := by decide +kernel
theorem dX6_side_27 : decode cX6_side 27 = .ok (.ifCond .eq 46, 3) := by decide +kernel
theorem dX6_side_30 : decode cX6_side 30 = .ok (.iload_n 2, 1) := by decide +kernel
theorem dX6_side_31 : decode cX6_side 31 = .ok (.iconst (-1), 1) := by decide +kernel
theorem dX6_side_32 : decode cX6_side 32 = .ok (.if_icmp .eq 11, 3) := by decide +kernel
theorem dX6_side_35 : decode cX6_side 35 = .ok (.aload_n 0, 1) := by decide +kernel
theorem dX6_side_36 : decode cX6_side 36 = .ok (.iload_n 2, 1) := by decide +kernel
theorem dX6_side_37 : decode cX6_side 37 = .ok (.invokevirtual 114, 3) := by decide +kernel
theorem dX6_side_40 : decode cX6_side 40 = .ok (.ifCond .eq 33, 3) := by decide +kernel
theorem dX6_side_43 : decode cX6_side 43 = .ok (.iload_n 1, 1) := by decide +kernel
theorem dX6_side_44 : decode cX6_side 44 = .ok (.iload_n 2, 1) := by decide +kernel
theorem dX6_side_45 : decode cX6_side 45 = .ok (.if_icmp .eq 28, 3) := by decide +kernel
theorem dX6_side_48 : decode cX6_side 48 = .ok (.aload_n 0, 1) := by decide +kernel
theorem dX6_side_49 : decode cX6_side 49 = .ok (.getfield 16, 3) := by decide +kernel
theorem dX6_side_52 : decode cX6_side 52 = .ok (.iload_n 1, 1) := by decide +kernel
theorem dX6_side_53 : decode cX6_side 53 = .ok (.iaload, 1) := by decide +kernel
theorem dX6_side_54 : decode cX6_side 54 = .ok (.iconst 4, 1) := by decide +kernel
theorem dX6_side_55 : decode cX6_side 55 = .ok (.if_icmp .eq 18, 3) := by decide +kernel
theorem dX6_side_58 : decode cX6_side 58 = .ok (.iload_n 2, 1) := by decide +kernel
theorem dX6_side_59 : decode cX6_side 59 = .ok (.iconst (-1), 1) := by decide +kernel
theorem dX6_side_60 : decode cX6_side 60 = .ok (.if_icmp .eq 15, 3) := by decide +kernel
theorem dX6_side_63 : decode cX6_side 63 = .ok (.aload_n 0, 1) := by decide +kernel
theorem dX6_side_64 : decode cX6_side 64 = .ok (.getfield 16, 3) := by decide +kernel
theorem dX6_side_67 : decode cX6_side 67 = .ok (.iload_n 2, 1) := by decide +kernel
theorem dX6_side_68 : decode cX6_side 68 = .ok (.iaload, 1) := by decide +kernel
theorem dX6_side_69 : decode cX6_side 69 = .ok (.iconst 4, 1) := by decide +kernel
theorem dX6_side_70 : decode cX6_side 70 = .ok (.if_icmp .ne 5, 3) := by decide +kernel
theorem dX6_side_73 : decode cX6_side 73 = .ok (.iconst (-1), 1) := by decide +kernel
theorem dX6_side_74 : decode cX6_side 74 = .ok (.ireturn, 1) := by decide +kernel
theorem dX6_side_75 : decode cX6_side 75 = .ok (.aload_n 0, 1) := by decide +kernel
theorem dX6_side_76 : decode cX6_side 76 = .ok (.getfield 9, 3) := by decide +kernel
theorem dX6_side_79 : decode cX6_side 79 = .ok (.aload_n 0, 1) := by decide +kernel
theorem dX6_side_80 : decode cX6_side 80 = .ok (.getfield 91, 3) := by decide +kernel
theorem dX6_side_83 : decode cX6_side 83 = .ok (.iload_n 1, 1) := by decide +kernel
theorem dX6_side_84 : decode cX6_side 84 = .ok (.iastore, 1) := by decide +kernel
theorem dX6_side_85 : decode cX6_side 85 = .ok (.aload_n 0, 1) := by decide +kernel
theorem dX6_side_86 : decode cX6_side 86 = .ok (.getfield 13, 3) := by decide +kernel
theorem dX6_side_89 : decode cX6_side 89 = .ok (.aload_n 0, 1) := by decide +kernel
theorem dX6_side_90 : decode cX6_side 90 = .ok (.getfield 91, 3) := by decide +kernel
theorem dX6_side_93 : decode cX6_side 93 = .ok (.iload_n 2, 1) := by decide +kernel
theorem dX6_side_94 : decode cX6_side 94 = .ok (.iastore, 1) := by decide +kernel
theorem dX6_side_95 : decode cX6_side 95 = .ok (.aload_n 0, 1) := by decide +kernel
theorem dX6_side_96 : decode cX6_side 96 = .ok (.getfield 16, 3) := by decide +kernel
theorem dX6_side_99 : decode cX6_side 99 = .ok (.iload_n 1, 1) := by decide +kernel
theorem dX6_side_100 : decode cX6_side 100 = .ok (.dup2, 1) := by decide +kernel
theorem dX6_side_101 : decode cX6_side 101 = .ok (.iaload, 1) := by decide +kernel
theorem dX6_side_102 : decode cX6_side 102 = .ok (.iconst 1, 1) := by decide +kernel
theorem dX6_side_103 : decode cX6_side 103 = .ok (.iadd, 1) := by decide +kernel
theorem dX6_side_104 : decode cX6_side 104 = .ok (.iastore, 1) := by decide +kernel
theorem dX6_side_105 : decode cX6_side 105 = .ok (.iload_n 2, 1) := by decide +kernel
theorem dX6_side_106 : decode cX6_side 106 = .ok (.iconst (-1), 1) := by decide +kernel
theorem dX6_side_107 : decode cX6_side 107 = .ok (.if_icmp .eq 13, 3) := by decide +kernel
theorem dX6_side_110 : decode cX6_side 110 = .ok (.aload_n 0, 1) := by decide +kernel
theorem dX6_side_111 : decode cX6_side 111 = .ok (.getfield 16, 3) := by decide +kernel
theorem dX6_side_114 : decode cX6_side 114 = .ok (.iload_n 2, 1) := by decide +kernel
theorem dX6_side_115 : decode cX6_side 115 = .ok (.dup2, 1) := by decide +kernel
theorem dX6_side_116 : decode cX6_side 116 = .ok (.iaload, 1) := by decide +kernel
theorem dX6_side_117 : decode cX6_side 117 = .ok (.iconst 1, 1) := by decide +kernel
theorem dX6_side_118 : decode cX6_side 118 = .ok (.iadd, 1) := by decide +kernel
theorem dX6_side_119 : decode cX6_side 119 = .ok (.iastore, 1) := by decide +kernel
theorem dX6_side_120 : decode cX6_side 120 = .ok (.aload_n 0, 1) := by decide +kernel
theorem dX6_side_121 : decode cX6_side 121 = .ok (.dup, 1) := by decide +kernel
theorem dX6_side_122 : decode cX6_side 122 = .ok (.getfield 91, 3) := by decide +kernel
theorem dX6_side_125 : decode cX6_side 125 = .ok (.iconst 1, 1) := by decide +kernel
theorem dX6_side_126 : decode cX6_side 126 = .ok (.iadd, 1) := by decide +kernel
theorem dX6_side_127 : decode cX6_side 127 = .ok (.putfield 91, 3) := by decide +kernel
theorem dX6_side_130 : decode cX6_side 130 = .ok (.aload_n 0, 1) := by decide +kernel
theorem dX6_side_131 : decode cX6_side 131 = .ok (.getfield 91, 3) := by decide +kernel
theorem dX6_side_134 : decode cX6_side 134 = .ok (.iconst 1, 1) := by decide +kernel
theorem dX6_side_135 : decode cX6_side 135 = .ok (.isub, 1) := by decide +kernel
theorem dX6_side_136 : decode cX6_side 136 = .ok (.ireturn, 1) := by decide +kernel
theorem dX6_sideOf_0 : decode cX6_sideOf 0 = .ok (.aload_n 0, 1) := by decide +kernel
theorem dX6_sideOf_1 : decode cX6_sideOf 1 = .ok (.getfield 9, 3) := by decide +kernel
theorem dX6_sideOf_4 : decode cX6_sideOf 4 = .ok (.aload_n 0, 1) := by decide +kernel
theorem dX6_sideOf_5 : decode cX6_sideOf 5 = .ok (.getfield 91, 3) := by decide +kernel
theorem dX6_sideOf_8 : decode cX6_sideOf 8 = .ok (.iload_n 1, 1) := by decide +kernel
theorem dX6_sideOf_9 : decode cX6_sideOf 9 = .ok (.iconst (-1), 1) := by decide +kernel
theorem dX6_sideOf_10 : decode cX6_sideOf 10 = .ok (.if_icmp .eq 7, 3) := by decide +kernel
theorem dX6_sideOf_13 : decode cX6_sideOf 13 = .ok (.iload_n 1, 1) := by decide +kernel
theorem dX6_sideOf_14 : decode cX6_sideOf 14 = .ok (.goto 4, 3) := by decide +kernel
theorem dX6_sideOf_17 : decode cX6_sideOf 17 = .ok (.iload_n 2, 1) := by decide +kernel
theorem dX6_sideOf_18 : decode cX6_sideOf 18 = .ok (.iastore, 1) := by decide +kernel
theorem dX6_sideOf_19 : decode cX6_sideOf 19 = .ok (.aload_n 0, 1) := by decide +kernel
theorem dX6_sideOf_20 : decode cX6_sideOf 20 = .ok (.getfield 13, 3) := by decide +kernel
theorem dX6_sideOf_23 : decode cX6_sideOf 23 = .ok (.aload_n 0, 1) := by decide +kernel
theorem dX6_sideOf_24 : decode cX6_sideOf 24 = .ok (.getfield 91, 3) := by decide +kernel
theorem dX6_sideOf_27 : decode cX6_sideOf 27 = .ok (.iload_n 1, 1) := by decide +kernel
theorem dX6_sideOf_28 : decode cX6_sideOf 28 = .ok (.iconst (-1), 1) := by decide +kernel
theorem dX6_sideOf_29 : decode cX6_sideOf 29 = .ok (.if_icmp .eq 7, 3) := by decide +kernel
theorem dX6_sideOf_32 : decode cX6_sideOf 32 = .ok (.iload_n 2, 1) := by decide +kernel
theorem dX6_sideOf_33 : decode cX6_sideOf 33 = .ok (.goto 4, 3) := by decide +kernel
theorem dX6_sideOf_36 : decode cX6_sideOf 36 = .ok (.iconst (-1), 1) := by decide +kernel
theorem dX6_sideOf_37 : decode cX6_sideOf 37 = .ok (.iastore, 1) := by decide +kernel
theorem dX6_sideOf_38 : decode cX6_sideOf 38 = .ok (.aload_n 0, 1) := by decide +kernel
theorem dX6_sideOf_39 : decode cX6_sideOf 39 = .ok (.getfield 16, 3) := by decide +kernel
theorem dX6_sideOf_42 : decode cX6_sideOf 42 = .ok (.aload_n 0, 1) := by decide +kernel
theorem dX6_sideOf_43 : decode cX6_sideOf 43 = .ok (.getfield 9, 3) := by decide +kernel
theorem dX6_sideOf_46 : decode cX6_sideOf 46 = .ok (.aload_n 0, 1) := by decide +kernel
theorem dX6_sideOf_47 : decode cX6_sideOf 47 = .ok (.getfield 91, 3) := by decide +kernel
theorem dX6_sideOf_50 : decode cX6_sideOf 50 = .ok (.iaload, 1) := by decide +kernel
theorem dX6_sideOf_51 : decode cX6_sideOf 51 = .ok (.dup2, 1) := by decide +kernel
theorem dX6_sideOf_52 : decode cX6_sideOf 52 = .ok (.iaload, 1) := by decide +kernel
theorem dX6_sideOf_53 : decode cX6_sideOf 53 = .ok (.iconst 1, 1) := by decide +kernel
theorem dX6_sideOf_54 : decode cX6_sideOf 54 = .ok (.iadd, 1) := by decide +kernel
theorem dX6_sideOf_55 : decode cX6_sideOf 55 = .ok (.iastore, 1) := by decide +kernel
theorem dX6_sideOf_56 : decode cX6_sideOf 56 = .ok (.aload_n 0, 1) := by decide +kernel
theorem dX6_sideOf_57 : decode cX6_sideOf 57 = .ok (.getfield 13, 3) := by decide +kernel
theorem dX6_sideOf_60 : decode cX6_sideOf 60 = .ok (.aload_n 0, 1) := by decide +kernel
theorem dX6_sideOf_61 : decode cX6_sideOf 61 = .ok (.getfield 91, 3) := by decide +kernel
theorem dX6_sideOf_64 : decode cX6_sideOf 64 = .ok (.iaload, 1) := by decide +kernel
theorem dX6_sideOf_65 : decode cX6_sideOf 65 = .ok (.iconst (-1), 1) := by decide +kernel
theorem dX6_sideOf_66 : decode cX6_sideOf 66 = .ok (.if_icmp .eq 21, 3) := by decide +kernel
theorem dX6_sideOf_69 : decode cX6_sideOf 69 = .ok (.aload_n 0, 1) := by decide +kernel
theorem dX6_sideOf_70 : decode cX6_sideOf 70 = .ok (.getfield 16, 3) := by decide +kernel
theorem dX6_sideOf_73 : decode cX6_sideOf 73 = .ok (.aload_n 0, 1) := by decide +kernel
theorem dX6_sideOf_74 : decode cX6_sideOf 74 = .ok (.getfield 13, 3) := by decide +kernel
theorem dX6_sideOf_77 : decode cX6_sideOf 77 = .ok (.aload_n 0, 1) := by decide +kernel
theorem dX6_sideOf_78 : decode cX6_sideOf 78 = .ok (.getfield 91, 3) := by decide +kernel
theorem dX6_sideOf_81 : decode cX6_sideOf 81 = .ok (.iaload, 1) := by decide +kernel
theorem dX6_sideOf_82 : decode cX6_sideOf 82 = .ok (.dup2, 1) := by decide +kernel
theorem dX6_sideOf_83 : decode cX6_sideOf 83 = .ok (.iaload, 1) := by decide +kernel
theorem dX6_sideOf_84 : decode cX6_sideOf 84 = .ok (.iconst 1, 1) := by decide +kernel
theorem dX6_sideOf_85 : decode cX6_sideOf 85 = .ok (.iadd, 1) := by decide +kernel
theorem dX6_sideOf_86 : decode cX6_sideOf 86 = .ok (.iastore, 1) := by decide +kernel
theorem dX6_sideOf_87 : decode cX6_sideOf 87 = .ok (.aload_n 0, 1) := by decide +kernel
theorem dX6_sideOf_88 : decode cX6_sideOf 88 = .ok (.dup, 1) := by decide +kernel
theorem dX6_sideOf_89 : decode cX6_sideOf 89 = .ok (.getfield 91, 3) := by decide +kernel
theorem dX6_sideOf_92 : decode cX6_sideOf 92 = .ok (.iconst 1, 1) := by decide +kernel
theorem dX6_sideOf_93 : decode cX6_sideOf 93 = .ok (.iadd, 1) := by decide +kernel
theorem dX6_sideOf_94 : decode cX6_sideOf 94 = .ok (.putfield 91, 3) := by decide +kernel
theorem dX6_sideOf_97 : decode cX6_sideOf 97 = .ok (.return_, 1) := by decide +kernel
theorem dX6_grid_0 : decode cX6_grid 0 = .ok (.aload_n 0, 1) := by decide +kernel
theorem dX6_grid_1 : decode cX6_grid 1 = .ok (.iconst 0, 1) := by decide +kernel
theorem dX6_grid_2 : decode cX6_grid 2 = .ok (.putfield 84, 3) := by decide +kernel
theorem dX6_grid_5 : decode cX6_grid 5 = .ok (.iload_n 1, 1) := by decide +kernel
theorem dX6_grid_6 : decode cX6_grid 6 = .ok (.iconst 1, 1) := by decide +kernel
theorem dX6_grid_7 : decode cX6_grid 7 = .ok (.if_icmp .lt 20, 3) := by decide +kernel
theorem dX6_grid_10 : decode cX6_grid 10 = .ok (.iload_n 1, 1) := by decide +kernel
theorem dX6_grid_11 : decode cX6_grid 11 = .ok (.bipush 12, 2) := by decide +kernel
theorem dX6_grid_13 : decode cX6_grid 13 = .ok (.if_icmp .gt 14, 3) := by decide +kernel
theorem dX6_grid_16 : decode cX6_grid 16 = .ok (.iload_n 2, 1) := by decide +kernel
theorem dX6_grid_17 : decode cX6_grid 17 = .ok (.iconst 1, 1) := by decide +kernel
theorem dX6_grid_18 : decode cX6_grid 18 = .ok (.if_icmp .lt 9, 3) := by decide +kernel
theorem dX6_grid_21 : decode cX6_grid 21 = .ok (.iload_n 2, 1) := by decide +kernel
theorem dX6_grid_22 : decode cX6_grid 22 = .ok (.bipush 12, 2) := by decide +kernel
theorem dX6_grid_24 : decode cX6_grid 24 = .ok (.if_icmp .le 5, 3) := by decide +kernel
theorem dX6_grid_27 : decode cX6_grid 27 = .ok (.iconst 0, 1) := by decide +kernel
theorem dX6_grid_28 : decode cX6_grid 28 = .ok (.ireturn, 1) := by decide +kernel
theorem dX6_grid_29 : decode cX6_grid 29 = .ok (.aload_n 0, 1) := by decide +kernel
theorem dX6_grid_30 : decode cX6_grid 30 = .ok (.invokevirtual 118, 3) := by decide +kernel
theorem dX6_grid_33 : decode cX6_grid 33 = .ok (.aload_n 0, 1) := by decide +kernel
theorem dX6_grid_34 : decode cX6_grid 34 = .ok (.iload_n 1, 1) := by decide +kernel
theorem dX6_grid_35 : decode cX6_grid 35 = .ok (.iload_n 2, 1) := by decide +kernel
theorem dX6_grid_36 : decode cX6_grid 36 = .ok (.imul, 1) := by decide +kernel
theorem dX6_grid_37 : decode cX6_grid 37 = .ok (.putfield 88, 3) := by decide +kernel
theorem dX6_grid_40 : decode cX6_grid 40 = .ok (.iconst 0, 1) := by decide +kernel
theorem dX6_grid_41 : decode cX6_grid 41 = .ok (.istore_n 3, 1) := by decide +kernel
theorem dX6_grid_42 : decode cX6_grid 42 = .ok (.iload_n 3, 1) := by decide +kernel
theorem dX6_grid_43 : decode cX6_grid 43 = .ok (.aload_n 0, 1) := by decide +kernel
theorem dX6_grid_44 : decode cX6_grid 44 = .ok (.getfield 88, 3) := by decide +kernel
theorem dX6_grid_47 : decode cX6_grid 47 = .ok (.if_icmp .ge 16, 3) := by decide +kernel
theorem dX6_grid_50 : decode cX6_grid 50 = .ok (.aload_n 0, 1) := by decide +kernel
theorem dX6_grid_51 : decode cX6_grid 51 = .ok (.getfield 16, 3) := by decide +kernel
theorem dX6_grid_54 : decode cX6_grid 54 = .ok (.iload_n 3, 1) := by decide +kernel
theorem dX6_grid_55 : decode cX6_grid 55 = .ok (.iconst 0, 1) := by decide +kernel
theorem dX6_grid_56 : decode cX6_grid 56 = .ok (.iastore, 1) := by decide +kernel
theorem dX6_grid_57 : decode cX6_grid 57 = .ok (.iinc 3 1, 3) := by decide +kernel
theorem dX6_grid_60 : decode cX6_grid 60 = .ok (.goto (-18), 3) := by decide +kernel
theorem dX6_grid_63 : decode cX6_grid 63 = .ok (.iconst 0, 1) := by decide +kernel
theorem dX6_grid_64 : decode cX6_grid 64 = .ok (.istore_n 3, 1) := by decide +kernel
theorem dX6_grid_65 : decode cX6_grid 65 = .ok (.iload_n 3, 1) := by decide +kernel
theorem dX6_grid_66 : decode cX6_grid 66 = .ok (.iload_n 1, 1) := by decide +kernel
theorem dX6_grid_67 : decode cX6_grid 67 = .ok (.if_icmp .gt 59, 3) := by decide +kernel
theorem dX6_grid_70 : decode cX6_grid 70 = .ok (.iconst 0, 1) := by decide +kernel
theorem dX6_grid_71 : decode cX6_grid 71 = .ok (.istore 4, 2) := by decide +kernel
theorem dX6_grid_73 : decode cX6_grid 73 = .ok (.iload 4, 2) := by decide +kernel
theorem dX6_grid_75 : decode cX6_grid 75 = .ok (.iload_n 2, 1) := by decide +kernel
theorem dX6_grid_76 : decode cX6_grid 76 = .ok (.if_icmp .ge 44, 3) := by decide +kernel
theorem dX6_grid_79 : decode cX6_grid 79 = .ok (.aload_n 0, 1) := by decide +kernel
theorem dX6_grid_80 : decode cX6_grid 80 = .ok (.iload_n 3, 1) := by decide +kernel
theorem dX6_grid_81 : decode cX6_grid 81 = .ok (.ifCond .le 14, 3) := by decide +kernel
theorem dX6_grid_84 : decode cX6_grid 84 = .ok (.iload_n 2, 1) := by decide +kernel
theorem dX6_grid_85 : decode cX6_grid 85 = .ok (.iload_n 3, 1) := by decide +kernel
theorem dX6_grid_86 : decode cX6_grid 86 = .ok (.iconst 1, 1) := by decide +kernel
theorem dX6_grid_87 : decode cX6_grid 87 = .ok (.isub, 1) := by decide +kernel
theorem dX6_grid_88 : decode cX6_grid 88 = .ok (.imul, 1) := by decide +kernel
theorem dX6_grid_89 : decode cX6_grid 89 = .ok (.iload 4, 2) := by decide +kernel
theorem dX6_grid_91 : decode cX6_grid 91 = .ok (.iadd, 1) := by decide +kernel
theorem dX6_grid_92 : decode cX6_grid 92 = .ok (.goto 4, 3) := by decide +kernel
theorem dX6_grid_95 : decode cX6_grid 95 = .ok (.iconst (-1), 1) := by decide +kernel
theorem dX6_grid_96 : decode cX6_grid 96 = .ok (.iload_n 3, 1) := by decide +kernel
theorem dX6_grid_97 : decode cX6_grid 97 = .ok (.iload_n 1, 1) := by decide +kernel
theorem dX6_grid_98 : decode cX6_grid 98 = .ok (.if_icmp .ge 12, 3) := by decide +kernel
theorem dX6_grid_101 : decode cX6_grid 101 = .ok (.iload_n 2, 1) := by decide +kernel
theorem dX6_grid_102 : decode cX6_grid 102 = .ok (.iload_n 3, 1) := by decide +kernel
theorem dX6_grid_103 : decode cX6_grid 103 = .ok (.imul, 1) := by decide +kernel
theorem dX6_grid_104 : decode cX6_grid 104 = .ok (.iload 4, 2) := by decide +kernel
theorem dX6_grid_106 : decode cX6_grid 106 = .ok (.iadd, 1) := by decide +kernel
theorem dX6_grid_107 : decode cX6_grid 107 = .ok (.goto 4, 3) := by decide +kernel
theorem dX6_grid_110 : decode cX6_grid 110 = .ok (.iconst (-1), 1) := by decide +kernel
theorem dX6_grid_111 : decode cX6_grid 111 = .ok (.invokevirtual 121, 3) := by decide +kernel
theorem dX6_grid_114 : decode cX6_grid 114 = .ok (.iinc 4 1, 3) := by decide +kernel
theorem dX6_grid_117 : decode cX6_grid 117 = .ok (.goto (-44), 3) := by decide +kernel
theorem dX6_grid_120 : decode cX6_grid 120 = .ok (.iinc 3 1, 3) := by decide +kernel
theorem dX6_grid_123 : decode cX6_grid 123 = .ok (.goto (-58), 3) := by decide +kernel
theorem dX6_grid_126 : decode cX6_grid 126 = .ok (.iconst 0, 1) := by decide +kernel
theorem dX6_grid_127 : decode cX6_grid 127 = .ok (.istore_n 3, 1) := by decide +kernel
theorem dX6_grid_128 : decode cX6_grid 128 = .ok (.iload_n 3, 1) := by decide +kernel
theorem dX6_grid_129 : decode cX6_grid 129 = .ok (.iload_n 1, 1) := by decide +kernel
theorem dX6_grid_130 : decode cX6_grid 130 = .ok (.if_icmp .ge 61, 3) := by decide +kernel
theorem dX6_grid_133 : decode cX6_grid 133 = .ok (.iconst 0, 1) := by decide +kernel
theorem dX6_grid_134 : decode cX6_grid 134 = .ok (.istore 4, 2) := by decide +kernel
theorem dX6_grid_136 : decode cX6_grid 136 = .ok (.iload 4, 2) := by decide +kernel
theorem dX6_grid_138 : decode cX6_grid 138 = .ok (.iload_n 2, 1) := by decide +kernel
theorem dX6_grid_139 : decode cX6_grid 139 = .ok (.if_icmp .gt 46, 3) := by decide +kernel
theorem dX6_grid_142 : decode cX6_grid 142 = .ok (.aload_n 0, 1) := by decide +kernel
theorem dX6_grid_143 : decode cX6_grid 143 = .ok (.iload 4, 2) := by decide +kernel
theorem dX6_grid_145 : decode cX6_grid 145 = .ok (.ifCond .le 14, 3) := by decide +kernel
theorem dX6_grid_148 : decode cX6_grid 148 = .ok (.iload_n 2, 1) := by decide +kernel
theorem dX6_grid_149 : decode cX6_grid 149 = .ok (.iload_n 3, 1) := by decide +kernel
theorem dX6_grid_150 : decode cX6_grid 150 = .ok (.imul, 1) := by decide +kernel
theorem dX6_grid_151 : decode cX6_grid 151 = .ok (.iload 4, 2) := by decide +kernel
theorem dX6_grid_153 : decode cX6_grid 153 = .ok (.iadd, 1) := by decide +kernel
theorem dX6_grid_154 : decode cX6_grid 154 = .ok (.iconst 1, 1) := by decide +kernel
theorem dX6_grid_155 : decode cX6_grid 155 = .ok (.isub, 1) := by decide +kernel
theorem dX6_grid_156 : decode cX6_grid 156 = .ok (.goto 4, 3) := by decide +kernel
theorem dX6_grid_159 : decode cX6_grid 159 = .ok (.iconst (-1), 1) := by decide +kernel
theorem dX6_grid_160 : decode cX6_grid 160 = .ok (.iload 4, 2) := by decide +kernel
theorem dX6_grid_162 : decode cX6_grid 162 = .ok (.iload_n 2, 1) := by decide +kernel
theorem dX6_grid_163 : decode cX6_grid 163 = .ok (.if_icmp .ge 12, 3) := by decide +kernel
theorem dX6_grid_166 : decode cX6_grid 166 = .ok (.iload_n 2, 1) := by decide +kernel
theorem dX6_grid_167 : decode cX6_grid 167 = .ok (.iload_n 3, 1) := by decide +kernel
theorem dX6_grid_168 : decode cX6_grid 168 = .ok (.imul, 1) := by decide +kernel
theorem dX6_grid_169 : decode cX6_grid 169 = .ok (.iload 4, 2) := by decide +kernel
theorem dX6_grid_171 : decode cX6_grid 171 = .ok (.iadd, 1) := by decide +kernel
theorem dX6_grid_172 : decode cX6_grid 172 = .ok (.goto 4, 3) := by decide +kernel
theorem dX6_grid_175 : decode cX6_grid 175 = .ok (.iconst (-1), 1) := by decide +kernel
theorem dX6_grid_176 : decode cX6_grid 176 = .ok (.invokevirtual 121, 3) := by decide +kernel
theorem dX6_grid_179 : decode cX6_grid 179 = .ok (.iinc 4 1, 3) := by decide +kernel
theorem dX6_grid_182 : decode cX6_grid 182 = .ok (.goto (-46), 3) := by decide +kernel
theorem dX6_grid_185 : decode cX6_grid 185 = .ok (.iinc 3 1, 3) := by decide +kernel
theorem dX6_grid_188 : decode cX6_grid 188 = .ok (.goto (-60), 3) := by decide +kernel
theorem dX6_grid_191 : decode cX6_grid 191 = .ok (.iconst 1, 1) := by decide +kernel
theorem dX6_grid_192 : decode cX6_grid 192 = .ok (.ireturn, 1) := by decide +kernel
theorem dX6_draw_0 : decode cX6_draw 0 = .ok (.aload_n 0, 1) := by decide +kernel
theorem dX6_draw_1 : decode cX6_draw 1 = .ok (.invokevirtual 125, 3) := by decide +kernel
theorem dX6_draw_4 : decode cX6_draw 4 = .ok (.aload_n 0, 1) := by decide +kernel
theorem dX6_draw_5 : decode cX6_draw 5 = .ok (.iload_n 1, 1) := by decide +kernel
theorem dX6_draw_6 : decode cX6_draw 6 = .ok (.invokevirtual 128, 3) := by decide +kernel
theorem dX6_draw_9 : decode cX6_draw 9 = .ok (.ifCond .eq 12, 3) := by decide +kernel
theorem dX6_draw_12 : decode cX6_draw 12 = .ok (.aload_n 0, 1) := by decide +kernel
theorem dX6_draw_13 : decode cX6_draw 13 = .ok (.getfield 22, 3) := by decide +kernel
theorem dX6_draw_16 : decode cX6_draw 16 = .ok (.iload_n 1, 1) := by decide +kernel
theorem dX6_draw_17 : decode cX6_draw 17 = .ok (.baload, 1) := by decide +kernel
theorem dX6_draw_18 : decode cX6_draw 18 = .ok (.ifCond .ne 5, 3) := by decide +kernel
theorem dX6_draw_21 : decode cX6_draw 21 = .ok (.iconst (-1), 1) := by decide +kernel
theorem dX6_draw_22 : decode cX6_draw 22 = .ok (.ireturn, 1) := by decide +kernel
theorem dX6_draw_23 : decode cX6_draw 23 = .ok (.aload_n 0, 1) := by decide +kernel
theorem dX6_draw_24 : decode cX6_draw 24 = .ok (.iload_n 1, 1) := by decide +kernel
theorem dX6_draw_25 : decode cX6_draw 25 = .ok (.invokevirtual 108, 3) := by decide +kernel
theorem dX6_draw_28 : decode cX6_draw 28 = .ok (.istore_n 2, 1) := by decide +kernel
theorem dX6_draw_29 : decode cX6_draw 29 = .ok (.aload_n 0, 1) := by decide +kernel
theorem dX6_draw_30 : decode cX6_draw 30 = .ok (.getfield 19, 3) := by decide +kernel
theorem dX6_draw_33 : decode cX6_draw 33 = .ok (.aload_n 0, 1) := by decide +kernel
theorem dX6_draw_34 : decode cX6_draw 34 = .ok (.getfield 105, 3) := by decide +kernel
theorem dX6_draw_37 : decode cX6_draw 37 = .ok (.iload_n 1, 1) := by decide +kernel
theorem dX6_draw_38 : decode cX6_draw 38 = .ok (.iastore, 1) := by decide +kernel
theorem dX6_draw_39 : decode cX6_draw 39 = .ok (.aload_n 0, 1) := by decide +kernel
theorem dX6_draw_40 : decode cX6_draw 40 = .ok (.dup, 1) := by decide +kernel
theorem dX6_draw_41 : decode cX6_draw 41 = .ok (.getfield 105, 3) := by decide +kernel
theorem dX6_draw_44 : decode cX6_draw 44 = .ok (.iconst 1, 1) := by decide +kernel
theorem dX6_draw_45 : decode cX6_draw 45 = .ok (.iadd, 1) := by decide +kernel
theorem dX6_draw_46 : decode cX6_draw 46 = .ok (.putfield 105, 3) := by decide +kernel
theorem dX6_draw_49 : decode cX6_draw 49 = .ok (.aload_n 0, 1) := by decide +kernel
theorem dX6_draw_50 : decode cX6_draw 50 = .ok (.aload_n 0, 1) := by decide +kernel
theorem dX6_draw_51 : decode cX6_draw 51 = .ok (.getfield 105, 3) := by decide +kernel
theorem dX6_draw_54 : decode cX6_draw 54 = .ok (.putfield 111, 3) := by decide +kernel
theorem dX6_draw_57 : decode cX6_draw 57 = .ok (.iload_n 2, 1) := by decide +kernel
theorem dX6_draw_58 : decode cX6_draw 58 = .ok (.ireturn, 1) := by decide +kernel
theorem dX6_undo_0 : decode cX6_undo 0 = .ok (.aload_n 0, 1) := by decide +kernel
theorem dX6_undo_1 : decode cX6_undo 1 = .ok (.iconst 0, 1) := by decide +kernel
theorem dX6_undo_2 : decode cX6_undo 2 = .ok (.putfield 84, 3) := by decide +kernel
theorem dX6_undo_5 : decode cX6_undo 5 = .ok (.aload_n 0, 1) := by decide +kernel
theorem dX6_undo_6 : decode cX6_undo 6 = .ok (.getfield 105, 3) := by decide +kernel
theorem dX6_undo_9 : decode cX6_undo 9 = .ok (.ifCond .ne 5, 3) := by decide +kernel
theorem dX6_undo_12 : decode cX6_undo 12 = .ok (.iconst (-1), 1) := by decide +kernel
theorem dX6_undo_13 : decode cX6_undo 13 = .ok (.ireturn, 1) := by decide +kernel
theorem dX6_undo_14 : decode cX6_undo 14 = .ok (.aload_n 0, 1) := by decide +kernel
theorem dX6_undo_15 : decode cX6_undo 15 = .ok (.dup, 1) := by decide +kernel
theorem dX6_undo_16 : decode cX6_undo 16 = .ok (.getfield 105, 3) := by decide +kernel
theorem dX6_undo_19 : decode cX6_undo 19 = .ok (.iconst 1, 1) := by decide +kernel
theorem dX6_undo_20 : decode cX6_undo 20 = .ok (.isub, 1) := by decide +kernel
theorem dX6_undo_21 : decode cX6_undo 21 = .ok (.putfield 105, 3) := by decide +kernel
theorem dX6_undo_24 : decode cX6_undo 24 = .ok (.aload_n 0, 1) := by decide +kernel
theorem dX6_undo_25 : decode cX6_undo 25 = .ok (.getfield 19, 3) := by decide +kernel
theorem dX6_undo_28 : decode cX6_undo 28 = .ok (.aload_n 0, 1) := by decide +kernel
theorem dX6_undo_29 : decode cX6_undo 29 = .ok (.getfield 105, 3) := by decide +kernel
theorem dX6_undo_32 : decode cX6_undo 32 = .ok (.iaload, 1) := by decide +kernel
theorem dX6_undo_33 : decode cX6_undo 33 = .ok (.ireturn, 1) := by decide +kernel
theorem dX6_redo_0 : decode cX6_redo 0 = .ok (.aload_n 0, 1) := by decide +kernel
theorem dX6_redo_1 : decode cX6_redo 1 = .ok (.iconst 0, 1) := by decide +kernel
theorem dX6_redo_2 : decode cX6_redo 2 = .ok (.putfield 84, 3) := by decide +kernel
theorem dX6_redo_5 : decode cX6_redo 5 = .ok (.aload_n 0, 1) := by decide +kernel
theorem dX6_redo_6 : decode cX6_redo 6 = .ok (.getfield 105, 3) := by decide +kernel
theorem dX6_redo_9 : decode cX6_redo 9 = .ok (.aload_n 0, 1) := by decide +kernel
theorem dX6_redo_10 : decode cX6_redo 10 = .ok (.getfield 111, 3) := by decide +kernel
theorem dX6_redo_13 : decode cX6_redo 13 = .ok (.if_icmp .ne 5, 3) := by decide +kernel
theorem dX6_redo_16 : decode cX6_redo 16 = .ok (.iconst (-1), 1) := by decide +kernel
theorem dX6_redo_17 : decode cX6_redo 17 = .ok (.ireturn, 1) := by decide +kernel
theorem dX6_redo_18 : decode cX6_redo 18 = .ok (.aload_n 0, 1) := by decide +kernel
theorem dX6_redo_19 : decode cX6_redo 19 = .ok (.dup, 1) := by decide +kernel
theorem dX6_redo_20 : decode cX6_redo 20 = .ok (.getfield 105, 3) := by decide +kernel
theorem dX6_redo_23 : decode cX6_redo 23 = .ok (.iconst 1, 1) := by decide +kernel
theorem dX6_redo_24 : decode cX6_redo 24 = .ok (.iadd, 1) := by decide +kernel
theorem dX6_redo_25 : decode cX6_redo 25 = .ok (.putfield 105, 3) := by decide +kernel
theorem dX6_redo_28 : decode cX6_redo 28 = .ok (.aload_n 0, 1) := by decide +kernel
theorem dX6_redo_29 : decode cX6_redo 29 = .ok (.getfield 19, 3) := by decide +kernel
theorem dX6_redo_32 : decode cX6_redo 32 = .ok (.aload_n 0, 1) := by decide +kernel
theorem dX6_redo_33 : decode cX6_redo 33 = .ok (.getfield 105, 3) := by decide +kernel
theorem dX6_redo_36 : decode cX6_redo 36 = .ok (.iconst 1, 1) := by decide +kernel
theorem dX6_redo_37 : decode cX6_redo 37 = .ok (.isub, 1) := by decide +kernel
theorem dX6_redo_38 : decode cX6_redo 38 = .ok (.iaload, 1) := by decide +kernel
theorem dX6_redo_39 : decode cX6_redo 39 = .ok (.ireturn, 1) := by decide +kernel
theorem dX6_open_0 : decode cX6_open 0 = .ok (.iconst 0, 1) := by decide +kernel
theorem dX6_open_1 : decode cX6_open 1 = .ok (.istore_n 1, 1) := by decide +kernel
theorem dX6_open_2 : decode cX6_open 2 = .ok (.iconst 0, 1) := by decide +kernel
theorem dX6_open_3 : decode cX6_open 3 = .ok (.istore_n 2, 1) := by decide +kernel
theorem dX6_open_4 : decode cX6_open 4 = .ok (.iload_n 2, 1) := by decide +kernel
theorem dX6_open_5 : decode cX6_open 5 = .ok (.aload_n 0, 1) := by decide +kernel
theorem dX6_open_6 : decode cX6_open 6 = .ok (.getfield 91, 3) := by decide +kernel
theorem dX6_open_9 : decode cX6_open 9 = .ok (.if_icmp .ge 26, 3) := by decide +kernel
theorem dX6_open_12 : decode cX6_open 12 = .ok (.iload_n 1, 1) := by decide +kernel
theorem dX6_open_13 : decode cX6_open 13 = .ok (.aload_n 0, 1) := by decide +kernel
theorem dX6_open_14 : decode cX6_open 14 = .ok (.getfield 22, 3) := by decide +kernel
theorem dX6_open_17 : decode cX6_open 17 = .ok (.iload_n 2, 1) := by decide +kernel
theorem dX6_open_18 : decode cX6_open 18 = .ok (.baload, 1) := by decide +kernel
theorem dX6_open_19 : decode cX6_open 19 = .ok (.ifCond .eq 7, 3) := by decide +kernel
theorem dX6_open_22 : decode cX6_open 22 = .ok (.iconst 1, 1) := by decide +kernel
theorem dX6_open_23 : decode cX6_open 23 = .ok (.goto 4, 3) := by decide +kernel
theorem dX6_open_26 : decode cX6_open 26 = .ok (.iconst 0, 1) := by decide +kernel
theorem dX6_open_27 : decode cX6_open 27 = .ok (.iadd, 1) := by decide +kernel
theorem dX6_open_28 : decode cX6_open 28 = .ok (.istore_n 1, 1) := by decide +kernel
theorem dX6_open_29 : decode cX6_open 29 = .ok (.iinc 2 1, 3) := by decide +kernel
theorem dX6_open_32 : decode cX6_open 32 = .ok (.goto (-28), 3) := by decide +kernel
theorem dX6_open_35 : decode cX6_open 35 = .ok (.iload_n 1, 1) := by decide +kernel
theorem dX6_open_36 : decode cX6_open 36 = .ok (.ireturn, 1) := by decide +kernel
theorem dX6_whose_0 : decode cX6_whose 0 = .ok (.aload_n 0, 1) := by decide +kernel
theorem dX6_whose_1 : decode cX6_whose 1 = .ok (.invokevirtual 125, 3) := by decide +kernel
theorem dX6_whose_4 : decode cX6_whose 4 = .ok (.aload_n 0, 1) := by decide +kernel
theorem dX6_whose_5 : decode cX6_whose 5 = .ok (.invokevirtual 131, 3) := by decide +kernel
theorem dX6_whose_8 : decode cX6_whose 8 = .ok (.ifCond .ne 7, 3) := by decide +kernel
theorem dX6_whose_11 : decode cX6_whose 11 = .ok (.iconst (-1), 1) := by decide +kernel
theorem dX6_whose_12 : decode cX6_whose 12 = .ok (.goto 7, 3) := by decide +kernel
theorem dX6_whose_15 : decode cX6_whose 15 = .ok (.aload_n 0, 1) := by decide +kernel
theorem dX6_whose_16 : decode cX6_whose 16 = .ok (.getfield 102, 3) := by decide +kernel
theorem dX6_whose_19 : decode cX6_whose 19 = .ok (.ireturn, 1) := by decide +kernel
theorem dX6_cut_0 : decode cX6_cut 0 = .ok (.aload_n 0, 1) := by decide +kernel
theorem dX6_cut_1 : decode cX6_cut 1 = .ok (.invokevirtual 125, 3) := by decide +kernel
theorem dX6_cut_4 : decode cX6_cut 4 = .ok (.aload_n 0, 1) := by decide +kernel
theorem dX6_cut_5 : decode cX6_cut 5 = .ok (.iconst 0, 1) := by decide +kernel
theorem dX6_cut_6 : decode cX6_cut 6 = .ok (.putfield 135, 3) := by decide +kernel
theorem dX6_cut_9 : decode cX6_cut 9 = .ok (.iconst 0, 1) := by decide +kernel
theorem dX6_cut_10 : decode cX6_cut 10 = .ok (.istore_n 1, 1) := by decide +kernel
theorem dX6_cut_11 : decode cX6_cut 11 = .ok (.iload_n 1, 1) := by decide +kernel
theorem dX6_cut_12 : decode cX6_cut 12 = .ok (.aload_n 0, 1) := by decide +kernel
theorem dX6_cut_13 : decode cX6_cut 13 = .ok (.getfield 88, 3) := by decide +kernel
theorem dX6_cut_16 : decode cX6_cut 16 = .ok (.if_icmp .ge 28, 3) := by decide +kernel
theorem dX6_cut_19 : decode cX6_cut 19 = .ok (.aload_n 0, 1) := by decide +kernel
theorem dX6_cut_20 : decode cX6_cut 20 = .ok (.getfield 29, 3) := by decide +kernel
theorem dX6_cut_23 : decode cX6_cut 23 = .ok (.iload_n 1, 1) := by decide +kernel
theorem dX6_cut_24 : decode cX6_cut 24 = .ok (.aload_n 0, 1) := by decide +kernel
theorem dX6_cut_25 : decode cX6_cut 25 = .ok (.iload_n 1, 1) := by decide +kernel
theorem dX6_cut_26 : decode cX6_cut 26 = .ok (.invokevirtual 98, 3) := by decide +kernel
theorem dX6_cut_29 : decode cX6_cut 29 = .ok (.ifCond .le 7, 3) := by decide +kernel
theorem dX6_cut_32 : decode cX6_cut 32 = .ok (.iload_n 1, 1) := by decide +kernel
theorem dX6_cut_33 : decode cX6_cut 33 = .ok (.goto 4, 3) := by decide +kernel
theorem dX6_cut_36 : decode cX6_cut 36 = .ok (.iconst (-1), 1) := by decide +kernel
theorem dX6_cut_37 : decode cX6_cut 37 = .ok (.iastore, 1) := by decide +kernel
theorem dX6_cut_38 : decode cX6_cut 38 = .ok (.iinc 1 1, 3) := by decide +kernel
theorem dX6_cut_41 : decode cX6_cut 41 = .ok (.goto (-30), 3) := by decide +kernel
theorem dX6_cut_44 : decode cX6_cut 44 = .ok (.iconst 1, 1) := by decide +kernel
theorem dX6_cut_45 : decode cX6_cut 45 = .ok (.istore_n 1, 1) := by decide +kernel
theorem dX6_cut_46 : decode cX6_cut 46 = .ok (.iload_n 1, 1) := by decide +kernel
theorem dX6_cut_47 : decode cX6_cut 47 = .ok (.ifCond .eq 123, 3) := by decide +kernel
theorem dX6_cut_50 : decode cX6_cut 50 = .ok (.iconst 0, 1) := by decide +kernel
theorem dX6_cut_51 : decode cX6_cut 51 = .ok (.istore_n 1, 1) := by decide +kernel
theorem dX6_cut_52 : decode cX6_cut 52 = .ok (.iconst 0, 1) := by decide +kernel
theorem dX6_cut_53 : decode cX6_cut 53 = .ok (.istore_n 2, 1) := by decide +kernel
theorem dX6_cut_54 : decode cX6_cut 54 = .ok (.iload_n 2, 1) := by decide +kernel
theorem dX6_cut_55 : decode cX6_cut 55 = .ok (.aload_n 0, 1) := by decide +kernel
theorem dX6_cut_56 : decode cX6_cut 56 = .ok (.getfield 91, 3) := by decide +kernel
theorem dX6_cut_59 : decode cX6_cut 59 = .ok (.if_icmp .ge 108, 3) := by decide +kernel
theorem dX6_cut_62 : decode cX6_cut 62 = .ok (.aload_n 0, 1) := by decide +kernel
theorem dX6_cut_63 : decode cX6_cut 63 = .ok (.getfield 22, 3) := by decide +kernel
theorem dX6_cut_66 : decode cX6_cut 66 = .ok (.iload_n 2, 1) := by decide +kernel
theorem dX6_cut_67 : decode cX6_cut 67 = .ok (.baload, 1) := by decide +kernel
theorem dX6_cut_68 : decode cX6_cut 68 = .ok (.ifCond .eq 93, 3) := by decide +kernel
theorem dX6_cut_71 : decode cX6_cut 71 = .ok (.aload_n 0, 1) := by decide +kernel
theorem dX6_cut_72 : decode cX6_cut 72 = .ok (.getfield 13, 3) := by decide +kernel
theorem dX6_cut_75 : decode cX6_cut 75 = .ok (.iload_n 2, 1) := by decide +kernel
theorem dX6_cut_76 : decode cX6_cut 76 = .ok (.iaload, 1) := by decide +kernel
theorem dX6_cut_77 : decode cX6_cut 77 = .ok (.iconst (-1), 1) := by decide +kernel
theorem dX6_cut_78 : decode cX6_cut 78 = .ok (.if_icmp .eq 83, 3) := by decide +kernel
theorem dX6_cut_81 : decode cX6_cut 81 = .ok (.aload_n 0, 1) := by decide +kernel
theorem dX6_cut_82 : decode cX6_cut 82 = .ok (.getfield 29, 3) := by decide +kernel
theorem dX6_cut_85 : decode cX6_cut 85 = .ok (.aload_n 0, 1) := by decide +kernel
theorem dX6_cut_86 : decode cX6_cut 86 = .ok (.getfield 9, 3) := by decide +kernel
theorem dX6_cut_89 : decode cX6_cut 89 = .ok (.iload_n 2, 1) := by decide +kernel
theorem dX6_cut_90 : decode cX6_cut 90 = .ok (.iaload, 1) := by decide +kernel
theorem dX6_cut_91 : decode cX6_cut 91 = .ok (.iaload, 1) := by decide +kernel
theorem dX6_cut_92 : decode cX6_cut 92 = .ok (.aload_n 0, 1) := by decide +kernel
theorem dX6_cut_93 : decode cX6_cut 93 = .ok (.getfield 29, 3) := by decide +kernel
theorem dX6_cut_96 : decode cX6_cut 96 = .ok (.aload_n 0, 1) := by decide +kernel
theorem dX6_cut_97 : decode cX6_cut 97 = .ok (.getfield 13, 3) := by decide +kernel
theorem dX6_cut_100 : decode cX6_cut 100 = .ok (.iload_n 2, 1) := by decide +kernel
theorem dX6_cut_101 : decode cX6_cut 101 = .ok (.iaload, 1) := by decide +kernel
theorem dX6_cut_102 : decode cX6_cut 102 = .ok (.iaload, 1) := by decide +kernel
theorem dX6_cut_103 : decode cX6_cut 103 = .ok (.if_icmp .ne 6, 3) := by decide +kernel
theorem dX6_cut_106 : decode cX6_cut 106 = .ok (.goto 55, 3) := by decide +kernel
theorem dX6_cut_109 : decode cX6_cut 109 = .ok (.aload_n 0, 1) := by decide +kernel
theorem dX6_cut_110 : decode cX6_cut 110 = .ok (.getfield 29, 3) := by decide +kernel
theorem dX6_cut_113 : decode cX6_cut 113 = .ok (.aload_n 0, 1) := by decide +kernel
theorem dX6_cut_114 : decode cX6_cut 114 = .ok (.getfield 9, 3) := by decide +kernel
theorem dX6_cut_117 : decode cX6_cut 117 = .ok (.iload_n 2, 1) := by decide +kernel
theorem dX6_cut_118 : decode cX6_cut 118 = .ok (.iaload, 1) := by decide +kernel
theorem dX6_cut_119 : decode cX6_cut 119 = .ok (.iaload, 1) := by decide +kernel
theorem dX6_cut_120 : decode cX6_cut 120 = .ok (.aload_n 0, 1) := by decide +kernel
theorem dX6_cut_121 : decode cX6_cut 121 = .ok (.getfield 29, 3) := by decide +kernel
theorem dX6_cut_124 : decode cX6_cut 124 = .ok (.aload_n 0, 1) := by decide +kernel
theorem dX6_cut_125 : decode cX6_cut 125 = .ok (.getfield 13, 3) := by decide +kernel
theorem dX6_cut_128 : decode cX6_cut 128 = .ok (.iload_n 2, 1) := by decide +kernel
theorem dX6_cut_129 : decode cX6_cut 129 = .ok (.iaload, 1) := by decide +kernel
theorem dX6_cut_130 : decode cX6_cut 130 = .ok (.iaload, 1) := by decide +kernel
theorem dX6_cut_131 : decode cX6_cut 131 = .ok (.invokestatic 138, 3) := by decide +kernel
theorem dX6_cut_134 : decode cX6_cut 134 = .ok (.istore_n 3, 1) := by decide +kernel
theorem dX6_cut_135 : decode cX6_cut 135 = .ok (.aload_n 0, 1) := by decide +kernel
theorem dX6_cut_136 : decode cX6_cut 136 = .ok (.getfield 29, 3) := by decide +kernel
theorem dX6_cut_139 : decode cX6_cut 139 = .ok (.aload_n 0, 1) := by decide +kernel
theorem dX6_cut_140 : decode cX6_cut 140 = .ok (.getfield 9, 3) := by decide +kernel
theorem dX6_cut_143 : decode cX6_cut 143 = .ok (.iload_n 2, 1) := by decide +kernel
theorem dX6_cut_144 : decode cX6_cut 144 = .ok (.iaload, 1) := by decide +kernel
theorem dX6_cut_145 : decode cX6_cut 145 = .ok (.iload_n 3, 1) := by decide +kernel
theorem dX6_cut_146 : decode cX6_cut 146 = .ok (.iastore, 1) := by decide +kernel
theorem dX6_cut_147 : decode cX6_cut 147 = .ok (.aload_n 0, 1) := by decide +kernel
theorem dX6_cut_148 : decode cX6_cut 148 = .ok (.getfield 29, 3) := by decide +kernel
theorem dX6_cut_151 : decode cX6_cut 151 = .ok (.aload_n 0, 1) := by decide +kernel
theorem dX6_cut_152 : decode cX6_cut 152 = .ok (.getfield 13, 3) := by decide +kernel
theorem dX6_cut_155 : decode cX6_cut 155 = .ok (.iload_n 2, 1) := by decide +kernel
theorem dX6_cut_156 : decode cX6_cut 156 = .ok (.iaload, 1) := by decide +kernel
theorem dX6_cut_157 : decode cX6_cut 157 = .ok (.iload_n 3, 1) := by decide +kernel
theorem dX6_cut_158 : decode cX6_cut 158 = .ok (.iastore, 1) := by decide +kernel
theorem dX6_cut_159 : decode cX6_cut 159 = .ok (.iconst 1, 1) := by decide +kernel
theorem dX6_cut_160 : decode cX6_cut 160 = .ok (.istore_n 1, 1) := by decide +kernel
theorem dX6_cut_161 : decode cX6_cut 161 = .ok (.iinc 2 1, 3) := by decide +kernel
theorem dX6_cut_164 : decode cX6_cut 164 = .ok (.goto (-110), 3) := by decide +kernel
theorem dX6_cut_167 : decode cX6_cut 167 = .ok (.goto (-121), 3) := by decide +kernel
theorem dX6_cut_170 : decode cX6_cut 170 = .ok (.iconst 0, 1) := by decide +kernel
theorem dX6_cut_171 : decode cX6_cut 171 = .ok (.istore_n 2, 1) := by decide +kernel
theorem dX6_cut_172 : decode cX6_cut 172 = .ok (.iload_n 2, 1) := by decide +kernel
theorem dX6_cut_173 : decode cX6_cut 173 = .ok (.aload_n 0, 1) := by decide +kernel
theorem dX6_cut_174 : decode cX6_cut 174 = .ok (.getfield 88, 3) := by decide +kernel
theorem dX6_cut_177 : decode cX6_cut 177 = .ok (.if_icmp .ge 42, 3) := by decide +kernel
theorem dX6_cut_180 : decode cX6_cut 180 = .ok (.aload_n 0, 1) := by decide +kernel
theorem dX6_cut_181 : decode cX6_cut 181 = .ok (.getfield 29, 3) := by decide +kernel
theorem dX6_cut_184 : decode cX6_cut 184 = .ok (.iload_n 2, 1) := by decide +kernel
theorem dX6_cut_185 : decode cX6_cut 185 = .ok (.iaload, 1) := by decide +kernel
theorem dX6_cut_186 : decode cX6_cut 186 = .ok (.iload_n 2, 1) := by decide +kernel
theorem dX6_cut_187 : decode cX6_cut 187 = .ok (.if_icmp .eq 6, 3) := by decide +kernel
theorem dX6_cut_190 : decode cX6_cut 190 = .ok (.goto 23, 3) := by decide +kernel
theorem dX6_cut_193 : decode cX6_cut 193 = .ok (.aload_n 0, 1) := by decide +kernel
theorem dX6_cut_194 : decode cX6_cut 194 = .ok (.getfield 44, 3) := by decide +kernel
theorem dX6_cut_197 : decode cX6_cut 197 = .ok (.aload_n 0, 1) := by decide +kernel
theorem dX6_cut_198 : decode cX6_cut 198 = .ok (.getfield 135, 3) := by decide +kernel
theorem dX6_cut_201 : decode cX6_cut 201 = .ok (.iload_n 2, 1) := by decide +kernel
theorem dX6_cut_202 : decode cX6_cut 202 = .ok (.iastore, 1) := by decide +kernel
theorem dX6_cut_203 : decode cX6_cut 203 = .ok (.aload_n 0, 1) := by decide +kernel
theorem dX6_cut_204 : decode cX6_cut 204 = .ok (.dup, 1) := by decide +kernel
theorem dX6_cut_205 : decode cX6_cut 205 = .ok (.getfield 135, 3) := by decide +kernel
theorem dX6_cut_208 : decode cX6_cut 208 = .ok (.iconst 1, 1) := by decide +kernel
theorem dX6_cut_209 : decode cX6_cut 209 = .ok (.iadd, 1) := by decide +kernel
theorem dX6_cut_210 : decode cX6_cut 210 = .ok (.putfield 135, 3) := by decide +kernel
theorem dX6_cut_213 : decode cX6_cut 213 = .ok (.iinc 2 1, 3) := by decide +kernel
theorem dX6_cut_216 : decode cX6_cut 216 = .ok (.goto (-44), 3) := by decide +kernel
theorem dX6_cut_219 : decode cX6_cut 219 = .ok (.iconst 0, 1) := by decide +kernel
theorem dX6_cut_220 : decode cX6_cut 220 = .ok (.istore_n 2, 1) := by decide +kernel
theorem dX6_cut_221 : decode cX6_cut 221 = .ok (.iload_n 2, 1) := by decide +kernel
theorem dX6_cut_222 : decode cX6_cut 222 = .ok (.aload_n 0, 1) := by decide +kernel
theorem dX6_cut_223 : decode cX6_cut 223 = .ok (.getfield 88, 3) := by decide +kernel
theorem dX6_cut_226 : decode cX6_cut 226 = .ok (.if_icmp .ge 59, 3) := by decide +kernel
theorem dX6_cut_229 : decode cX6_cut 229 = .ok (.iconst 0, 1) := by decide +kernel
theorem dX6_cut_230 : decode cX6_cut 230 = .ok (.istore_n 3, 1) := by decide +kernel
theorem dX6_cut_231 : decode cX6_cut 231 = .ok (.iload_n 3, 1) := by decide +kernel
theorem dX6_cut_232 : decode cX6_cut 232 = .ok (.aload_n 0, 1) := by decide +kernel
theorem dX6_cut_233 : decode cX6_cut 233 = .ok (.getfield 135, 3) := by decide +kernel
theorem dX6_cut_236 : decode cX6_cut 236 = .ok (.if_icmp .ge 24, 3) := by decide +kernel
theorem dX6_cut_239 : decode cX6_cut 239 = .ok (.aload_n 0, 1) := by decide +kernel
theorem dX6_cut_240 : decode cX6_cut 240 = .ok (.getfield 44, 3) := by decide +kernel
theorem dX6_cut_243 : decode cX6_cut 243 = .ok (.iload_n 3, 1) := by decide +kernel
theorem dX6_cut_244 : decode cX6_cut 244 = .ok (.iaload, 1) := by decide +kernel
theorem dX6_cut_245 : decode cX6_cut 245 = .ok (.aload_n 0, 1) := by decide +kernel
theorem dX6_cut_246 : decode cX6_cut 246 = .ok (.getfield 29, 3) := by decide +kernel
theorem dX6_cut_249 : decode cX6_cut 249 = .ok (.iload_n 2, 1) := by decide +kernel
theorem dX6_cut_250 : decode cX6_cut 250 = .ok (.iaload, 1) := by decide +kernel
theorem dX6_cut_251 : decode cX6_cut 251 = .ok (.if_icmp .eq 9, 3) := by decide +kernel
theorem dX6_cut_254 : decode cX6_cut 254 = .ok (.iinc 3 1, 3) := by decide +kernel
theorem dX6_cut_257 : decode cX6_cut 257 = .ok (.goto (-26), 3) := by decide +kernel
theorem dX6_cut_260 : decode cX6_cut 260 = .ok (.aload_n 0, 1) := by decide +kernel
theorem dX6_cut_261 : decode cX6_cut 261 = .ok (.getfield 29, 3) := by decide +kernel
theorem dX6_cut_264 : decode cX6_cut 264 = .ok (.iload_n 2, 1) := by decide +kernel
theorem dX6_cut_265 : decode cX6_cut 265 = .ok (.iload_n 3, 1) := by decide +kernel
theorem dX6_cut_266 : decode cX6_cut 266 = .ok (.aload_n 0, 1) := by decide +kernel
theorem dX6_cut_267 : decode cX6_cut 267 = .ok (.getfield 135, 3) := by decide +kernel
theorem dX6_cut_270 : decode cX6_cut 270 = .ok (.if_icmp .ge 7, 3) := by decide +kernel
theorem dX6_cut_273 : decode cX6_cut 273 = .ok (.iload_n 3, 1) := by decide +kernel
theorem dX6_cut_274 : decode cX6_cut 274 = .ok (.goto 4, 3) := by decide +kernel
theorem dX6_cut_277 : decode cX6_cut 277 = .ok (.iconst (-1), 1) := by decide +kernel
theorem dX6_cut_278 : decode cX6_cut 278 = .ok (.iastore, 1) := by decide +kernel
theorem dX6_cut_279 : decode cX6_cut 279 = .ok (.iinc 2 1, 3) := by decide +kernel
theorem dX6_cut_282 : decode cX6_cut 282 = .ok (.goto (-61), 3) := by decide +kernel
theorem dX6_cut_285 : decode cX6_cut 285 = .ok (.iconst 0, 1) := by decide +kernel
theorem dX6_cut_286 : decode cX6_cut 286 = .ok (.istore_n 2, 1) := by decide +kernel
theorem dX6_cut_287 : decode cX6_cut 287 = .ok (.iload_n 2, 1) := by decide +kernel
theorem dX6_cut_288 : decode cX6_cut 288 = .ok (.aload_n 0, 1) := by decide +kernel
theorem dX6_cut_289 : decode cX6_cut 289 = .ok (.getfield 135, 3) := by decide +kernel
theorem dX6_cut_292 : decode cX6_cut 292 = .ok (.if_icmp .ge 14, 3) := by decide +kernel
theorem dX6_cut_295 : decode cX6_cut 295 = .ok (.aload_n 0, 1) := by decide +kernel
theorem dX6_cut_296 : decode cX6_cut 296 = .ok (.iload_n 2, 1) := by decide +kernel
theorem dX6_cut_297 : decode cX6_cut 297 = .ok (.invokevirtual 144, 3) := by decide +kernel
theorem dX6_cut_300 : decode cX6_cut 300 = .ok (.iinc 2 1, 3) := by decide +kernel
theorem dX6_cut_303 : decode cX6_cut 303 = .ok (.goto (-16), 3) := by decide +kernel
theorem dX6_cut_306 : decode cX6_cut 306 = .ok (.return_, 1) := by decide +kernel
theorem dX6_about_0 : decode cX6_about 0 = .ok (.iconst 0, 1) := by decide +kernel
theorem dX6_about_1 : decode cX6_about 1 = .ok (.istore_n 2, 1) := by decide +kernel
theorem dX6_about_2 : decode cX6_about 2 = .ok (.iconst 0, 1) := by decide +kernel
theorem dX6_about_3 : decode cX6_about 3 = .ok (.istore_n 3, 1) := by decide +kernel
theorem dX6_about_4 : decode cX6_about 4 = .ok (.iconst 0, 1) := by decide +kernel
theorem dX6_about_5 : decode cX6_about 5 = .ok (.istore 4, 2) := by decide +kernel
theorem dX6_about_7 : decode cX6_about 7 = .ok (.iconst 4, 1) := by decide +kernel
theorem dX6_about_8 : decode cX6_about 8 = .ok (.istore 5, 2) := by decide +kernel
theorem dX6_about_10 : decode cX6_about 10 = .ok (.iconst 0, 1) := by decide +kernel
theorem dX6_about_11 : decode cX6_about 11 = .ok (.istore 6, 2) := by decide +kernel
theorem dX6_about_13 : decode cX6_about 13 = .ok (.iconst 0, 1) := by decide +kernel
theorem dX6_about_14 : decode cX6_about 14 = .ok (.istore 7, 2) := by decide +kernel
theorem dX6_about_16 : decode cX6_about 16 = .ok (.iconst 0, 1) := by decide +kernel
theorem dX6_about_17 : decode cX6_about 17 = .ok (.istore 8, 2) := by decide +kernel
theorem dX6_about_19 : decode cX6_about 19 = .ok (.iload 8, 2) := by decide +kernel
theorem dX6_about_21 : decode cX6_about 21 = .ok (.aload_n 0, 1) := by decide +kernel
theorem dX6_about_22 : decode cX6_about 22 = .ok (.getfield 88, 3) := by decide +kernel
theorem dX6_about_25 : decode cX6_about 25 = .ok (.if_icmp .ge 66, 3) := by decide +kernel
theorem dX6_about_28 : decode cX6_about 28 = .ok (.aload_n 0, 1) := by decide +kernel
theorem dX6_about_29 : decode cX6_about 29 = .ok (.getfield 29, 3) := by decide +kernel
theorem dX6_about_32 : decode cX6_about 32 = .ok (.iload 8, 2) := by decide +kernel
theorem dX6_about_34 : decode cX6_about 34 = .ok (.iaload, 1) := by decide +kernel
theorem dX6_about_35 : decode cX6_about 35 = .ok (.iload_n 1, 1) := by decide +kernel
theorem dX6_about_36 : decode cX6_about 36 = .ok (.if_icmp .eq 6, 3) := by decide +kernel
theorem dX6_about_39 : decode cX6_about 39 = .ok (.goto 46, 3) := by decide +kernel
theorem dX6_about_42 : decode cX6_about 42 = .ok (.aload_n 0, 1) := by decide +kernel
theorem dX6_about_43 : decode cX6_about 43 = .ok (.iload 8, 2) := by decide +kernel
theorem dX6_about_45 : decode cX6_about 45 = .ok (.invokevirtual 98, 3) := by decide +kernel
theorem dX6_about_48 : decode cX6_about 48 = .ok (.istore 9, 2) := by decide +kernel
theorem dX6_about_50 : decode cX6_about 50 = .ok (.iinc 2 1, 3) := by decide +kernel
theorem dX6_about_53 : decode cX6_about 53 = .ok (.iload_n 3, 1) := by decide +kernel
theorem dX6_about_54 : decode cX6_about 54 = .ok (.iload 9, 2) := by decide +kernel
theorem dX6_about_56 : decode cX6_about 56 = .ok (.iconst 1, 1) := by decide +kernel
theorem dX6_about_57 : decode cX6_about 57 = .ok (.if_icmp .ne 7, 3) := by decide +kernel
theorem dX6_about_60 : decode cX6_about 60 = .ok (.iconst 1, 1) := by decide +kernel
theorem dX6_about_61 : decode cX6_about 61 = .ok (.goto 4, 3) := by decide +kernel
theorem dX6_about_64 : decode cX6_about 64 = .ok (.iconst 0, 1) := by decide +kernel
theorem dX6_about_65 : decode cX6_about 65 = .ok (.iadd, 1) := by decide +kernel
theorem dX6_about_66 : decode cX6_about 66 = .ok (.istore_n 3, 1) := by decide +kernel
theorem dX6_about_67 : decode cX6_about 67 = .ok (.iload 4, 2) := by decide +kernel
theorem dX6_about_69 : decode cX6_about 69 = .ok (.iload 9, 2) := by decide +kernel
theorem dX6_about_71 : decode cX6_about 71 = .ok (.invokestatic 148, 3) := by decide +kernel
theorem dX6_about_74 : decode cX6_about 74 = .ok (.istore 4, 2) := by decide +kernel
theorem dX6_about_76 : decode cX6_about 76 = .ok (.iload 5, 2) := by decide +kernel
theorem dX6_about_78 : decode cX6_about 78 = .ok (.iload 9, 2) := by decide +kernel
theorem dX6_about_80 : decode cX6_about 80 = .ok (.invokestatic 138, 3) := by decide +kernel
theorem dX6_about_83 : decode cX6_about 83 = .ok (.istore 5, 2) := by decide +kernel
theorem dX6_about_85 : decode cX6_about 85 = .ok (.iinc 8 1, 3) := by decide +kernel
theorem dX6_about_88 : decode cX6_about 88 = .ok (.goto (-69), 3) := by decide +kernel
theorem dX6_about_91 : decode cX6_about 91 = .ok (.iconst 0, 1) := by decide +kernel
theorem dX6_about_92 : decode cX6_about 92 = .ok (.istore 8, 2) := by decide +kernel
theorem dX6_about_94 : decode cX6_about 94 = .ok (.iload 8, 2) := by decide +kernel
theorem dX6_about_96 : decode cX6_about 96 = .ok (.aload_n 0, 1) := by decide +kernel
theorem dX6_about_97 : decode cX6_about 97 = .ok (.getfield 91, 3) := by decide +kernel
theorem dX6_about_100 : decode cX6_about 100 = .ok (.if_icmp .ge 64, 3) := by decide +kernel
theorem dX6_about_103 : decode cX6_about 103 = .ok (.aload_n 0, 1) := by decide +kernel
theorem dX6_about_104 : decode cX6_about 104 = .ok (.getfield 22, 3) := by decide +kernel
theorem dX6_about_107 : decode cX6_about 107 = .ok (.iload 8, 2) := by decide +kernel
theorem dX6_about_109 : decode cX6_about 109 = .ok (.baload, 1) := by decide +kernel
theorem dX6_about_110 : decode cX6_about 110 = .ok (.ifCond .eq 48, 3) := by decide +kernel
theorem dX6_about_113 : decode cX6_about 113 = .ok (.aload_n 0, 1) := by decide +kernel
theorem dX6_about_114 : decode cX6_about 114 = .ok (.getfield 29, 3) := by decide +kernel
theorem dX6_about_117 : decode cX6_about 117 = .ok (.aload_n 0, 1) := by decide +kernel
theorem dX6_about_118 : decode cX6_about 118 = .ok (.getfield 9, 3) := by decide +kernel
theorem dX6_about_121 : decode cX6_about 121 = .ok (.iload 8, 2) := by decide +kernel
theorem dX6_about_123 : decode cX6_about 123 = .ok (.iaload, 1) := by decide +kernel
theorem dX6_about_124 : decode cX6_about 124 = .ok (.iaload, 1) := by decide +kernel
theorem dX6_about_125 : decode cX6_about 125 = .ok (.iload_n 1, 1) := by decide +kernel
theorem dX6_about_126 : decode cX6_about 126 = .ok (.if_icmp .eq 6, 3) := by decide +kernel
theorem dX6_about_129 : decode cX6_about 129 = .ok (.goto 29, 3) := by decide +kernel
theorem dX6_about_132 : decode cX6_about 132 = .ok (.iinc 6 1, 3) := by decide +kernel
theorem dX6_about_135 : decode cX6_about 135 = .ok (.iload 7, 2) := by decide +kernel
theorem dX6_about_137 : decode cX6_about 137 = .ok (.ifCond .ne 14, 3) := by decide +kernel
theorem dX6_about_140 : decode cX6_about 140 = .ok (.aload_n 0, 1) := by decide +kernel
theorem dX6_about_141 : decode cX6_about 141 = .ok (.getfield 13, 3) := by decide +kernel
theorem dX6_about_144 : decode cX6_about 144 = .ok (.iload 8, 2) := by decide +kernel
theorem dX6_about_146 : decode cX6_about 146 = .ok (.iaload, 1) := by decide +kernel
theorem dX6_about_147 : decode cX6_about 147 = .ok (.iconst (-1), 1) := by decide +kernel
theorem dX6_about_148 : decode cX6_about 148 = .ok (.if_icmp .ne 7, 3) := by decide +kernel
theorem dX6_about_151 : decode cX6_about 151 = .ok (.iconst 1, 1) := by decide +kernel
theorem dX6_about_152 : decode cX6_about 152 = .ok (.goto 4, 3) := by decide +kernel
theorem dX6_about_155 : decode cX6_about 155 = .ok (.iconst 0, 1) := by decide +kernel
theorem dX6_about_156 : decode cX6_about 156 = .ok (.istore 7, 2) := by decide +kernel
theorem dX6_about_158 : decode cX6_about 158 = .ok (.iinc 8 1, 3) := by decide +kernel
theorem dX6_about_161 : decode cX6_about 161 = .ok (.goto (-67), 3) := by decide +kernel
theorem dX6_about_164 : decode cX6_about 164 = .ok (.aload_n 0, 1) := by decide +kernel
theorem dX6_about_165 : decode cX6_about 165 = .ok (.getfield 32, 3) := by decide +kernel
theorem dX6_about_168 : decode cX6_about 168 = .ok (.iload_n 1, 1) := by decide +kernel
theorem dX6_about_169 : decode cX6_about 169 = .ok (.iload_n 2, 1) := by decide +kernel
theorem dX6_about_170 : decode cX6_about 170 = .ok (.iastore, 1) := by decide +kernel
theorem dX6_about_171 : decode cX6_about 171 = .ok (.aload_n 0, 1) := by decide +kernel
theorem dX6_about_172 : decode cX6_about 172 = .ok (.getfield 35, 3) := by decide +kernel
theorem dX6_about_175 : decode cX6_about 175 = .ok (.iload_n 1, 1) := by decide +kernel
theorem dX6_about_176 : decode cX6_about 176 = .ok (.iload 6, 2) := by decide +kernel
theorem dX6_about_178 : decode cX6_about 178 = .ok (.iastore, 1) := by decide +kernel
theorem dX6_about_179 : decode cX6_about 179 = .ok (.aload_n 0, 1) := by decide +kernel
theorem dX6_about_180 : decode cX6_about 180 = .ok (.getfield 41, 3) := by decide +kernel
theorem dX6_about_183 : decode cX6_about 183 = .ok (.iload_n 1, 1) := by decide +kernel
theorem dX6_about_184 : decode cX6_about 184 = .ok (.iload 4, 2) := by decide +kernel
theorem dX6_about_186 : decode cX6_about 186 = .ok (.iconst 2, 1) := by decide +kernel
theorem dX6_about_187 : decode cX6_about 187 = .ok (.if_icmp .le 7, 3) := by decide +kernel
theorem dX6_about_190 : decode cX6_about 190 = .ok (.iconst 2, 1) := by decide +kernel
theorem dX6_about_191 : decode cX6_about 191 = .ok (.goto 19, 3) := by decide +kernel
theorem dX6_about_194 : decode cX6_about 194 = .ok (.iload 5, 2) := by decide +kernel
theorem dX6_about_196 : decode cX6_about 196 = .ok (.iconst 2, 1) := by decide +kernel
theorem dX6_about_197 : decode cX6_about 197 = .ok (.if_icmp .ne 12, 3) := by decide +kernel
theorem dX6_about_200 : decode cX6_about 200 = .ok (.iload 7, 2) := by decide +kernel
theorem dX6_about_202 : decode cX6_about 202 = .ok (.ifCond .ne 7, 3) := by decide +kernel
theorem dX6_about_205 : decode cX6_about 205 = .ok (.iconst 1, 1) := by decide +kernel
theorem dX6_about_206 : decode cX6_about 206 = .ok (.goto 4, 3) := by decide +kernel
theorem dX6_about_209 : decode cX6_about 209 = .ok (.iconst 0, 1) := by decide +kernel
theorem dX6_about_210 : decode cX6_about 210 = .ok (.iastore, 1) := by decide +kernel
theorem dX6_about_211 : decode cX6_about 211 = .ok (.aload_n 0, 1) := by decide +kernel
theorem dX6_about_212 : decode cX6_about 212 = .ok (.getfield 38, 3) := by decide +kernel
theorem dX6_about_215 : decode cX6_about 215 = .ok (.iload_n 1, 1) := by decide +kernel
theorem dX6_about_216 : decode cX6_about 216 = .ok (.aload_n 0, 1) := by decide +kernel
theorem dX6_about_217 : decode cX6_about 217 = .ok (.getfield 41, 3) := by decide +kernel
theorem dX6_about_220 : decode cX6_about 220 = .ok (.iload_n 1, 1) := by decide +kernel
theorem dX6_about_221 : decode cX6_about 221 = .ok (.iaload, 1) := by decide +kernel
theorem dX6_about_222 : decode cX6_about 222 = .ok (.ifCond .ne 7, 3) := by decide +kernel
theorem dX6_about_225 : decode cX6_about 225 = .ok (.iload_n 3, 1) := by decide +kernel
theorem dX6_about_226 : decode cX6_about 226 = .ok (.goto 4, 3) := by decide +kernel
theorem dX6_about_229 : decode cX6_about 229 = .ok (.iconst 0, 1) := by decide +kernel
theorem dX6_about_230 : decode cX6_about 230 = .ok (.iastore, 1) := by decide +kernel
theorem dX6_about_231 : decode cX6_about 231 = .ok (.return_, 1) := by decide +kernel
theorem dX6_look_0 : decode cX6_look 0 = .ok (.aload_n 0, 1) := by decide +kernel
theorem dX6_look_1 : decode cX6_look 1 = .ok (.invokevirtual 151, 3) := by decide +kernel
theorem dX6_look_4 : decode cX6_look 4 = .ok (.aload_n 0, 1) := by decide +kernel
theorem dX6_look_5 : decode cX6_look 5 = .ok (.iload_n 1, 1) := by decide +kernel
theorem dX6_look_6 : decode cX6_look 6 = .ok (.invokevirtual 114, 3) := by decide +kernel
theorem dX6_look_9 : decode cX6_look 9 = .ok (.ifCond .ne 5, 3) := by decide +kernel
theorem dX6_look_12 : decode cX6_look 12 = .ok (.iconst (-1), 1) := by decide +kernel
theorem dX6_look_13 : decode cX6_look 13 = .ok (.ireturn, 1) := by decide +kernel
theorem dX6_look_14 : decode cX6_look 14 = .ok (.iload_n 2, 1) := by decide +kernel
theorem dX6_look_15 : decode cX6_look 15 = .ok (.tableswitch 56 0 3 #[29, 35, 42, 49], 29) := by decide +kernel
theorem dX6_look_44 : decode cX6_look 44 = .ok (.aload_n 0, 1) := by decide +kernel
theorem dX6_look_45 : decode cX6_look 45 = .ok (.iload_n 1, 1) := by decide +kernel
theorem dX6_look_46 : decode cX6_look 46 = .ok (.invokevirtual 98, 3) := by decide +kernel
theorem dX6_look_49 : decode cX6_look 49 = .ok (.ireturn, 1) := by decide +kernel
theorem dX6_look_50 : decode cX6_look 50 = .ok (.aload_n 0, 1) := by decide +kernel
theorem dX6_look_51 : decode cX6_look 51 = .ok (.getfield 16, 3) := by decide +kernel
theorem dX6_look_54 : decode cX6_look 54 = .ok (.iload_n 1, 1) := by decide +kernel
theorem dX6_look_55 : decode cX6_look 55 = .ok (.iaload, 1) := by decide +kernel
theorem dX6_look_56 : decode cX6_look 56 = .ok (.ireturn, 1) := by decide +kernel
theorem dX6_look_57 : decode cX6_look 57 = .ok (.aload_n 0, 1) := by decide +kernel
theorem dX6_look_58 : decode cX6_look 58 = .ok (.getfield 26, 3) := by decide +kernel
theorem dX6_look_61 : decode cX6_look 61 = .ok (.iload_n 1, 1) := by decide +kernel
theorem dX6_look_62 : decode cX6_look 62 = .ok (.iaload, 1) := by decide +kernel
theorem dX6_look_63 : decode cX6_look 63 = .ok (.ireturn, 1) := by decide +kernel
theorem dX6_look_64 : decode cX6_look 64 = .ok (.aload_n 0, 1) := by decide +kernel
theorem dX6_look_65 : decode cX6_look 65 = .ok (.getfield 29, 3) := by decide +kernel
theorem dX6_look_68 : decode cX6_look 68 = .ok (.iload_n 1, 1) := by decide +kernel
theorem dX6_look_69 : decode cX6_look 69 = .ok (.iaload, 1) := by decide +kernel
theorem dX6_look_70 : decode cX6_look 70 = .ok (.ireturn, 1) := by decide +kernel
theorem dX6_look_71 : decode cX6_look 71 = .ok (.iconst (-1), 1) := by decide +kernel
theorem dX6_look_72 : decode cX6_look 72 = .ok (.ireturn, 1) := by decide +kernel
theorem dX6_ask_0 : decode cX6_ask 0 = .ok (.aload_n 0, 1) := by decide +kernel
theorem dX6_ask_1 : decode cX6_ask 1 = .ok (.invokevirtual 125, 3) := by decide +kernel
theorem dX6_ask_4 : decode cX6_ask 4 = .ok (.aload_n 0, 1) := by decide +kernel
theorem dX6_ask_5 : decode cX6_ask 5 = .ok (.iload_n 1, 1) := by decide +kernel
theorem dX6_ask_6 : decode cX6_ask 6 = .ok (.invokevirtual 128, 3) := by decide +kernel
theorem dX6_ask_9 : decode cX6_ask 9 = .ok (.ifCond .ne 5, 3) := by decide +kernel
theorem dX6_ask_12 : decode cX6_ask 12 = .ok (.iconst (-1), 1) := by decide +kernel
theorem dX6_ask_13 : decode cX6_ask 13 = .ok (.ireturn, 1) := by decide +kernel
theorem dX6_ask_14 : decode cX6_ask 14 = .ok (.iload_n 2, 1) := by decide +kernel
theorem dX6_ask_15 : decode cX6_ask 15 = .ok (.tableswitch 77 0 3 #[29, 44, 51, 58], 29) := by decide +kernel
theorem dX6_ask_44 : decode cX6_ask 44 = .ok (.aload_n 0, 1) := by decide +kernel
theorem dX6_ask_45 : decode cX6_ask 45 = .ok (.getfield 22, 3) := by decide +kernel
theorem dX6_ask_48 : decode cX6_ask 48 = .ok (.iload_n 1, 1) := by decide +kernel
theorem dX6_ask_49 : decode cX6_ask 49 = .ok (.baload, 1) := by decide +kernel
theorem dX6_ask_50 : decode cX6_ask 50 = .ok (.ifCond .eq 7, 3) := by decide +kernel
theorem dX6_ask_53 : decode cX6_ask 53 = .ok (.iconst 1, 1) := by decide +kernel
theorem dX6_ask_54 : decode cX6_ask 54 = .ok (.goto 4, 3) := by decide +kernel
theorem dX6_ask_57 : decode cX6_ask 57 = .ok (.iconst 0, 1) := by decide +kernel
theorem dX6_ask_58 : decode cX6_ask 58 = .ok (.ireturn, 1) := by decide +kernel
theorem dX6_ask_59 : decode cX6_ask 59 = .ok (.aload_n 0, 1) := by decide +kernel
theorem dX6_ask_60 : decode cX6_ask 60 = .ok (.getfield 9, 3) := by decide +kernel
theorem dX6_ask_63 : decode cX6_ask 63 = .ok (.iload_n 1, 1) := by decide +kernel
theorem dX6_ask_64 : decode cX6_ask 64 = .ok (.iaload, 1) := by decide +kernel
theorem dX6_ask_65 : decode cX6_ask 65 = .ok (.ireturn, 1) := by decide +kernel
theorem dX6_ask_66 : decode cX6_ask 66 = .ok (.aload_n 0, 1) := by decide +kernel
theorem dX6_ask_67 : decode cX6_ask 67 = .ok (.getfield 13, 3) := by decide +kernel
theorem dX6_ask_70 : decode cX6_ask 70 = .ok (.iload_n 1, 1) := by decide +kernel
theorem dX6_ask_71 : decode cX6_ask 71 = .ok (.iaload, 1) := by decide +kernel
theorem dX6_ask_72 : decode cX6_ask 72 = .ok (.ireturn, 1) := by decide +kernel
theorem dX6_ask_73 : decode cX6_ask 73 = .ok (.aload_n 0, 1) := by decide +kernel
theorem dX6_ask_74 : decode cX6_ask 74 = .ok (.getfield 22, 3) := by decide +kernel
theorem dX6_ask_77 : decode cX6_ask 77 = .ok (.iload_n 1, 1) := by decide +kernel
theorem dX6_ask_78 : decode cX6_ask 78 = .ok (.baload, 1) := by decide +kernel
theorem dX6_ask_79 : decode cX6_ask 79 = .ok (.ifCond .eq 11, 3) := by decide +kernel
theorem dX6_ask_82 : decode cX6_ask 82 = .ok (.aload_n 0, 1) := by decide +kernel
theorem dX6_ask_83 : decode cX6_ask 83 = .ok (.iload_n 1, 1) := by decide +kernel
theorem dX6_ask_84 : decode cX6_ask 84 = .ok (.invokevirtual 108, 3) := by decide +kernel
theorem dX6_ask_87 : decode cX6_ask 87 = .ok (.goto 4, 3) := by decide +kernel
theorem dX6_ask_90 : decode cX6_ask 90 = .ok (.iconst 0, 1) := by decide +kernel
theorem dX6_ask_91 : decode cX6_ask 91 = .ok (.ireturn, 1) := by decide +kernel
theorem dX6_ask_92 : decode cX6_ask 92 = .ok (.iconst (-1), 1) := by decide +kernel
theorem dX6_ask_93 : decode cX6_ask 93 = .ok (.ireturn, 1) := by decide +kernel
theorem dX6_drawn_0 : decode cX6_drawn 0 = .ok (.aload_n 0, 1) := by decide +kernel
theorem dX6_drawn_1 : decode cX6_drawn 1 = .ok (.iload_n 1, 1) := by decide +kernel
theorem dX6_drawn_2 : decode cX6_drawn 2 = .ok (.ifCond .lt 11, 3) := by decide +kernel
theorem dX6_drawn_5 : decode cX6_drawn 5 = .ok (.iload_n 1, 1) := by decide +kernel
theorem dX6_drawn_6 : decode cX6_drawn 6 = .ok (.aload_n 0, 1) := by decide +kernel
theorem dX6_drawn_7 : decode cX6_drawn 7 = .ok (.getfield 105, 3) := by decide +kernel
theorem dX6_drawn_10 : decode cX6_drawn 10 = .ok (.if_icmp .lt 7, 3) := by decide +kernel
theorem dX6_drawn_13 : decode cX6_drawn 13 = .ok (.iconst 1, 1) := by decide +kernel
theorem dX6_drawn_14 : decode cX6_drawn 14 = .ok (.goto 4, 3) := by decide +kernel
theorem dX6_drawn_17 : decode cX6_drawn 17 = .ok (.iconst 0, 1) := by decide +kernel
theorem dX6_drawn_18 : decode cX6_drawn 18 = .ok (.putfield 84, 3) := by decide +kernel
theorem dX6_drawn_21 : decode cX6_drawn 21 = .ok (.aload_n 0, 1) := by decide +kernel
theorem dX6_drawn_22 : decode cX6_drawn 22 = .ok (.getfield 84, 3) := by decide +kernel
theorem dX6_drawn_25 : decode cX6_drawn 25 = .ok (.ifCond .le 7, 3) := by decide +kernel
theorem dX6_drawn_28 : decode cX6_drawn 28 = .ok (.iconst 0, 1) := by decide +kernel
theorem dX6_drawn_29 : decode cX6_drawn 29 = .ok (.goto 9, 3) := by decide +kernel
theorem dX6_drawn_32 : decode cX6_drawn 32 = .ok (.aload_n 0, 1) := by decide +kernel
theorem dX6_drawn_33 : decode cX6_drawn 33 = .ok (.getfield 19, 3) := by decide +kernel
theorem dX6_drawn_36 : decode cX6_drawn 36 = .ok (.iload_n 1, 1) := by decide +kernel
theorem dX6_drawn_37 : decode cX6_drawn 37 = .ok (.iaload, 1) := by decide +kernel
theorem dX6_drawn_38 : decode cX6_drawn 38 = .ok (.ireturn, 1) := by decide +kernel
theorem dX6_part_0 : decode cX6_part 0 = .ok (.aload_n 0, 1) := by decide +kernel
theorem dX6_part_1 : decode cX6_part 1 = .ok (.invokevirtual 151, 3) := by decide +kernel
theorem dX6_part_4 : decode cX6_part 4 = .ok (.iload_n 1, 1) := by decide +kernel
theorem dX6_part_5 : decode cX6_part 5 = .ok (.ifCond .lt 11, 3) := by decide +kernel
theorem dX6_part_8 : decode cX6_part 8 = .ok (.iload_n 1, 1) := by decide +kernel
theorem dX6_part_9 : decode cX6_part 9 = .ok (.aload_n 0, 1) := by decide +kernel
theorem dX6_part_10 : decode cX6_part 10 = .ok (.getfield 135, 3) := by decide +kernel
theorem dX6_part_13 : decode cX6_part 13 = .ok (.if_icmp .lt 5, 3) := by decide +kernel
theorem dX6_part_16 : decode cX6_part 16 = .ok (.iconst (-1), 1) := by decide +kernel
theorem dX6_part_17 : decode cX6_part 17 = .ok (.ireturn, 1) := by decide +kernel
theorem dX6_part_18 : decode cX6_part 18 = .ok (.iload_n 2, 1) := by decide +kernel
theorem dX6_part_19 : decode cX6_part 19 = .ok (.tableswitch 68 0 4 #[33, 40, 47, 54, 61], 33) := by decide +kernel
theorem dX6_part_52 : decode cX6_part 52 = .ok (.aload_n 0, 1) := by decide +kernel
theorem dX6_part_53 : decode cX6_part 53 = .ok (.getfield 41, 3) := by decide +kernel
theorem dX6_part_56 : decode cX6_part 56 = .ok (.iload_n 1, 1) := by decide +kernel
theorem dX6_part_57 : decode cX6_part 57 = .ok (.iaload, 1) := by decide +kernel
theorem dX6_part_58 : decode cX6_part 58 = .ok (.ireturn, 1) := by decide +kernel
theorem dX6_part_59 : decode cX6_part 59 = .ok (.aload_n 0, 1) := by decide +kernel
theorem dX6_part_60 : decode cX6_part 60 = .ok (.getfield 32, 3) := by decide +kernel
theorem dX6_part_63 : decode cX6_part 63 = .ok (.iload_n 1, 1) := by decide +kernel
theorem dX6_part_64 : decode cX6_part 64 = .ok (.iaload, 1) := by decide +kernel
theorem dX6_part_65 : decode cX6_part 65 = .ok (.ireturn, 1) := by decide +kernel
theorem dX6_part_66 : decode cX6_part 66 = .ok (.aload_n 0, 1) := by decide +kernel
theorem dX6_part_67 : decode cX6_part 67 = .ok (.getfield 35, 3) := by decide +kernel
theorem dX6_part_70 : decode cX6_part 70 = .ok (.iload_n 1, 1) := by decide +kernel
theorem dX6_part_71 : decode cX6_part 71 = .ok (.iaload, 1) := by decide +kernel
theorem dX6_part_72 : decode cX6_part 72 = .ok (.ireturn, 1) := by decide +kernel
theorem dX6_part_73 : decode cX6_part 73 = .ok (.aload_n 0, 1) := by decide +kernel
theorem dX6_part_74 : decode cX6_part 74 = .ok (.getfield 38, 3) := by decide +kernel
theorem dX6_part_77 : decode cX6_part 77 = .ok (.iload_n 1, 1) := by decide +kernel
theorem dX6_part_78 : decode cX6_part 78 = .ok (.iaload, 1) := by decide +kernel
theorem dX6_part_79 : decode cX6_part 79 = .ok (.ireturn, 1) := by decide +kernel
theorem dX6_part_80 : decode cX6_part 80 = .ok (.aload_n 0, 1) := by decide +kernel
theorem dX6_part_81 : decode cX6_part 81 = .ok (.getfield 44, 3) := by decide +kernel
theorem dX6_part_84 : decode cX6_part 84 = .ok (.iload_n 1, 1) := by decide +kernel
theorem dX6_part_85 : decode cX6_part 85 = .ok (.iaload, 1) := by decide +kernel
theorem dX6_part_86 : decode cX6_part 86 = .ok (.ireturn, 1) := by decide +kernel
theorem dX6_part_87 : decode cX6_part 87 = .ok (.iconst (-1), 1) := by decide +kernel
theorem dX6_part_88 : decode cX6_part 88 = .ok (.ireturn, 1) := by decide +kernel
theorem dX6_loose_0 : decode cX6_loose 0 = .ok (.aload_n 0, 1) := by decide +kernel
theorem dX6_loose_1 : decode cX6_loose 1 = .ok (.invokevirtual 125, 3) := by decide +kernel
theorem dX6_loose_4 : decode cX6_loose 4 = .ok (.iconst 0, 1) := by decide +kernel
theorem dX6_loose_5 : decode cX6_loose 5 = .ok (.istore_n 1, 1) := by decide +kernel
theorem dX6_loose_6 : decode cX6_loose 6 = .ok (.iconst 1, 1) := by decide +kernel
theorem dX6_loose_7 : decode cX6_loose 7 = .ok (.istore_n 2, 1) := by decide +kernel
theorem dX6_loose_8 : decode cX6_loose 8 = .ok (.iload_n 2, 1) := by decide +kernel
theorem dX6_loose_9 : decode cX6_loose 9 = .ok (.ifCond .eq 66, 3) := by decide +kernel
theorem dX6_loose_12 : decode cX6_loose 12 = .ok (.iconst 0, 1) := by decide +kernel
theorem dX6_loose_13 : decode cX6_loose 13 = .ok (.istore_n 2, 1) := by decide +kernel
theorem dX6_loose_14 : decode cX6_loose 14 = .ok (.iconst 0, 1) := by decide +kernel
theorem dX6_loose_15 : decode cX6_loose 15 = .ok (.istore_n 3, 1) := by decide +kernel
theorem dX6_loose_16 : decode cX6_loose 16 = .ok (.iload_n 3, 1) := by decide +kernel
theorem dX6_loose_17 : decode cX6_loose 17 = .ok (.aload_n 0, 1) := by decide +kernel
theorem dX6_loose_18 : decode cX6_loose 18 = .ok (.getfield 91, 3) := by decide +kernel
theorem dX6_loose_21 : decode cX6_loose 21 = .ok (.if_icmp .ge 51, 3) := by decide +kernel
theorem dX6_loose_24 : decode cX6_loose 24 = .ok (.aload_n 0, 1) := by decide +kernel
theorem dX6_loose_25 : decode cX6_loose 25 = .ok (.getfield 22, 3) := by decide +kernel
theorem dX6_loose_28 : decode cX6_loose 28 = .ok (.iload_n 3, 1) := by decide +kernel
theorem dX6_loose_29 : decode cX6_loose 29 = .ok (.baload, 1) := by decide +kernel
theorem dX6_loose_30 : decode cX6_loose 30 = .ok (.ifCond .eq 11, 3) := by decide +kernel
theorem dX6_loose_33 : decode cX6_loose 33 = .ok (.aload_n 0, 1) := by decide +kernel
theorem dX6_loose_34 : decode cX6_loose 34 = .ok (.iload_n 3, 1) := by decide +kernel
theorem dX6_loose_35 : decode cX6_loose 35 = .ok (.invokevirtual 108, 3) := by decide +kernel
theorem dX6_loose_38 : decode cX6_loose 38 = .ok (.goto 4, 3) := by decide +kernel
theorem dX6_loose_41 : decode cX6_loose 41 = .ok (.iconst 0, 1) := by decide +kernel
theorem dX6_loose_42 : decode cX6_loose 42 = .ok (.istore 4, 2) := by decide +kernel
theorem dX6_loose_44 : decode cX6_loose 44 = .ok (.iload 4, 2) := by decide +kernel
theorem dX6_loose_46 : decode cX6_loose 46 = .ok (.ifCond .ne 6, 3) := by decide +kernel
theorem dX6_loose_49 : decode cX6_loose 49 = .ok (.goto 17, 3) := by decide +kernel
theorem dX6_loose_52 : decode cX6_loose 52 = .ok (.aload_n 0, 1) := by decide +kernel
theorem dX6_loose_53 : decode cX6_loose 53 = .ok (.getfield 22, 3) := by decide +kernel
theorem dX6_loose_56 : decode cX6_loose 56 = .ok (.iload_n 3, 1) := by decide +kernel
theorem dX6_loose_57 : decode cX6_loose 57 = .ok (.iconst 0, 1) := by decide +kernel
theorem dX6_loose_58 : decode cX6_loose 58 = .ok (.bastore, 1) := by decide +kernel
theorem dX6_loose_59 : decode cX6_loose 59 = .ok (.iload_n 1, 1) := by decide +kernel
theorem dX6_loose_60 : decode cX6_loose 60 = .ok (.iload 4, 2) := by decide +kernel
theorem dX6_loose_62 : decode cX6_loose 62 = .ok (.iadd, 1) := by decide +kernel
theorem dX6_loose_63 : decode cX6_loose 63 = .ok (.istore_n 1, 1) := by decide +kernel
theorem dX6_loose_64 : decode cX6_loose 64 = .ok (.iconst 1, 1) := by decide +kernel
theorem dX6_loose_65 : decode cX6_loose 65 = .ok (.istore_n 2, 1) := by decide +kernel
theorem dX6_loose_66 : decode cX6_loose 66 = .ok (.iinc 3 1, 3) := by decide +kernel
theorem dX6_loose_69 : decode cX6_loose 69 = .ok (.goto (-53), 3) := by decide +kernel
theorem dX6_loose_72 : decode cX6_loose 72 = .ok (.goto (-64), 3) := by decide +kernel
theorem dX6_loose_75 : decode cX6_loose 75 = .ok (.iload_n 1, 1) := by decide +kernel
theorem dX6_loose_76 : decode cX6_loose 76 = .ok (.ireturn, 1) := by decide +kernel
theorem dX6_tries_0 : decode cX6_tries 0 = .ok (.aload_n 0, 1) := by decide +kernel
theorem dX6_tries_1 : decode cX6_tries 1 = .ok (.invokevirtual 125, 3) := by decide +kernel
theorem dX6_tries_4 : decode cX6_tries 4 = .ok (.aload_n 0, 1) := by decide +kernel
theorem dX6_tries_5 : decode cX6_tries 5 = .ok (.invokevirtual 131, 3) := by decide +kernel
theorem dX6_tries_8 : decode cX6_tries 8 = .ok (.bipush 16, 2) := by decide +kernel
theorem dX6_tries_10 : decode cX6_tries 10 = .ok (.if_icmp .le 5, 3) := by decide +kernel
theorem dX6_tries_13 : decode cX6_tries 13 = .ok (.iconst 0, 1) := by decide +kernel
theorem dX6_tries_14 : decode cX6_tries 14 = .ok (.ireturn, 1) := by decide +kernel
theorem dX6_tries_15 : decode cX6_tries 15 = .ok (.aload_n 0, 1) := by decide +kernel
theorem dX6_tries_16 : decode cX6_tries 16 = .ok (.iconst 0, 1) := by decide +kernel
theorem dX6_tries_17 : decode cX6_tries 17 = .ok (.putfield 154, 3) := by decide +kernel
theorem dX6_tries_20 : decode cX6_tries 20 = .ok (.iconst 0, 1) := by decide +kernel
theorem dX6_tries_21 : decode cX6_tries 21 = .ok (.istore_n 1, 1) := by decide +kernel
theorem dX6_tries_22 : decode cX6_tries 22 = .ok (.iload_n 1, 1) := by decide +kernel
theorem dX6_tries_23 : decode cX6_tries 23 = .ok (.aload_n 0, 1) := by decide +kernel
theorem dX6_tries_24 : decode cX6_tries 24 = .ok (.getfield 88, 3) := by decide +kernel
theorem dX6_tries_27 : decode cX6_tries 27 = .ok (.if_icmp .ge 16, 3) := by decide +kernel
theorem dX6_tries_30 : decode cX6_tries 30 = .ok (.aload_n 0, 1) := by decide +kernel
theorem dX6_tries_31 : decode cX6_tries 31 = .ok (.getfield 54, 3) := by decide +kernel
theorem dX6_tries_34 : decode cX6_tries 34 = .ok (.iload_n 1, 1) := by decide +kernel
theorem dX6_tries_35 : decode cX6_tries 35 = .ok (.iconst 0, 1) := by decide +kernel
theorem dX6_tries_36 : decode cX6_tries 36 = .ok (.iastore, 1) := by decide +kernel
theorem dX6_tries_37 : decode cX6_tries 37 = .ok (.iinc 1 1, 3) := by decide +kernel
theorem dX6_tries_40 : decode cX6_tries 40 = .ok (.goto (-18), 3) := by decide +kernel
theorem dX6_tries_43 : decode cX6_tries 43 = .ok (.iconst 0, 1) := by decide +kernel
theorem dX6_tries_44 : decode cX6_tries 44 = .ok (.istore_n 1, 1) := by decide +kernel
theorem dX6_tries_45 : decode cX6_tries 45 = .ok (.iload_n 1, 1) := by decide +kernel
theorem dX6_tries_46 : decode cX6_tries 46 = .ok (.aload_n 0, 1) := by decide +kernel
theorem dX6_tries_47 : decode cX6_tries 47 = .ok (.getfield 91, 3) := by decide +kernel
theorem dX6_tries_50 : decode cX6_tries 50 = .ok (.if_icmp .ge 91, 3) := by decide +kernel
theorem dX6_tries_53 : decode cX6_tries 53 = .ok (.aload_n 0, 1) := by decide +kernel
theorem dX6_tries_54 : decode cX6_tries 54 = .ok (.getfield 22, 3) := by decide +kernel
theorem dX6_tries_57 : decode cX6_tries 57 = .ok (.iload_n 1, 1) := by decide +kernel
theorem dX6_tries_58 : decode cX6_tries 58 = .ok (.baload, 1) := by decide +kernel
theorem dX6_tries_59 : decode cX6_tries 59 = .ok (.ifCond .ne 6, 3) := by decide +kernel
theorem dX6_tries_62 : decode cX6_tries 62 = .ok (.goto 73, 3) := by decide +kernel
theorem dX6_tries_65 : decode cX6_tries 65 = .ok (.aload_n 0, 1) := by decide +kernel
theorem dX6_tries_66 : decode cX6_tries 66 = .ok (.getfield 51, 3) := by decide +kernel
theorem dX6_tries_69 : decode cX6_tries 69 = .ok (.aload_n 0, 1) := by decide +kernel
theorem dX6_tries_70 : decode cX6_tries 70 = .ok (.getfield 154, 3) := by decide +kernel
theorem dX6_tries_73 : decode cX6_tries 73 = .ok (.iload_n 1, 1) := by decide +kernel
theorem dX6_tries_74 : decode cX6_tries 74 = .ok (.iastore, 1) := by decide +kernel
theorem dX6_tries_75 : decode cX6_tries 75 = .ok (.aload_n 0, 1) := by decide +kernel
theorem dX6_tries_76 : decode cX6_tries 76 = .ok (.getfield 54, 3) := by decide +kernel
theorem dX6_tries_79 : decode cX6_tries 79 = .ok (.aload_n 0, 1) := by decide +kernel
theorem dX6_tries_80 : decode cX6_tries 80 = .ok (.getfield 9, 3) := by decide +kernel
theorem dX6_tries_83 : decode cX6_tries 83 = .ok (.iload_n 1, 1) := by decide +kernel
theorem dX6_tries_84 : decode cX6_tries 84 = .ok (.iaload, 1) := by decide +kernel
theorem dX6_tries_85 : decode cX6_tries 85 = .ok (.dup2, 1) := by decide +kernel
theorem dX6_tries_86 : decode cX6_tries 86 = .ok (.iaload, 1) := by decide +kernel
theorem dX6_tries_87 : decode cX6_tries 87 = .ok (.iconst 1, 1) := by decide +kernel
theorem dX6_tries_88 : decode cX6_tries 88 = .ok (.aload_n 0, 1) := by decide +kernel
theorem dX6_tries_89 : decode cX6_tries 89 = .ok (.getfield 154, 3) := by decide +kernel
theorem dX6_tries_92 : decode cX6_tries 92 = .ok (.ishl, 1) := by decide +kernel
theorem dX6_tries_93 : decode cX6_tries 93 = .ok (.ior, 1) := by decide +kernel
theorem dX6_tries_94 : decode cX6_tries 94 = .ok (.iastore, 1) := by decide +kernel
theorem dX6_tries_95 : decode cX6_tries 95 = .ok (.aload_n 0, 1) := by decide +kernel
theorem dX6_tries_96 : decode cX6_tries 96 = .ok (.getfield 13, 3) := by decide +kernel
theorem dX6_tries_99 : decode cX6_tries 99 = .ok (.iload_n 1, 1) := by decide +kernel
theorem dX6_tries_100 : decode cX6_tries 100 = .ok (.iaload, 1) := by decide +kernel
theorem dX6_tries_101 : decode cX6_tries 101 = .ok (.iconst (-1), 1) := by decide +kernel
theorem dX6_tries_102 : decode cX6_tries 102 = .ok (.if_icmp .eq 23, 3) := by decide +kernel
theorem dX6_tries_105 : decode cX6_tries 105 = .ok (.aload_n 0, 1) := by decide +kernel
theorem dX6_tries_106 : decode cX6_tries 106 = .ok (.getfield 54, 3) := by decide +kernel
theorem dX6_tries_109 : decode cX6_tries 109 = .ok (.aload_n 0, 1) := by decide +kernel
theorem dX6_tries_110 : decode cX6_tries 110 = .ok (.getfield 13, 3) := by decide +kernel
theorem dX6_tries_113 : decode cX6_tries 113 = .ok (.iload_n 1, 1) := by decide +kernel
theorem dX6_tries_114 : decode cX6_tries 114 = .ok (.iaload, 1) := by decide +kernel
theorem dX6_tries_115 : decode cX6_tries 115 = .ok (.dup2, 1) := by decide +kernel
theorem dX6_tries_116 : decode cX6_tries 116 = .ok (.iaload, 1) := by decide +kernel
theorem dX6_tries_117 : decode cX6_tries 117 = .ok (.iconst 1, 1) := by decide +kernel
theorem dX6_tries_118 : decode cX6_tries 118 = .ok (.aload_n 0, 1) := by decide +kernel
theorem dX6_tries_119 : decode cX6_tries 119 = .ok (.getfield 154, 3) := by decide +kernel
theorem dX6_tries_122 : decode cX6_tries 122 = .ok (.ishl, 1) := by decide +kernel
theorem dX6_tries_123 : decode cX6_tries 123 = .ok (.ior, 1) := by decide +kernel
theorem dX6_tries_124 : decode cX6_tries 124 = .ok (.iastore, 1) := by decide +kernel
theorem dX6_tries_125 : decode cX6_tries 125 = .ok (.aload_n 0, 1) := by decide +kernel
theorem dX6_tries_126 : decode cX6_tries 126 = .ok (.dup, 1) := by decide +kernel
theorem dX6_tries_127 : decode cX6_tries 127 = .ok (.getfield 154, 3) := by decide +kernel
theorem dX6_tries_130 : decode cX6_tries 130 = .ok (.iconst 1, 1) := by decide +kernel
theorem dX6_tries_131 : decode cX6_tries 131 = .ok (.iadd, 1) := by decide +kernel
theorem dX6_tries_132 : decode cX6_tries 132 = .ok (.putfield 154, 3) := by decide +kernel
theorem dX6_tries_135 : decode cX6_tries 135 = .ok (.iinc 1 1, 3) := by decide +kernel
theorem dX6_tries_138 : decode cX6_tries 138 = .ok (.goto (-93), 3) := by decide +kernel
theorem dX6_tries_141 : decode cX6_tries 141 = .ok (.aload_n 0, 1) := by decide +kernel
theorem dX6_tries_142 : decode cX6_tries 142 = .ok (.getfield 48, 3) := by decide +kernel
theorem dX6_tries_145 : decode cX6_tries 145 = .ok (.iconst 0, 1) := by decide +kernel
theorem dX6_tries_146 : decode cX6_tries 146 = .ok (.iconst 0, 1) := by decide +kernel
theorem dX6_tries_147 : decode cX6_tries 147 = .ok (.iastore, 1) := by decide +kernel
theorem dX6_tries_148 : decode cX6_tries 148 = .ok (.iconst 1, 1) := by decide +kernel
theorem dX6_tries_149 : decode cX6_tries 149 = .ok (.istore_n 1, 1) := by decide +kernel
theorem dX6_tries_150 : decode cX6_tries 150 = .ok (.iload_n 1, 1) := by decide +kernel
theorem dX6_tries_151 : decode cX6_tries 151 = .ok (.iconst 1, 1) := by decide +kernel
theorem dX6_tries_152 : decode cX6_tries 152 = .ok (.aload_n 0, 1) := by decide +kernel
theorem dX6_tries_153 : decode cX6_tries 153 = .ok (.getfield 154, 3) := by decide +kernel
theorem dX6_tries_156 : decode cX6_tries 156 = .ok (.ishl, 1) := by decide +kernel
theorem dX6_tries_157 : decode cX6_tries 157 = .ok (.if_icmp .ge 55, 3) := by decide +kernel
theorem dX6_tries_160 : decode cX6_tries 160 = .ok (.ldc 159, 2) := by decide +kernel
theorem dX6_tries_162 : decode cX6_tries 162 = .ok (.istore_n 2, 1) := by decide +kernel
theorem dX6_tries_163 : decode cX6_tries 163 = .ok (.iconst 0, 1) := by decide +kernel
theorem dX6_tries_164 : decode cX6_tries 164 = .ok (.istore_n 3, 1) := by decide +kernel
theorem dX6_tries_165 : decode cX6_tries 165 = .ok (.iload_n 3, 1) := by decide +kernel
theorem dX6_tries_166 : decode cX6_tries 166 = .ok (.aload_n 0, 1) := by decide +kernel
theorem dX6_tries_167 : decode cX6_tries 167 = .ok (.getfield 154, 3) := by decide +kernel
theorem dX6_tries_170 : decode cX6_tries 170 = .ok (.if_icmp .ge 29, 3) := by decide +kernel
theorem dX6_tries_173 : decode cX6_tries 173 = .ok (.iload_n 1, 1) := by decide +kernel
theorem dX6_tries_174 : decode cX6_tries 174 = .ok (.iload_n 3, 1) := by decide +kernel
theorem dX6_tries_175 : decode cX6_tries 175 = .ok (.ishr, 1) := by decide +kernel
theorem dX6_tries_176 : decode cX6_tries 176 = .ok (.iconst 1, 1) := by decide +kernel
theorem dX6_tries_177 : decode cX6_tries 177 = .ok (.iand, 1) := by decide +kernel
theorem dX6_tries_178 : decode cX6_tries 178 = .ok (.iconst 1, 1) := by decide +kernel
theorem dX6_tries_179 : decode cX6_tries 179 = .ok (.if_icmp .ne 14, 3) := by decide +kernel
theorem dX6_tries_182 : decode cX6_tries 182 = .ok (.iload_n 2, 1) := by decide +kernel
theorem dX6_tries_183 : decode cX6_tries 183 = .ok (.aload_n 0, 1) := by decide +kernel
theorem dX6_tries_184 : decode cX6_tries 184 = .ok (.iload_n 1, 1) := by decide +kernel
theorem dX6_tries_185 : decode cX6_tries 185 = .ok (.iload_n 3, 1) := by decide +kernel
theorem dX6_tries_186 : decode cX6_tries 186 = .ok (.invokevirtual 160, 3) := by decide +kernel
theorem dX6_tries_189 : decode cX6_tries 189 = .ok (.invokestatic 148, 3) := by decide +kernel
theorem dX6_tries_192 : decode cX6_tries 192 = .ok (.istore_n 2, 1) := by decide +kernel
theorem dX6_tries_193 : decode cX6_tries 193 = .ok (.iinc 3 1, 3) := by decide +kernel
theorem dX6_tries_196 : decode cX6_tries 196 = .ok (.goto (-31), 3) := by decide +kernel
theorem dX6_tries_199 : decode cX6_tries 199 = .ok (.aload_n 0, 1) := by decide +kernel
theorem dX6_tries_200 : decode cX6_tries 200 = .ok (.getfield 48, 3) := by decide +kernel
theorem dX6_tries_203 : decode cX6_tries 203 = .ok (.iload_n 1, 1) := by decide +kernel
theorem dX6_tries_204 : decode cX6_tries 204 = .ok (.iload_n 2, 1) := by decide +kernel
theorem dX6_tries_205 : decode cX6_tries 205 = .ok (.iastore, 1) := by decide +kernel
theorem dX6_tries_206 : decode cX6_tries 206 = .ok (.iinc 1 1, 3) := by decide +kernel
theorem dX6_tries_209 : decode cX6_tries 209 = .ok (.goto (-59), 3) := by decide +kernel
theorem dX6_tries_212 : decode cX6_tries 212 = .ok (.iconst 1, 1) := by decide +kernel
theorem dX6_tries_213 : decode cX6_tries 213 = .ok (.ireturn, 1) := by decide +kernel
theorem dX6_behind_0 : decode cX6_behind 0 = .ok (.aload_n 0, 1) := by decide +kernel
theorem dX6_behind_1 : decode cX6_behind 1 = .ok (.getfield 51, 3) := by decide +kernel
theorem dX6_behind_4 : decode cX6_behind 4 = .ok (.iload_n 2, 1) := by decide +kernel
theorem dX6_behind_5 : decode cX6_behind 5 = .ok (.iaload, 1) := by decide +kernel
theorem dX6_behind_6 : decode cX6_behind 6 = .ok (.istore_n 3, 1) := by decide +kernel
theorem dX6_behind_7 : decode cX6_behind 7 = .ok (.aload_n 0, 1) := by decide +kernel
theorem dX6_behind_8 : decode cX6_behind 8 = .ok (.getfield 54, 3) := by decide +kernel
theorem dX6_behind_11 : decode cX6_behind 11 = .ok (.aload_n 0, 1) := by decide +kernel
theorem dX6_behind_12 : decode cX6_behind 12 = .ok (.getfield 9, 3) := by decide +kernel
theorem dX6_behind_15 : decode cX6_behind 15 = .ok (.iload_n 3, 1) := by decide +kernel
theorem dX6_behind_16 : decode cX6_behind 16 = .ok (.iaload, 1) := by decide +kernel
theorem dX6_behind_17 : decode cX6_behind 17 = .ok (.iaload, 1) := by decide +kernel
theorem dX6_behind_18 : decode cX6_behind 18 = .ok (.iload_n 1, 1) := by decide +kernel
theorem dX6_behind_19 : decode cX6_behind 19 = .ok (.iand, 1) := by decide +kernel
theorem dX6_behind_20 : decode cX6_behind 20 = .ok (.iconst 1, 1) := by decide +kernel
theorem dX6_behind_21 : decode cX6_behind 21 = .ok (.iload_n 2, 1) := by decide +kernel
theorem dX6_behind_22 : decode cX6_behind 22 = .ok (.ishl, 1) := by decide +kernel
theorem dX6_behind_23 : decode cX6_behind 23 = .ok (.if_icmp .ne 7, 3) := by decide +kernel
theorem dX6_behind_26 : decode cX6_behind 26 = .ok (.iconst 1, 1) := by decide +kernel
theorem dX6_behind_27 : decode cX6_behind 27 = .ok (.goto 4, 3) := by decide +kernel
theorem dX6_behind_30 : decode cX6_behind 30 = .ok (.iconst 0, 1) := by decide +kernel
theorem dX6_behind_31 : decode cX6_behind 31 = .ok (.istore 4, 2) := by decide +kernel
theorem dX6_behind_33 : decode cX6_behind 33 = .ok (.aload_n 0, 1) := by decide +kernel
theorem dX6_behind_34 : decode cX6_behind 34 = .ok (.getfield 13, 3) := by decide +kernel
theorem dX6_behind_37 : decode cX6_behind 37 = .ok (.iload_n 3, 1) := by decide +kernel
theorem dX6_behind_38 : decode cX6_behind 38 = .ok (.iaload, 1) := by decide +kernel
theorem dX6_behind_39 : decode cX6_behind 39 = .ok (.iconst (-1), 1) := by decide +kernel
theorem dX6_behind_40 : decode cX6_behind 40 = .ok (.if_icmp .eq 25, 3) := by decide +kernel
theorem dX6_behind_43 : decode cX6_behind 43 = .ok (.aload_n 0, 1) := by decide +kernel
theorem dX6_behind_44 : decode cX6_behind 44 = .ok (.getfield 54, 3) := by decide +kernel
theorem dX6_behind_47 : decode cX6_behind 47 = .ok (.aload_n 0, 1) := by decide +kernel
theorem dX6_behind_48 : decode cX6_behind 48 = .ok (.getfield 13, 3) := by decide +kernel
theorem dX6_behind_51 : decode cX6_behind 51 = .ok (.iload_n 3, 1) := by decide +kernel
theorem dX6_behind_52 : decode cX6_behind 52 = .ok (.iaload, 1) := by decide +kernel
theorem dX6_behind_53 : decode cX6_behind 53 = .ok (.iaload, 1) := by decide +kernel
theorem dX6_behind_54 : decode cX6_behind 54 = .ok (.iload_n 1, 1) := by decide +kernel
theorem dX6_behind_55 : decode cX6_behind 55 = .ok (.iand, 1) := by decide +kernel
theorem dX6_behind_56 : decode cX6_behind 56 = .ok (.iconst 1, 1) := by decide +kernel
theorem dX6_behind_57 : decode cX6_behind 57 = .ok (.iload_n 2, 1) := by decide +kernel
theorem dX6_behind_58 : decode cX6_behind 58 = .ok (.ishl, 1) := by decide +kernel
theorem dX6_behind_59 : decode cX6_behind 59 = .ok (.if_icmp .ne 6, 3) := by decide +kernel
theorem dX6_behind_62 : decode cX6_behind 62 = .ok (.iinc 4 1, 3) := by decide +kernel
theorem dX6_behind_65 : decode cX6_behind 65 = .ok (.aload_n 0, 1) := by decide +kernel
theorem dX6_behind_66 : decode cX6_behind 66 = .ok (.getfield 48, 3) := by decide +kernel
theorem dX6_behind_69 : decode cX6_behind 69 = .ok (.iload_n 1, 1) := by decide +kernel
theorem dX6_behind_70 : decode cX6_behind 70 = .ok (.iconst 1, 1) := by decide +kernel
theorem dX6_behind_71 : decode cX6_behind 71 = .ok (.iload_n 2, 1) := by decide +kernel
theorem dX6_behind_72 : decode cX6_behind 72 = .ok (.ishl, 1) := by decide +kernel
theorem dX6_behind_73 : decode cX6_behind 73 = .ok (.iconst (-1), 1) := by decide +kernel
theorem dX6_behind_74 : decode cX6_behind 74 = .ok (.ixor, 1) := by decide +kernel
theorem dX6_behind_75 : decode cX6_behind 75 = .ok (.iand, 1) := by decide +kernel
theorem dX6_behind_76 : decode cX6_behind 76 = .ok (.iaload, 1) := by decide +kernel
theorem dX6_behind_77 : decode cX6_behind 77 = .ok (.istore 5, 2) := by decide +kernel
theorem dX6_behind_79 : decode cX6_behind 79 = .ok (.iload 4, 2) := by decide +kernel
theorem dX6_behind_81 : decode cX6_behind 81 = .ok (.ifCond .le 11, 3) := by decide +kernel
theorem dX6_behind_84 : decode cX6_behind 84 = .ok (.iload 4, 2) := by decide +kernel
theorem dX6_behind_86 : decode cX6_behind 86 = .ok (.iload 5, 2) := by decide +kernel
theorem dX6_behind_88 : decode cX6_behind 88 = .ok (.iadd, 1) := by decide +kernel
theorem dX6_behind_89 : decode cX6_behind 89 = .ok (.goto 6, 3) := by decide +kernel
theorem dX6_behind_92 : decode cX6_behind 92 = .ok (.iload 5, 2) := by decide +kernel
theorem dX6_behind_94 : decode cX6_behind 94 = .ok (.ineg, 1) := by decide +kernel
theorem dX6_behind_95 : decode cX6_behind 95 = .ok (.ireturn, 1) := by decide +kernel
theorem dX6_worth_0 : decode cX6_worth 0 = .ok (.aload_n 0, 1) := by decide +kernel
theorem dX6_worth_1 : decode cX6_worth 1 = .ok (.invokevirtual 163, 3) := by decide +kernel
theorem dX6_worth_4 : decode cX6_worth 4 = .ok (.ifCond .eq 19, 3) := by decide +kernel
theorem dX6_worth_7 : decode cX6_worth 7 = .ok (.aload_n 0, 1) := by decide +kernel
theorem dX6_worth_8 : decode cX6_worth 8 = .ok (.getfield 48, 3) := by decide +kernel
theorem dX6_worth_11 : decode cX6_worth 11 = .ok (.iconst 1, 1) := by decide +kernel
theorem dX6_worth_12 : decode cX6_worth 12 = .ok (.aload_n 0, 1) := by decide +kernel
theorem dX6_worth_13 : decode cX6_worth 13 = .ok (.getfield 154, 3) := by decide +kernel
theorem dX6_worth_16 : decode cX6_worth 16 = .ok (.ishl, 1) := by decide +kernel
theorem dX6_worth_17 : decode cX6_worth 17 = .ok (.iconst 1, 1) := by decide +kernel
theorem dX6_worth_18 : decode cX6_worth 18 = .ok (.isub, 1) := by decide +kernel
theorem dX6_worth_19 : decode cX6_worth 19 = .ok (.iaload, 1) := by decide +kernel
theorem dX6_worth_20 : decode cX6_worth 20 = .ok (.goto 6, 3) := by decide +kernel
theorem dX6_worth_23 : decode cX6_worth 23 = .ok (.sipush 1000, 3) := by decide +kernel
theorem dX6_worth_26 : decode cX6_worth 26 = .ok (.ireturn, 1) := by decide +kernel
theorem dX6_worthAt_0 : decode cX6_worthAt 0 = .ok (.iconst 0, 1) := by decide +kernel
theorem dX6_worthAt_1 : decode cX6_worthAt 1 = .ok (.istore_n 2, 1) := by decide +kernel
theorem dX6_worthAt_2 : decode cX6_worthAt 2 = .ok (.iload_n 2, 1) := by decide +kernel
theorem dX6_worthAt_3 : decode cX6_worthAt 3 = .ok (.aload_n 0, 1) := by decide +kernel
theorem dX6_worthAt_4 : decode cX6_worthAt 4 = .ok (.getfield 154, 3) := by decide +kernel
theorem dX6_worthAt_7 : decode cX6_worthAt 7 = .ok (.if_icmp .ge 33, 3) := by decide +kernel
theorem dX6_worthAt_10 : decode cX6_worthAt 10 = .ok (.aload_n 0, 1) := by decide +kernel
theorem dX6_worthAt_11 : decode cX6_worthAt 11 = .ok (.getfield 51, 3) := by decide +kernel
theorem dX6_worthAt_14 : decode cX6_worthAt 14 = .ok (.iload_n 2, 1) := by decide +kernel
theorem dX6_worthAt_15 : decode cX6_worthAt 15 = .ok (.iaload, 1) := by decide +kernel
theorem dX6_worthAt_16 : decode cX6_worthAt 16 = .ok (.iload_n 1, 1) := by decide +kernel
theorem dX6_worthAt_17 : decode cX6_worthAt 17 = .ok (.if_icmp .ne 17, 3) := by decide +kernel
theorem dX6_worthAt_20 : decode cX6_worthAt 20 = .ok (.aload_n 0, 1) := by decide +kernel
theorem dX6_worthAt_21 : decode cX6_worthAt 21 = .ok (.iconst 1, 1) := by decide +kernel
theorem dX6_worthAt_22 : decode cX6_worthAt 22 = .ok (.aload_n 0, 1) := by decide +kernel
theorem dX6_worthAt_23 : decode cX6_worthAt 23 = .ok (.getfield 154, 3) := by decide +kernel
theorem dX6_worthAt_26 : decode cX6_worthAt 26 = .ok (.ishl, 1) := by decide +kernel
theorem dX6_worthAt_27 : decode cX6_worthAt 27 = .ok (.iconst 1, 1) := by decide +kernel
theorem dX6_worthAt_28 : decode cX6_worthAt 28 = .ok (.isub, 1) := by decide +kernel
theorem dX6_worthAt_29 : decode cX6_worthAt 29 = .ok (.iload_n 2, 1) := by decide +kernel
theorem dX6_worthAt_30 : decode cX6_worthAt 30 = .ok (.invokevirtual 160, 3) := by decide +kernel
theorem dX6_worthAt_33 : decode cX6_worthAt 33 = .ok (.ireturn, 1) := by decide +kernel
theorem dX6_worthAt_34 : decode cX6_worthAt 34 = .ok (.iinc 2 1, 3) := by decide +kernel
theorem dX6_worthAt_37 : decode cX6_worthAt 37 = .ok (.goto (-35), 3) := by decide +kernel
theorem dX6_worthAt_40 : decode cX6_worthAt 40 = .ok (.sipush 1000, 3) := by decide +kernel
theorem dX6_worthAt_43 : decode cX6_worthAt 43 = .ok (.ireturn, 1) := by decide +kernel
theorem dX6_worthOf_0 : decode cX6_worthOf 0 = .ok (.aload_n 0, 1) := by decide +kernel
theorem dX6_worthOf_1 : decode cX6_worthOf 1 = .ok (.invokevirtual 163, 3) := by decide +kernel
theorem dX6_worthOf_4 : decode cX6_worthOf 4 = .ok (.ifCond .eq 11, 3) := by decide +kernel
theorem dX6_worthOf_7 : decode cX6_worthOf 7 = .ok (.aload_n 0, 1) := by decide +kernel
theorem dX6_worthOf_8 : decode cX6_worthOf 8 = .ok (.iload_n 1, 1) := by decide +kernel
theorem dX6_worthOf_9 : decode cX6_worthOf 9 = .ok (.invokevirtual 167, 3) := by decide +kernel
theorem dX6_worthOf_12 : decode cX6_worthOf 12 = .ok (.goto 6, 3) := by decide +kernel
theorem dX6_worthOf_15 : decode cX6_worthOf 15 = .ok (.sipush 1000, 3) := by decide +kernel
theorem dX6_worthOf_18 : decode cX6_worthOf 18 = .ok (.ireturn, 1) := by decide +kernel
theorem dX6_best_0 : decode cX6_best 0 = .ok (.aload_n 0, 1) := by decide +kernel
theorem dX6_best_1 : decode cX6_best 1 = .ok (.invokevirtual 163, 3) := by decide +kernel
theorem dX6_best_4 : decode cX6_best 4 = .ok (.ifCond .eq 7, 3) := by decide +kernel
theorem dX6_best_7 : decode cX6_best 7 = .ok (.iload_n 1, 1) := by decide +kernel
theorem dX6_best_8 : decode cX6_best 8 = .ok (.ifCond .ge 5, 3) := by decide +kernel
theorem dX6_best_11 : decode cX6_best 11 = .ok (.iconst (-1), 1) := by decide +kernel
theorem dX6_best_12 : decode cX6_best 12 = .ok (.ireturn, 1) := by decide +kernel
theorem dX6_best_13 : decode cX6_best 13 = .ok (.iconst 0, 1) := by decide +kernel
theorem dX6_best_14 : decode cX6_best 14 = .ok (.istore_n 2, 1) := by decide +kernel
theorem dX6_best_15 : decode cX6_best 15 = .ok (.iconst 0, 1) := by decide +kernel
theorem dX6_best_16 : decode cX6_best 16 = .ok (.istore_n 3, 1) := by decide +kernel
theorem dX6_best_17 : decode cX6_best 17 = .ok (.iload_n 3, 1) := by decide +kernel
theorem dX6_best_18 : decode cX6_best 18 = .ok (.aload_n 0, 1) := by decide +kernel
theorem dX6_best_19 : decode cX6_best 19 = .ok (.getfield 154, 3) := by decide +kernel
theorem dX6_best_22 : decode cX6_best 22 = .ok (.if_icmp .ge 56, 3) := by decide +kernel
theorem dX6_best_25 : decode cX6_best 25 = .ok (.aload_n 0, 1) := by decide +kernel
theorem dX6_best_26 : decode cX6_best 26 = .ok (.iconst 1, 1) := by decide +kernel
theorem dX6_best_27 : decode cX6_best 27 = .ok (.aload_n 0, 1) := by decide +kernel
theorem dX6_best_28 : decode cX6_best 28 = .ok (.getfield 154, 3) := by decide +kernel
theorem dX6_best_31 : decode cX6_best 31 = .ok (.ishl, 1) := by decide +kernel
theorem dX6_best_32 : decode cX6_best 32 = .ok (.iconst 1, 1) := by decide +kernel
theorem dX6_best_33 : decode cX6_best 33 = .ok (.isub, 1) := by decide +kernel
theorem dX6_best_34 : decode cX6_best 34 = .ok (.iload_n 3, 1) := by decide +kernel
theorem dX6_best_35 : decode cX6_best 35 = .ok (.invokevirtual 160, 3) := by decide +kernel
theorem dX6_best_38 : decode cX6_best 38 = .ok (.aload_n 0, 1) := by decide +kernel
theorem dX6_best_39 : decode cX6_best 39 = .ok (.getfield 48, 3) := by decide +kernel
theorem dX6_best_42 : decode cX6_best 42 = .ok (.iconst 1, 1) := by decide +kernel
theorem dX6_best_43 : decode cX6_best 43 = .ok (.aload_n 0, 1) := by decide +kernel
theorem dX6_best_44 : decode cX6_best 44 = .ok (.getfield 154, 3) := by decide +kernel
theorem dX6_best_47 : decode cX6_best 47 = .ok (.ishl, 1) := by decide +kernel
theorem dX6_best_48 : decode cX6_best 48 = .ok (.iconst 1, 1) := by decide +kernel
