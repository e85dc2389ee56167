theorem dX0_init_0 : decode cX0_init 0 = .ok (.aload_n 0, 1) := by decide +kernel
theorem dX0_init_1 : decode cX0_init 1 = .ok (.invokespecial 3, 3) := by decide +kernel
theorem dX0_init_4 : decode cX0_init 4 = .ok (.aload_n 0, 1) := by decide +kernel
theorem dX0_init_5 : decode cX0_init 5 = .ok (.new 9, 3) := by decide +kernel
theorem dX0_init_8 : decode cX0_init 8 = .ok (.dup, 1) := by decide +kernel
theorem dX0_init_9 : decode cX0_init 9 = .ok (.invokespecial 11, 3) := by decide +kernel
theorem dX0_init_12 : decode cX0_init 12 = .ok (.putfield 12, 3) := by decide +kernel
theorem dX0_init_15 : decode cX0_init 15 = .ok (.aload_n 0, 1) := by decide +kernel
theorem dX0_init_16 : decode cX0_init 16 = .ok (.iconst (-1), 1) := by decide +kernel
theorem dX0_init_17 : decode cX0_init 17 = .ok (.putfield 18, 3) := by decide +kernel
theorem dX0_init_20 : decode cX0_init 20 = .ok (.return_, 1) := by decide +kernel
theorem dX0_reckon_0 : decode cX0_reckon 0 = .ok (.aload_n 0, 1) := by decide +kernel
theorem dX0_reckon_1 : decode cX0_reckon 1 = .ok (.getfield 18, 3) := by decide +kernel
theorem dX0_reckon_4 : decode cX0_reckon 4 = .ok (.aload_n 1, 1) := by decide +kernel
theorem dX0_reckon_5 : decode cX0_reckon 5 = .ok (.getfield 22, 3) := by decide +kernel
theorem dX0_reckon_8 : decode cX0_reckon 8 = .ok (.if_icmp .ne 4, 3) := by decide +kernel
theorem dX0_reckon_11 : decode cX0_reckon 11 = .ok (.return_, 1) := by decide +kernel
theorem dX0_reckon_12 : decode cX0_reckon 12 = .ok (.aload_n 0, 1) := by decide +kernel
theorem dX0_reckon_13 : decode cX0_reckon 13 = .ok (.aload_n 1, 1) := by decide +kernel
theorem dX0_reckon_14 : decode cX0_reckon 14 = .ok (.getfield 22, 3) := by decide +kernel
theorem dX0_reckon_17 : decode cX0_reckon 17 = .ok (.putfield 18, 3) := by decide +kernel
theorem dX0_reckon_20 : decode cX0_reckon 20 = .ok (.aload_n 0, 1) := by decide +kernel
theorem dX0_reckon_21 : decode cX0_reckon 21 = .ok (.aload_n 1, 1) := by decide +kernel
theorem dX0_reckon_22 : decode cX0_reckon 22 = .ok (.getfield 25, 3) := by decide +kernel
theorem dX0_reckon_25 : decode cX0_reckon 25 = .ok (.ifCond .ne 7, 3) := by decide +kernel
theorem dX0_reckon_28 : decode cX0_reckon 28 = .ok (.iconst 1, 1) := by decide +kernel
theorem dX0_reckon_29 : decode cX0_reckon 29 = .ok (.goto 4, 3) := by decide +kernel
theorem dX0_reckon_32 : decode cX0_reckon 32 = .ok (.iconst 0, 1) := by decide +kernel
theorem dX0_reckon_33 : decode cX0_reckon 33 = .ok (.putfield 28, 3) := by decide +kernel
theorem dX0_reckon_36 : decode cX0_reckon 36 = .ok (.aload_n 0, 1) := by decide +kernel
theorem dX0_reckon_37 : decode cX0_reckon 37 = .ok (.iconst 0, 1) := by decide +kernel
theorem dX0_reckon_38 : decode cX0_reckon 38 = .ok (.putfield 32, 3) := by decide +kernel
theorem dX0_reckon_41 : decode cX0_reckon 41 = .ok (.aload_n 0, 1) := by decide +kernel
theorem dX0_reckon_42 : decode cX0_reckon 42 = .ok (.iconst 0, 1) := by decide +kernel
theorem dX0_reckon_43 : decode cX0_reckon 43 = .ok (.putfield 35, 3) := by decide +kernel
theorem dX0_reckon_46 : decode cX0_reckon 46 = .ok (.aload_n 0, 1) := by decide +kernel
theorem dX0_reckon_47 : decode cX0_reckon 47 = .ok (.iconst 0, 1) := by decide +kernel
theorem dX0_reckon_48 : decode cX0_reckon 48 = .ok (.putfield 38, 3) := by decide +kernel
theorem dX0_reckon_51 : decode cX0_reckon 51 = .ok (.aload_n 0, 1) := by decide +kernel
theorem dX0_reckon_52 : decode cX0_reckon 52 = .ok (.iconst 0, 1) := by decide +kernel
theorem dX0_reckon_53 : decode cX0_reckon 53 = .ok (.putfield 41, 3) := by decide +kernel
theorem dX0_reckon_56 : decode cX0_reckon 56 = .ok (.aload_n 0, 1) := by decide +kernel
theorem dX0_reckon_57 : decode cX0_reckon 57 = .ok (.getfield 12, 3) := by decide +kernel
theorem dX0_reckon_60 : decode cX0_reckon 60 = .ok (.invokevirtual 44, 3) := by decide +kernel
theorem dX0_reckon_63 : decode cX0_reckon 63 = .ok (.iconst 0, 1) := by decide +kernel
theorem dX0_reckon_64 : decode cX0_reckon 64 = .ok (.istore_n 2, 1) := by decide +kernel
theorem dX0_reckon_65 : decode cX0_reckon 65 = .ok (.iload_n 2, 1) := by decide +kernel
theorem dX0_reckon_66 : decode cX0_reckon 66 = .ok (.aload_n 1, 1) := by decide +kernel
theorem dX0_reckon_67 : decode cX0_reckon 67 = .ok (.getfield 47, 3) := by decide +kernel
theorem dX0_reckon_70 : decode cX0_reckon 70 = .ok (.if_icmp .ge 74, 3) := by decide +kernel
theorem dX0_reckon_73 : decode cX0_reckon 73 = .ok (.aload_n 0, 1) := by decide +kernel
theorem dX0_reckon_74 : decode cX0_reckon 74 = .ok (.getfield 28, 3) := by decide +kernel
theorem dX0_reckon_77 : decode cX0_reckon 77 = .ok (.ifCond .eq 67, 3) := by decide +kernel
theorem dX0_reckon_80 : decode cX0_reckon 80 = .ok (.aload_n 1, 1) := by decide +kernel
theorem dX0_reckon_81 : decode cX0_reckon 81 = .ok (.getfield 50, 3) := by decide +kernel
theorem dX0_reckon_84 : decode cX0_reckon 84 = .ok (.iload_n 2, 1) := by decide +kernel
theorem dX0_reckon_85 : decode cX0_reckon 85 = .ok (.iaload, 1) := by decide +kernel
theorem dX0_reckon_86 : decode cX0_reckon 86 = .ok (.ifCond .le 22, 3) := by decide +kernel
theorem dX0_reckon_89 : decode cX0_reckon 89 = .ok (.aload_n 0, 1) := by decide +kernel
theorem dX0_reckon_90 : decode cX0_reckon 90 = .ok (.aload_n 1, 1) := by decide +kernel
theorem dX0_reckon_91 : decode cX0_reckon 91 = .ok (.getfield 50, 3) := by decide +kernel
theorem dX0_reckon_94 : decode cX0_reckon 94 = .ok (.iload_n 2, 1) := by decide +kernel
theorem dX0_reckon_95 : decode cX0_reckon 95 = .ok (.iaload, 1) := by decide +kernel
theorem dX0_reckon_96 : decode cX0_reckon 96 = .ok (.aload_n 1, 1) := by decide +kernel
theorem dX0_reckon_97 : decode cX0_reckon 97 = .ok (.getfield 54, 3) := by decide +kernel
theorem dX0_reckon_100 : decode cX0_reckon 100 = .ok (.iload_n 2, 1) := by decide +kernel
theorem dX0_reckon_101 : decode cX0_reckon 101 = .ok (.iaload, 1) := by decide +kernel
theorem dX0_reckon_102 : decode cX0_reckon 102 = .ok (.invokevirtual 57, 3) := by decide +kernel
theorem dX0_reckon_105 : decode cX0_reckon 105 = .ok (.goto 33, 3) := by decide +kernel
theorem dX0_reckon_108 : decode cX0_reckon 108 = .ok (.aload_n 0, 1) := by decide +kernel
theorem dX0_reckon_109 : decode cX0_reckon 109 = .ok (.getfield 12, 3) := by decide +kernel
theorem dX0_reckon_112 : decode cX0_reckon 112 = .ok (.aload_n 1, 1) := by decide +kernel
theorem dX0_reckon_113 : decode cX0_reckon 113 = .ok (.getfield 61, 3) := by decide +kernel
theorem dX0_reckon_116 : decode cX0_reckon 116 = .ok (.iload_n 2, 1) := by decide +kernel
theorem dX0_reckon_117 : decode cX0_reckon 117 = .ok (.iaload, 1) := by decide +kernel
theorem dX0_reckon_118 : decode cX0_reckon 118 = .ok (.iconst 1, 1) := by decide +kernel
theorem dX0_reckon_119 : decode cX0_reckon 119 = .ok (.if_icmp .ne 7, 3) := by decide +kernel
theorem dX0_reckon_122 : decode cX0_reckon 122 = .ok (.iconst 1, 1) := by decide +kernel
theorem dX0_reckon_123 : decode cX0_reckon 123 = .ok (.goto 4, 3) := by decide +kernel
theorem dX0_reckon_126 : decode cX0_reckon 126 = .ok (.iconst 0, 1) := by decide +kernel
theorem dX0_reckon_127 : decode cX0_reckon 127 = .ok (.aload_n 1, 1) := by decide +kernel
theorem dX0_reckon_128 : decode cX0_reckon 128 = .ok (.getfield 54, 3) := by decide +kernel
theorem dX0_reckon_131 : decode cX0_reckon 131 = .ok (.iload_n 2, 1) := by decide +kernel
theorem dX0_reckon_132 : decode cX0_reckon 132 = .ok (.iaload, 1) := by decide +kernel
theorem dX0_reckon_133 : decode cX0_reckon 133 = .ok (.iconst 1, 1) := by decide +kernel
theorem dX0_reckon_134 : decode cX0_reckon 134 = .ok (.invokevirtual 64, 3) := by decide +kernel
theorem dX0_reckon_137 : decode cX0_reckon 137 = .ok (.pop, 1) := by decide +kernel
theorem dX0_reckon_138 : decode cX0_reckon 138 = .ok (.iinc 2 1, 3) := by decide +kernel
theorem dX0_reckon_141 : decode cX0_reckon 141 = .ok (.goto (-76), 3) := by decide +kernel
theorem dX0_reckon_144 : decode cX0_reckon 144 = .ok (.return_, 1) := by decide +kernel
theorem dX0_takeLoose_0 : decode cX0_takeLoose 0 = .ok (.aload_n 0, 1) := by decide +kernel
theorem dX0_takeLoose_1 : decode cX0_takeLoose 1 = .ok (.iconst 1, 1) := by decide +kernel
theorem dX0_takeLoose_2 : decode cX0_takeLoose 2 = .ok (.putfield 32, 3) := by decide +kernel
theorem dX0_takeLoose_5 : decode cX0_takeLoose 5 = .ok (.aload_n 0, 1) := by decide +kernel
theorem dX0_takeLoose_6 : decode cX0_takeLoose 6 = .ok (.dup, 1) := by decide +kernel
theorem dX0_takeLoose_7 : decode cX0_takeLoose 7 = .ok (.getfield 41, 3) := by decide +kernel
theorem dX0_takeLoose_10 : decode cX0_takeLoose 10 = .ok (.iload_n 2, 1) := by decide +kernel
theorem dX0_takeLoose_11 : decode cX0_takeLoose 11 = .ok (.iadd, 1) := by decide +kernel
theorem dX0_takeLoose_12 : decode cX0_takeLoose 12 = .ok (.putfield 41, 3) := by decide +kernel
theorem dX0_takeLoose_15 : decode cX0_takeLoose 15 = .ok (.aload_n 0, 1) := by decide +kernel
theorem dX0_takeLoose_16 : decode cX0_takeLoose 16 = .ok (.aload_n 0, 1) := by decide +kernel
theorem dX0_takeLoose_17 : decode cX0_takeLoose 17 = .ok (.getfield 35, 3) := by decide +kernel
theorem dX0_takeLoose_20 : decode cX0_takeLoose 20 = .ok (.ifCond .ne 13, 3) := by decide +kernel
theorem dX0_takeLoose_23 : decode cX0_takeLoose 23 = .ok (.iload_n 1, 1) := by decide +kernel
theorem dX0_takeLoose_24 : decode cX0_takeLoose 24 = .ok (.iconst 1, 1) := by decide +kernel
theorem dX0_takeLoose_25 : decode cX0_takeLoose 25 = .ok (.if_icmp .ne 12, 3) := by decide +kernel
theorem dX0_takeLoose_28 : decode cX0_takeLoose 28 = .ok (.iload_n 2, 1) := by decide +kernel
theorem dX0_takeLoose_29 : decode cX0_takeLoose 29 = .ok (.iconst 2, 1) := by decide +kernel
theorem dX0_takeLoose_30 : decode cX0_takeLoose 30 = .ok (.if_icmp .lt 7, 3) := by decide +kernel
theorem dX0_takeLoose_33 : decode cX0_takeLoose 33 = .ok (.iconst 1, 1) := by decide +kernel
theorem dX0_takeLoose_34 : decode cX0_takeLoose 34 = .ok (.goto 4, 3) := by decide +kernel
theorem dX0_takeLoose_37 : decode cX0_takeLoose 37 = .ok (.iconst 0, 1) := by decide +kernel
theorem dX0_takeLoose_38 : decode cX0_takeLoose 38 = .ok (.putfield 35, 3) := by decide +kernel
theorem dX0_takeLoose_41 : decode cX0_takeLoose 41 = .ok (.aload_n 0, 1) := by decide +kernel
theorem dX0_takeLoose_42 : decode cX0_takeLoose 42 = .ok (.aload_n 0, 1) := by decide +kernel
theorem dX0_takeLoose_43 : decode cX0_takeLoose 43 = .ok (.getfield 38, 3) := by decide +kernel
theorem dX0_takeLoose_46 : decode cX0_takeLoose 46 = .ok (.ifCond .ne 13, 3) := by decide +kernel
theorem dX0_takeLoose_49 : decode cX0_takeLoose 49 = .ok (.iload_n 1, 1) := by decide +kernel
theorem dX0_takeLoose_50 : decode cX0_takeLoose 50 = .ok (.iconst 2, 1) := by decide +kernel
theorem dX0_takeLoose_51 : decode cX0_takeLoose 51 = .ok (.if_icmp .ne 12, 3) := by decide +kernel
theorem dX0_takeLoose_54 : decode cX0_takeLoose 54 = .ok (.iload_n 2, 1) := by decide +kernel
theorem dX0_takeLoose_55 : decode cX0_takeLoose 55 = .ok (.iconst 4, 1) := by decide +kernel
theorem dX0_takeLoose_56 : decode cX0_takeLoose 56 = .ok (.if_icmp .lt 7, 3) := by decide +kernel
theorem dX0_takeLoose_59 : decode cX0_takeLoose 59 = .ok (.iconst 1, 1) := by decide +kernel
theorem dX0_takeLoose_60 : decode cX0_takeLoose 60 = .ok (.goto 4, 3) := by decide +kernel
theorem dX0_takeLoose_63 : decode cX0_takeLoose 63 = .ok (.iconst 0, 1) := by decide +kernel
theorem dX0_takeLoose_64 : decode cX0_takeLoose 64 = .ok (.putfield 38, 3) := by decide +kernel
theorem dX0_takeLoose_67 : decode cX0_takeLoose 67 = .ok (.return_, 1) := by decide +kernel
theorem dX0_isTold_0 : decode cX0_isTold 0 = .ok (.aload_n 0, 1) := by decide +kernel
theorem dX0_isTold_1 : decode cX0_isTold 1 = .ok (.getfield 28, 3) := by decide +kernel
theorem dX0_isTold_4 : decode cX0_isTold 4 = .ok (.ifCond .eq 17, 3) := by decide +kernel
theorem dX0_isTold_7 : decode cX0_isTold 7 = .ok (.aload_n 0, 1) := by decide +kernel
theorem dX0_isTold_8 : decode cX0_isTold 8 = .ok (.getfield 12, 3) := by decide +kernel
theorem dX0_isTold_11 : decode cX0_isTold 11 = .ok (.invokevirtual 68, 3) := by decide +kernel
theorem dX0_isTold_14 : decode cX0_isTold 14 = .ok (.ifCond .eq 7, 3) := by decide +kernel
theorem dX0_isTold_17 : decode cX0_isTold 17 = .ok (.iconst 1, 1) := by decide +kernel
theorem dX0_isTold_18 : decode cX0_isTold 18 = .ok (.goto 4, 3) := by decide +kernel
theorem dX0_isTold_21 : decode cX0_isTold 21 = .ok (.iconst 0, 1) := by decide +kernel
theorem dX0_isTold_22 : decode cX0_isTold 22 = .ok (.ireturn, 1) := by decide +kernel
theorem dX0_worthByLengths_0 : decode cX0_worthByLengths 0 = .ok (.aload_n 0, 1) := by decide +kernel
theorem dX0_worthByLengths_1 : decode cX0_worthByLengths 1 = .ok (.invokevirtual 72, 3) := by decide +kernel
theorem dX0_worthByLengths_4 : decode cX0_worthByLengths 4 = .ok (.istore_n 1, 1) := by decide +kernel
theorem dX0_worthByLengths_5 : decode cX0_worthByLengths 5 = .ok (.aload_n 0, 1) := by decide +kernel
theorem dX0_worthByLengths_6 : decode cX0_worthByLengths 6 = .ok (.invokevirtual 76, 3) := by decide +kernel
theorem dX0_worthByLengths_9 : decode cX0_worthByLengths 9 = .ok (.ifCond .eq 12, 3) := by decide +kernel
theorem dX0_worthByLengths_12 : decode cX0_worthByLengths 12 = .ok (.iload_n 1, 1) := by decide +kernel
theorem dX0_worthByLengths_13 : decode cX0_worthByLengths 13 = .ok (.aload_n 0, 1) := by decide +kernel
theorem dX0_worthByLengths_14 : decode cX0_worthByLengths 14 = .ok (.invokevirtual 79, 3) := by decide +kernel
theorem dX0_worthByLengths_17 : decode cX0_worthByLengths 17 = .ok (.invokestatic 82, 3) := by decide +kernel
theorem dX0_worthByLengths_20 : decode cX0_worthByLengths 20 = .ok (.istore_n 1, 1) := by decide +kernel
theorem dX0_worthByLengths_21 : decode cX0_worthByLengths 21 = .ok (.iload_n 1, 1) := by decide +kernel
theorem dX0_worthByLengths_22 : decode cX0_worthByLengths 22 = .ok (.ireturn, 1) := by decide +kernel
theorem dX0_keepOrLeave_0 : decode cX0_keepOrLeave 0 = .ok (.aload_n 0, 1) := by decide +kernel
theorem dX0_keepOrLeave_1 : decode cX0_keepOrLeave 1 = .ok (.invokevirtual 76, 3) := by decide +kernel
theorem dX0_keepOrLeave_4 : decode cX0_keepOrLeave 4 = .ok (.ifCond .eq 14, 3) := by decide +kernel
theorem dX0_keepOrLeave_7 : decode cX0_keepOrLeave 7 = .ok (.aload_n 0, 1) := by decide +kernel
theorem dX0_keepOrLeave_8 : decode cX0_keepOrLeave 8 = .ok (.invokevirtual 72, 3) := by decide +kernel
theorem dX0_keepOrLeave_11 : decode cX0_keepOrLeave 11 = .ok (.aload_n 0, 1) := by decide +kernel
theorem dX0_keepOrLeave_12 : decode cX0_keepOrLeave 12 = .ok (.invokevirtual 79, 3) := by decide +kernel
theorem dX0_keepOrLeave_15 : decode cX0_keepOrLeave 15 = .ok (.if_icmp .le 5, 3) := by decide +kernel
theorem dX0_keepOrLeave_18 : decode cX0_keepOrLeave 18 = .ok (.iconst 1, 1) := by decide +kernel
theorem dX0_keepOrLeave_19 : decode cX0_keepOrLeave 19 = .ok (.ireturn, 1) := by decide +kernel
theorem dX0_keepOrLeave_20 : decode cX0_keepOrLeave 20 = .ok (.aload_n 0, 1) := by decide +kernel
theorem dX0_keepOrLeave_21 : decode cX0_keepOrLeave 21 = .ok (.invokevirtual 72, 3) := by decide +kernel
theorem dX0_keepOrLeave_24 : decode cX0_keepOrLeave 24 = .ok (.aload_n 0, 1) := by decide +kernel
theorem dX0_keepOrLeave_25 : decode cX0_keepOrLeave 25 = .ok (.invokevirtual 79, 3) := by decide +kernel
theorem dX0_keepOrLeave_28 : decode cX0_keepOrLeave 28 = .ok (.if_icmp .ne 7, 3) := by decide +kernel
theorem dX0_keepOrLeave_31 : decode cX0_keepOrLeave 31 = .ok (.iconst 0, 1) := by decide +kernel
theorem dX0_keepOrLeave_32 : decode cX0_keepOrLeave 32 = .ok (.goto 4, 3) := by decide +kernel
theorem dX0_keepOrLeave_35 : decode cX0_keepOrLeave 35 = .ok (.iconst (-1), 1) := by decide +kernel
theorem dX0_keepOrLeave_36 : decode cX0_keepOrLeave 36 = .ok (.ireturn, 1) := by decide +kernel
theorem dX0_canLeave_0 : decode cX0_canLeave 0 = .ok (.aload_n 0, 1) := by decide +kernel
theorem dX0_canLeave_1 : decode cX0_canLeave 1 = .ok (.getfield 35, 3) := by decide +kernel
theorem dX0_canLeave_4 : decode cX0_canLeave 4 = .ok (.ifCond .ne 10, 3) := by decide +kernel
theorem dX0_canLeave_7 : decode cX0_canLeave 7 = .ok (.aload_n 0, 1) := by decide +kernel
theorem dX0_canLeave_8 : decode cX0_canLeave 8 = .ok (.getfield 38, 3) := by decide +kernel
theorem dX0_canLeave_11 : decode cX0_canLeave 11 = .ok (.ifCond .eq 7, 3) := by decide +kernel
theorem dX0_canLeave_14 : decode cX0_canLeave 14 = .ok (.iconst 1, 1) := by decide +kernel
theorem dX0_canLeave_15 : decode cX0_canLeave 15 = .ok (.goto 4, 3) := by decide +kernel
theorem dX0_canLeave_18 : decode cX0_canLeave 18 = .ok (.iconst 0, 1) := by decide +kernel
theorem dX0_canLeave_19 : decode cX0_canLeave 19 = .ok (.ireturn, 1) := by decide +kernel
theorem dX0_closingAll_0 : decode cX0_closingAll 0 = .ok (.aload_n 0, 1) := by decide +kernel
theorem dX0_closingAll_1 : decode cX0_closingAll 1 = .ok (.getfield 41, 3) := by decide +kernel
theorem dX0_closingAll_4 : decode cX0_closingAll 4 = .ok (.aload_n 0, 1) := by decide +kernel
theorem dX0_closingAll_5 : decode cX0_closingAll 5 = .ok (.getfield 12, 3) := by decide +kernel
theorem dX0_closingAll_8 : decode cX0_closingAll 8 = .ok (.invokevirtual 88, 3) := by decide +kernel
theorem dX0_closingAll_11 : decode cX0_closingAll 11 = .ok (.iadd, 1) := by decide +kernel
theorem dX0_closingAll_12 : decode cX0_closingAll 12 = .ok (.ireturn, 1) := by decide +kernel
theorem dX0_leavingSome_0 : decode cX0_leavingSome 0 = .ok (.aload_n 0, 1) := by decide +kernel
theorem dX0_leavingSome_1 : decode cX0_leavingSome 1 = .ok (.getfield 41, 3) := by decide +kernel
theorem dX0_leavingSome_4 : decode cX0_leavingSome 4 = .ok (.aload_n 0, 1) := by decide +kernel
theorem dX0_leavingSome_5 : decode cX0_leavingSome 5 = .ok (.getfield 35, 3) := by decide +kernel
theorem dX0_leavingSome_8 : decode cX0_leavingSome 8 = .ok (.ifCond .eq 7, 3) := by decide +kernel
theorem dX0_leavingSome_11 : decode cX0_leavingSome 11 = .ok (.iconst 4, 1) := by decide +kernel
theorem dX0_leavingSome_12 : decode cX0_leavingSome 12 = .ok (.goto 5, 3) := by decide +kernel
theorem dX0_leavingSome_15 : decode cX0_leavingSome 15 = .ok (.bipush 8, 2) := by decide +kernel
theorem dX0_leavingSome_17 : decode cX0_leavingSome 17 = .ok (.isub, 1) := by decide +kernel
theorem dX0_leavingSome_18 : decode cX0_leavingSome 18 = .ok (.aload_n 0, 1) := by decide +kernel
theorem dX0_leavingSome_19 : decode cX0_leavingSome 19 = .ok (.getfield 12, 3) := by decide +kernel
theorem dX0_leavingSome_22 : decode cX0_leavingSome 22 = .ok (.invokevirtual 88, 3) := by decide +kernel
theorem dX0_leavingSome_25 : decode cX0_leavingSome 25 = .ok (.isub, 1) := by decide +kernel
theorem dX0_leavingSome_26 : decode cX0_leavingSome 26 = .ok (.ireturn, 1) := by decide +kernel
theorem dX1_init_0 : decode cX1_init 0 = .ok (.aload_n 0, 1) := by decide +kernel
theorem dX1_init_1 : decode cX1_init 1 = .ok (.invokespecial 3, 3) := by decide +kernel
theorem dX1_init_4 : decode cX1_init 4 = .ok (.aload_n 0, 1) := by decide +kernel
theorem dX1_init_5 : decode cX1_init 5 = .ok (.sipush 402, 3) := by decide +kernel
theorem dX1_init_8 : decode cX1_init 8 = .ok (.newarray .int, 2) := by decide +kernel
theorem dX1_init_10 : decode cX1_init 10 = .ok (.putfield 9, 3) := by decide +kernel
theorem dX1_init_13 : decode cX1_init 13 = .ok (.aload_n 0, 1) := by decide +kernel
theorem dX1_init_14 : decode cX1_init 14 = .ok (.bipush 30, 2) := by decide +kernel
theorem dX1_init_16 : decode cX1_init 16 = .ok (.newarray .int, 2) := by decide +kernel
theorem dX1_init_18 : decode cX1_init 18 = .ok (.putfield 15, 3) := by decide +kernel
theorem dX1_init_21 : decode cX1_init 21 = .ok (.aload_n 0, 1) := by decide +kernel
theorem dX1_init_22 : decode cX1_init 22 = .ok (.bipush 30, 2) := by decide +kernel
theorem dX1_init_24 : decode cX1_init 24 = .ok (.newarray .int, 2) := by decide +kernel
theorem dX1_init_26 : decode cX1_init 26 = .ok (.putfield 18, 3) := by decide +kernel
theorem dX1_init_29 : decode cX1_init 29 = .ok (.aload_n 0, 1) := by decide +kernel
theorem dX1_init_30 : decode cX1_init 30 = .ok (.bipush 30, 2) := by decide +kernel
theorem dX1_init_32 : decode cX1_init 32 = .ok (.newarray .int, 2) := by decide +kernel
theorem dX1_init_34 : decode cX1_init 34 = .ok (.putfield 21, 3) := by decide +kernel
theorem dX1_init_37 : decode cX1_init 37 = .ok (.aload_n 0, 1) := by decide +kernel
theorem dX1_init_38 : decode cX1_init 38 = .ok (.bipush 30, 2) := by decide +kernel
theorem dX1_init_40 : decode cX1_init 40 = .ok (.newarray .int, 2) := by decide +kernel
theorem dX1_init_42 : decode cX1_init 42 = .ok (.putfield 24, 3) := by decide +kernel
theorem dX1_init_45 : decode cX1_init 45 = .ok (.aload_n 0, 1) := by decide +kernel
theorem dX1_init_46 : decode cX1_init 46 = .ok (.bipush 30, 2) := by decide +kernel
theorem dX1_init_48 : decode cX1_init 48 = .ok (.newarray .int, 2) := by decide +kernel
theorem dX1_init_50 : decode cX1_init 50 = .ok (.putfield 27, 3) := by decide +kernel
theorem dX1_init_53 : decode cX1_init 53 = .ok (.aload_n 0, 1) := by decide +kernel
theorem dX1_init_54 : decode cX1_init 54 = .ok (.iconst 1, 1) := by decide +kernel
theorem dX1_init_55 : decode cX1_init 55 = .ok (.newarray .int, 2) := by decide +kernel
theorem dX1_init_57 : decode cX1_init 57 = .ok (.putfield 30, 3) := by decide +kernel
theorem dX1_init_60 : decode cX1_init 60 = .ok (.return_, 1) := by decide +kernel
theorem dX1_wipe_0 : decode cX1_wipe 0 = .ok (.aload_n 0, 1) := by decide +kernel
theorem dX1_wipe_1 : decode cX1_wipe 1 = .ok (.getfield 9, 3) := by decide +kernel
theorem dX1_wipe_4 : decode cX1_wipe 4 = .ok (.iconst 0, 1) := by decide +kernel
theorem dX1_wipe_5 : decode cX1_wipe 5 = .ok (.invokestatic 33, 3) := by decide +kernel
theorem dX1_wipe_8 : decode cX1_wipe 8 = .ok (.aload_n 0, 1) := by decide +kernel
theorem dX1_wipe_9 : decode cX1_wipe 9 = .ok (.iconst 0, 1) := by decide +kernel
theorem dX1_wipe_10 : decode cX1_wipe 10 = .ok (.putfield 39, 3) := by decide +kernel
theorem dX1_wipe_13 : decode cX1_wipe 13 = .ok (.aload_n 0, 1) := by decide +kernel
theorem dX1_wipe_14 : decode cX1_wipe 14 = .ok (.iconst 0, 1) := by decide +kernel
theorem dX1_wipe_15 : decode cX1_wipe 15 = .ok (.putfield 43, 3) := by decide +kernel
theorem dX1_wipe_18 : decode cX1_wipe 18 = .ok (.return_, 1) := by decide +kernel
theorem dX1_placeOf_0 : decode cX1_placeOf 0 = .ok (.iload_n 1, 1) := by decide +kernel
theorem dX1_placeOf_1 : decode cX1_placeOf 1 = .ok (.ifCond .eq 9, 3) := by decide +kernel
theorem dX1_placeOf_4 : decode cX1_placeOf 4 = .ok (.sipush 201, 3) := by decide +kernel
theorem dX1_placeOf_7 : decode cX1_placeOf 7 = .ok (.goto 4, 3) := by decide +kernel
theorem dX1_placeOf_10 : decode cX1_placeOf 10 = .ok (.iconst 0, 1) := by decide +kernel
theorem dX1_placeOf_11 : decode cX1_placeOf 11 = .ok (.iload_n 2, 1) := by decide +kernel
theorem dX1_placeOf_12 : decode cX1_placeOf 12 = .ok (.iadd, 1) := by decide +kernel
theorem dX1_placeOf_13 : decode cX1_placeOf 13 = .ok (.ireturn, 1) := by decide +kernel
theorem dX1_isRing_0 : decode cX1_isRing 0 = .ok (.iload_n 1, 1) := by decide +kernel
theorem dX1_isRing_1 : decode cX1_isRing 1 = .ok (.sipush 200, 3) := by decide +kernel
theorem dX1_isRing_4 : decode cX1_isRing 4 = .ok (.if_icmp .le 7, 3) := by decide +kernel
theorem dX1_isRing_7 : decode cX1_isRing 7 = .ok (.iconst 1, 1) := by decide +kernel
theorem dX1_isRing_8 : decode cX1_isRing 8 = .ok (.goto 4, 3) := by decide +kernel
theorem dX1_isRing_11 : decode cX1_isRing 11 = .ok (.iconst 0, 1) := by decide +kernel
theorem dX1_isRing_12 : decode cX1_isRing 12 = .ok (.ireturn, 1) := by decide +kernel
theorem dX1_hasRoom_0 : decode cX1_hasRoom 0 = .ok (.aload_n 0, 1) := by decide +kernel
theorem dX1_hasRoom_1 : decode cX1_hasRoom 1 = .ok (.getfield 9, 3) := by decide +kernel
theorem dX1_hasRoom_4 : decode cX1_hasRoom 4 = .ok (.aload_n 0, 1) := by decide +kernel
theorem dX1_hasRoom_5 : decode cX1_hasRoom 5 = .ok (.iload_n 1, 1) := by decide +kernel
theorem dX1_hasRoom_6 : decode cX1_hasRoom 6 = .ok (.iload_n 2, 1) := by decide +kernel
theorem dX1_hasRoom_7 : decode cX1_hasRoom 7 = .ok (.invokevirtual 47, 3) := by decide +kernel
theorem dX1_hasRoom_10 : decode cX1_hasRoom 10 = .ok (.iaload, 1) := by decide +kernel
theorem dX1_hasRoom_11 : decode cX1_hasRoom 11 = .ok (.istore 4, 2) := by decide +kernel
theorem dX1_hasRoom_13 : decode cX1_hasRoom 13 = .ok (.iload 4, 2) := by decide +kernel
theorem dX1_hasRoom_15 : decode cX1_hasRoom 15 = .ok (.iload_n 3, 1) := by decide +kernel
theorem dX1_hasRoom_16 : decode cX1_hasRoom 16 = .ok (.iadd, 1) := by decide +kernel
theorem dX1_hasRoom_17 : decode cX1_hasRoom 17 = .ok (.sipush 1000, 3) := by decide +kernel
theorem dX1_hasRoom_20 : decode cX1_hasRoom 20 = .ok (.if_icmp .gt 21, 3) := by decide +kernel
theorem dX1_hasRoom_23 : decode cX1_hasRoom 23 = .ok (.iload 4, 2) := by decide +kernel
theorem dX1_hasRoom_25 : decode cX1_hasRoom 25 = .ok (.ifCond .gt 12, 3) := by decide +kernel
theorem dX1_hasRoom_28 : decode cX1_hasRoom 28 = .ok (.aload_n 0, 1) := by decide +kernel
theorem dX1_hasRoom_29 : decode cX1_hasRoom 29 = .ok (.getfield 39, 3) := by decide +kernel
theorem dX1_hasRoom_32 : decode cX1_hasRoom 32 = .ok (.bipush 30, 2) := by decide +kernel
theorem dX1_hasRoom_34 : decode cX1_hasRoom 34 = .ok (.if_icmp .ge 7, 3) := by decide +kernel
theorem dX1_hasRoom_37 : decode cX1_hasRoom 37 = .ok (.iconst 1, 1) := by decide +kernel
theorem dX1_hasRoom_38 : decode cX1_hasRoom 38 = .ok (.goto 4, 3) := by decide +kernel
theorem dX1_hasRoom_41 : decode cX1_hasRoom 41 = .ok (.iconst 0, 1) := by decide +kernel
theorem dX1_hasRoom_42 : decode cX1_hasRoom 42 = .ok (.ireturn, 1) := by decide +kernel
theorem dX1_put_0 : decode cX1_put 0 = .ok (.aload_n 0, 1) := by decide +kernel
theorem dX1_put_1 : decode cX1_put 1 = .ok (.iload_n 1, 1) := by decide +kernel
theorem dX1_put_2 : decode cX1_put 2 = .ok (.iload_n 2, 1) := by decide +kernel
theorem dX1_put_3 : decode cX1_put 3 = .ok (.invokevirtual 47, 3) := by decide +kernel
theorem dX1_put_6 : decode cX1_put 6 = .ok (.istore 4, 2) := by decide +kernel
theorem dX1_put_8 : decode cX1_put 8 = .ok (.aload_n 0, 1) := by decide +kernel
theorem dX1_put_9 : decode cX1_put 9 = .ok (.getfield 9, 3) := by decide +kernel
theorem dX1_put_12 : decode cX1_put 12 = .ok (.iload 4, 2) := by decide +kernel
theorem dX1_put_14 : decode cX1_put 14 = .ok (.iaload, 1) := by decide +kernel
theorem dX1_put_15 : decode cX1_put 15 = .ok (.ifCond .ne 13, 3) := by decide +kernel
theorem dX1_put_18 : decode cX1_put 18 = .ok (.aload_n 0, 1) := by decide +kernel
theorem dX1_put_19 : decode cX1_put 19 = .ok (.dup, 1) := by decide +kernel
theorem dX1_put_20 : decode cX1_put 20 = .ok (.getfield 39, 3) := by decide +kernel
theorem dX1_put_23 : decode cX1_put 23 = .ok (.iconst 1, 1) := by decide +kernel
theorem dX1_put_24 : decode cX1_put 24 = .ok (.iadd, 1) := by decide +kernel
theorem dX1_put_25 : decode cX1_put 25 = .ok (.putfield 39, 3) := by decide +kernel
theorem dX1_put_28 : decode cX1_put 28 = .ok (.aload_n 0, 1) := by decide +kernel
theorem dX1_put_29 : decode cX1_put 29 = .ok (.getfield 9, 3) := by decide +kernel
theorem dX1_put_32 : decode cX1_put 32 = .ok (.iload 4, 2) := by decide +kernel
theorem dX1_put_34 : decode cX1_put 34 = .ok (.dup2, 1) := by decide +kernel
theorem dX1_put_35 : decode cX1_put 35 = .ok (.iaload, 1) := by decide +kernel
theorem dX1_put_36 : decode cX1_put 36 = .ok (.iload_n 3, 1) := by decide +kernel
theorem dX1_put_37 : decode cX1_put 37 = .ok (.iadd, 1) := by decide +kernel
theorem dX1_put_38 : decode cX1_put 38 = .ok (.iastore, 1) := by decide +kernel
theorem dX1_put_39 : decode cX1_put 39 = .ok (.aload_n 0, 1) := by decide +kernel
theorem dX1_put_40 : decode cX1_put 40 = .ok (.iconst 0, 1) := by decide +kernel
theorem dX1_put_41 : decode cX1_put 41 = .ok (.putfield 43, 3) := by decide +kernel
theorem dX1_put_44 : decode cX1_put 44 = .ok (.aload_n 0, 1) := by decide +kernel
theorem dX1_put_45 : decode cX1_put 45 = .ok (.getfield 9, 3) := by decide +kernel
theorem dX1_put_48 : decode cX1_put 48 = .ok (.iload 4, 2) := by decide +kernel
theorem dX1_put_50 : decode cX1_put 50 = .ok (.iaload, 1) := by decide +kernel
theorem dX1_put_51 : decode cX1_put 51 = .ok (.ireturn, 1) := by decide +kernel
theorem dX1_isTold_0 : decode cX1_isTold 0 = .ok (.aload_n 0, 1) := by decide +kernel
theorem dX1_isTold_1 : decode cX1_isTold 1 = .ok (.getfield 43, 3) := by decide +kernel
theorem dX1_isTold_4 : decode cX1_isTold 4 = .ok (.ifCond .ne 26, 3) := by decide +kernel
theorem dX1_isTold_7 : decode cX1_isTold 7 = .ok (.aload_n 0, 1) := by decide +kernel
theorem dX1_isTold_8 : decode cX1_isTold 8 = .ok (.iconst 1, 1) := by decide +kernel
theorem dX1_isTold_9 : decode cX1_isTold 9 = .ok (.putfield 43, 3) := by decide +kernel
theorem dX1_isTold_12 : decode cX1_isTold 12 = .ok (.aload_n 0, 1) := by decide +kernel
theorem dX1_isTold_13 : decode cX1_isTold 13 = .ok (.invokevirtual 51, 3) := by decide +kernel
theorem dX1_isTold_16 : decode cX1_isTold 16 = .ok (.aload_n 0, 1) := by decide +kernel
theorem dX1_isTold_17 : decode cX1_isTold 17 = .ok (.getfield 54, 3) := by decide +kernel
theorem dX1_isTold_20 : decode cX1_isTold 20 = .ok (.sipush 20000, 3) := by decide +kernel
theorem dX1_isTold_23 : decode cX1_isTold 23 = .ok (.if_icmp .gt 7, 3) := by decide +kernel
theorem dX1_isTold_26 : decode cX1_isTold 26 = .ok (.aload_n 0, 1) := by decide +kernel
theorem dX1_isTold_27 : decode cX1_isTold 27 = .ok (.invokevirtual 57, 3) := by decide +kernel
theorem dX1_isTold_30 : decode cX1_isTold 30 = .ok (.aload_n 0, 1) := by decide +kernel
theorem dX1_isTold_31 : decode cX1_isTold 31 = .ok (.getfield 54, 3) := by decide +kernel
theorem dX1_isTold_34 : decode cX1_isTold 34 = .ok (.sipush 20000, 3) := by decide +kernel
theorem dX1_isTold_37 : decode cX1_isTold 37 = .ok (.if_icmp .gt 7, 3) := by decide +kernel
theorem dX1_isTold_40 : decode cX1_isTold 40 = .ok (.iconst 1, 1) := by decide +kernel
theorem dX1_isTold_41 : decode cX1_isTold 41 = .ok (.goto 4, 3) := by decide +kernel
theorem dX1_isTold_44 : decode cX1_isTold 44 = .ok (.iconst 0, 1) := by decide +kernel
theorem dX1_isTold_45 : decode cX1_isTold 45 = .ok (.ireturn, 1) := by decide +kernel
theorem dX1_whole_0 : decode cX1_whole 0 = .ok (.aload_n 0, 1) := by decide +kernel
theorem dX1_whole_1 : decode cX1_whole 1 = .ok (.getfield 30, 3) := by decide +kernel
theorem dX1_whole_4 : decode cX1_whole 4 = .ok (.aload_n 0, 1) := by decide +kernel
theorem dX1_whole_5 : decode cX1_whole 5 = .ok (.getfield 54, 3) := by decide +kernel
theorem dX1_whole_8 : decode cX1_whole 8 = .ok (.iconst 1, 1) := by decide +kernel
theorem dX1_whole_9 : decode cX1_whole 9 = .ok (.isub, 1) := by decide +kernel
theorem dX1_whole_10 : decode cX1_whole 10 = .ok (.iaload, 1) := by decide +kernel
theorem dX1_whole_11 : decode cX1_whole 11 = .ok (.ireturn, 1) := by decide +kernel
theorem dX1_bestKind_0 : decode cX1_bestKind 0 = .ok (.iconst 0, 1) := by decide +kernel
theorem dX1_bestKind_1 : decode cX1_bestKind 1 = .ok (.istore_n 2, 1) := by decide +kernel
theorem dX1_bestKind_2 : decode cX1_bestKind 2 = .ok (.iconst 0, 1) := by decide +kernel
theorem dX1_bestKind_3 : decode cX1_bestKind 3 = .ok (.istore_n 3, 1) := by decide +kernel
theorem dX1_bestKind_4 : decode cX1_bestKind 4 = .ok (.iload_n 3, 1) := by decide +kernel
theorem dX1_bestKind_5 : decode cX1_bestKind 5 = .ok (.aload_n 0, 1) := by decide +kernel
theorem dX1_bestKind_6 : decode cX1_bestKind 6 = .ok (.getfield 60, 3) := by decide +kernel
theorem dX1_bestKind_9 : decode cX1_bestKind 9 = .ok (.if_icmp .ge 64, 3) := by decide +kernel
theorem dX1_bestKind_12 : decode cX1_bestKind 12 = .ok (.aload_n 0, 1) := by decide +kernel
theorem dX1_bestKind_13 : decode cX1_bestKind 13 = .ok (.iload_n 3, 1) := by decide +kernel
theorem dX1_bestKind_14 : decode cX1_bestKind 14 = .ok (.aload_n 0, 1) := by decide +kernel
theorem dX1_bestKind_15 : decode cX1_bestKind 15 = .ok (.getfield 54, 3) := by decide +kernel
theorem dX1_bestKind_18 : decode cX1_bestKind 18 = .ok (.iconst 1, 1) := by decide +kernel
theorem dX1_bestKind_19 : decode cX1_bestKind 19 = .ok (.isub, 1) := by decide +kernel
theorem dX1_bestKind_20 : decode cX1_bestKind 20 = .ok (.invokevirtual 63, 3) := by decide +kernel
theorem dX1_bestKind_23 : decode cX1_bestKind 23 = .ok (.aload_n 0, 1) := by decide +kernel
theorem dX1_bestKind_24 : decode cX1_bestKind 24 = .ok (.invokevirtual 67, 3) := by decide +kernel
theorem dX1_bestKind_27 : decode cX1_bestKind 27 = .ok (.if_icmp .ne 40, 3) := by decide +kernel
theorem dX1_bestKind_30 : decode cX1_bestKind 30 = .ok (.iload_n 2, 1) := by decide +kernel
theorem dX1_bestKind_31 : decode cX1_bestKind 31 = .ok (.iload_n 1, 1) := by decide +kernel
theorem dX1_bestKind_32 : decode cX1_bestKind 32 = .ok (.if_icmp .ne 32, 3) := by decide +kernel
theorem dX1_bestKind_35 : decode cX1_bestKind 35 = .ok (.bipush 10, 2) := by decide +kernel
theorem dX1_bestKind_37 : decode cX1_bestKind 37 = .ok (.aload_n 0, 1) := by decide +kernel
theorem dX1_bestKind_38 : decode cX1_bestKind 38 = .ok (.getfield 18, 3) := by decide +kernel
theorem dX1_bestKind_41 : decode cX1_bestKind 41 = .ok (.iload_n 3, 1) := by decide +kernel
theorem dX1_bestKind_42 : decode cX1_bestKind 42 = .ok (.iaload, 1) := by decide +kernel
theorem dX1_bestKind_43 : decode cX1_bestKind 43 = .ok (.imul, 1) := by decide +kernel
theorem dX1_bestKind_44 : decode cX1_bestKind 44 = .ok (.aload_n 0, 1) := by decide +kernel
theorem dX1_bestKind_45 : decode cX1_bestKind 45 = .ok (.aload_n 0, 1) := by decide +kernel
theorem dX1_bestKind_46 : decode cX1_bestKind 46 = .ok (.getfield 15, 3) := by decide +kernel
theorem dX1_bestKind_49 : decode cX1_bestKind 49 = .ok (.iload_n 3, 1) := by decide +kernel
theorem dX1_bestKind_50 : decode cX1_bestKind 50 = .ok (.iaload, 1) := by decide +kernel
theorem dX1_bestKind_51 : decode cX1_bestKind 51 = .ok (.invokevirtual 71, 3) := by decide +kernel
theorem dX1_bestKind_54 : decode cX1_bestKind 54 = .ok (.ifCond .eq 7, 3) := by decide +kernel
theorem dX1_bestKind_57 : decode cX1_bestKind 57 = .ok (.iconst 1, 1) := by decide +kernel
theorem dX1_bestKind_58 : decode cX1_bestKind 58 = .ok (.goto 4, 3) := by decide +kernel
theorem dX1_bestKind_61 : decode cX1_bestKind 61 = .ok (.iconst 0, 1) := by decide +kernel
theorem dX1_bestKind_62 : decode cX1_bestKind 62 = .ok (.iadd, 1) := by decide +kernel
theorem dX1_bestKind_63 : decode cX1_bestKind 63 = .ok (.ireturn, 1) := by decide +kernel
theorem dX1_bestKind_64 : decode cX1_bestKind 64 = .ok (.iinc 2 1, 3) := by decide +kernel
theorem dX1_bestKind_67 : decode cX1_bestKind 67 = .ok (.iinc 3 1, 3) := by decide +kernel
theorem dX1_bestKind_70 : decode cX1_bestKind 70 = .ok (.goto (-66), 3) := by decide +kernel
theorem dX1_bestKind_73 : decode cX1_bestKind 73 = .ok (.iconst (-1), 1) := by decide +kernel
theorem dX1_bestKind_74 : decode cX1_bestKind 74 = .ok (.ireturn, 1) := by decide +kernel
theorem dX1_layOut_0 : decode cX1_layOut 0 = .ok (.aload_n 0, 1) := by decide +kernel
theorem dX1_layOut_1 : decode cX1_layOut 1 = .ok (.iconst 0, 1) := by decide +kernel
theorem dX1_layOut_2 : decode cX1_layOut 2 = .ok (.putfield 60, 3) := by decide +kernel
theorem dX1_layOut_5 : decode cX1_layOut 5 = .ok (.aload_n 0, 1) := by decide +kernel
theorem dX1_layOut_6 : decode cX1_layOut 6 = .ok (.iconst 1, 1) := by decide +kernel
theorem dX1_layOut_7 : decode cX1_layOut 7 = .ok (.putfield 54, 3) := by decide +kernel
theorem dX1_layOut_10 : decode cX1_layOut 10 = .ok (.iconst 0, 1) := by decide +kernel
theorem dX1_layOut_11 : decode cX1_layOut 11 = .ok (.istore_n 1, 1) := by decide +kernel
theorem dX1_layOut_12 : decode cX1_layOut 12 = .ok (.iload_n 1, 1) := by decide +kernel
theorem dX1_layOut_13 : decode cX1_layOut 13 = .ok (.aload_n 0, 1) := by decide +kernel
theorem dX1_layOut_14 : decode cX1_layOut 14 = .ok (.getfield 9, 3) := by decide +kernel
theorem dX1_layOut_17 : decode cX1_layOut 17 = .ok (.arraylength, 1) := by decide +kernel
theorem dX1_layOut_18 : decode cX1_layOut 18 = .ok (.if_icmp .ge 42, 3) := by decide +kernel
theorem dX1_layOut_21 : decode cX1_layOut 21 = .ok (.aload_n 0, 1) := by decide +kernel
theorem dX1_layOut_22 : decode cX1_layOut 22 = .ok (.getfield 54, 3) := by decide +kernel
theorem dX1_layOut_25 : decode cX1_layOut 25 = .ok (.sipush 20000, 3) := by decide +kernel
theorem dX1_layOut_28 : decode cX1_layOut 28 = .ok (.if_icmp .gt 32, 3) := by decide +kernel
theorem dX1_layOut_31 : decode cX1_layOut 31 = .ok (.aload_n 0, 1) := by decide +kernel
theorem dX1_layOut_32 : decode cX1_layOut 32 = .ok (.getfield 9, 3) := by decide +kernel
theorem dX1_layOut_35 : decode cX1_layOut 35 = .ok (.iload_n 1, 1) := by decide +kernel
theorem dX1_layOut_36 : decode cX1_layOut 36 = .ok (.iaload, 1) := by decide +kernel
theorem dX1_layOut_37 : decode cX1_layOut 37 = .ok (.ifCond .le 17, 3) := by decide +kernel
theorem dX1_layOut_40 : decode cX1_layOut 40 = .ok (.aload_n 0, 1) := by decide +kernel
theorem dX1_layOut_41 : decode cX1_layOut 41 = .ok (.getfield 60, 3) := by decide +kernel
theorem dX1_layOut_44 : decode cX1_layOut 44 = .ok (.bipush 30, 2) := by decide +kernel
theorem dX1_layOut_46 : decode cX1_layOut 46 = .ok (.if_icmp .ge 8, 3) := by decide +kernel
theorem dX1_layOut_49 : decode cX1_layOut 49 = .ok (.aload_n 0, 1) := by decide +kernel
theorem dX1_layOut_50 : decode cX1_layOut 50 = .ok (.iload_n 1, 1) := by decide +kernel
theorem dX1_layOut_51 : decode cX1_layOut 51 = .ok (.invokevirtual 75, 3) := by decide +kernel
theorem dX1_layOut_54 : decode cX1_layOut 54 = .ok (.iinc 1 1, 3) := by decide +kernel
theorem dX1_layOut_57 : decode cX1_layOut 57 = .ok (.goto (-45), 3) := by decide +kernel
theorem dX1_layOut_60 : decode cX1_layOut 60 = .ok (.return_, 1) := by decide +kernel
theorem dX1_layOutKind_0 : decode cX1_layOutKind 0 = .ok (.aload_n 0, 1) := by decide +kernel
theorem dX1_layOutKind_1 : decode cX1_layOutKind 1 = .ok (.iload_n 1, 1) := by decide +kernel
theorem dX1_layOutKind_2 : decode cX1_layOutKind 2 = .ok (.invokevirtual 71, 3) := by decide +kernel
theorem dX1_layOutKind_5 : decode cX1_layOutKind 5 = .ok (.istore_n 2, 1) := by decide +kernel
theorem dX1_layOutKind_6 : decode cX1_layOutKind 6 = .ok (.iload_n 2, 1) := by decide +kernel
theorem dX1_layOutKind_7 : decode cX1_layOutKind 7 = .ok (.ifCond .eq 14, 3) := by decide +kernel
theorem dX1_layOutKind_10 : decode cX1_layOutKind 10 = .ok (.iload_n 1, 1) := by decide +kernel
theorem dX1_layOutKind_11 : decode cX1_layOutKind 11 = .ok (.aload_n 0, 1) := by decide +kernel
theorem dX1_layOutKind_12 : decode cX1_layOutKind 12 = .ok (.iconst 1, 1) := by decide +kernel
theorem dX1_layOutKind_13 : decode cX1_layOutKind 13 = .ok (.iconst 0, 1) := by decide +kernel
theorem dX1_layOutKind_14 : decode cX1_layOutKind 14 = .ok (.invokevirtual 47, 3) := by decide +kernel
theorem dX1_layOutKind_17 : decode cX1_layOutKind 17 = .ok (.isub, 1) := by decide +kernel
theorem dX1_layOutKind_18 : decode cX1_layOutKind 18 = .ok (.goto 4, 3) := by decide +kernel
theorem dX1_layOutKind_21 : decode cX1_layOutKind 21 = .ok (.iload_n 1, 1) := by decide +kernel
theorem dX1_layOutKind_22 : decode cX1_layOutKind 22 = .ok (.istore_n 3, 1) := by decide +kernel
theorem dX1_layOutKind_23 : decode cX1_layOutKind 23 = .ok (.aload_n 0, 1) := by decide +kernel
theorem dX1_layOutKind_24 : decode cX1_layOutKind 24 = .ok (.getfield 15, 3) := by decide +kernel
theorem dX1_layOutKind_27 : decode cX1_layOutKind 27 = .ok (.aload_n 0, 1) := by decide +kernel
theorem dX1_layOutKind_28 : decode cX1_layOutKind 28 = .ok (.getfield 60, 3) := by decide +kernel
theorem dX1_layOutKind_31 : decode cX1_layOutKind 31 = .ok (.iload_n 1, 1) := by decide +kernel
theorem dX1_layOutKind_32 : decode cX1_layOutKind 32 = .ok (.iastore, 1) := by decide +kernel
theorem dX1_layOutKind_33 : decode cX1_layOutKind 33 = .ok (.aload_n 0, 1) := by decide +kernel
theorem dX1_layOutKind_34 : decode cX1_layOutKind 34 = .ok (.getfield 18, 3) := by decide +kernel
theorem dX1_layOutKind_37 : decode cX1_layOutKind 37 = .ok (.aload_n 0, 1) := by decide +kernel
theorem dX1_layOutKind_38 : decode cX1_layOutKind 38 = .ok (.getfield 60, 3) := by decide +kernel
theorem dX1_layOutKind_41 : decode cX1_layOutKind 41 = .ok (.iload_n 3, 1) := by decide +kernel
theorem dX1_layOutKind_42 : decode cX1_layOutKind 42 = .ok (.iastore, 1) := by decide +kernel
theorem dX1_layOutKind_43 : decode cX1_layOutKind 43 = .ok (.aload_n 0, 1) := by decide +kernel
theorem dX1_layOutKind_44 : decode cX1_layOutKind 44 = .ok (.getfield 21, 3) := by decide +kernel
theorem dX1_layOutKind_47 : decode cX1_layOutKind 47 = .ok (.aload_n 0, 1) := by decide +kernel
theorem dX1_layOutKind_48 : decode cX1_layOutKind 48 = .ok (.getfield 60, 3) := by decide +kernel
theorem dX1_layOutKind_51 : decode cX1_layOutKind 51 = .ok (.iload_n 3, 1) := by decide +kernel
theorem dX1_layOutKind_52 : decode cX1_layOutKind 52 = .ok (.iload_n 2, 1) := by decide +kernel
theorem dX1_layOutKind_53 : decode cX1_layOutKind 53 = .ok (.ifCond .eq 7, 3) := by decide +kernel
theorem dX1_layOutKind_56 : decode cX1_layOutKind 56 = .ok (.iconst 4, 1) := by decide +kernel
theorem dX1_layOutKind_57 : decode cX1_layOutKind 57 = .ok (.goto 4, 3) := by decide +kernel
theorem dX1_layOutKind_60 : decode cX1_layOutKind 60 = .ok (.iconst 3, 1) := by decide +kernel
theorem dX1_layOutKind_61 : decode cX1_layOutKind 61 = .ok (.if_icmp .ge 7, 3) := by decide +kernel
theorem dX1_layOutKind_64 : decode cX1_layOutKind 64 = .ok (.iconst 0, 1) := by decide +kernel
theorem dX1_layOutKind_65 : decode cX1_layOutKind 65 = .ok (.goto 13, 3) := by decide +kernel
theorem dX1_layOutKind_68 : decode cX1_layOutKind 68 = .ok (.iload_n 2, 1) := by decide +kernel
theorem dX1_layOutKind_69 : decode cX1_layOutKind 69 = .ok (.ifCond .eq 8, 3) := by decide +kernel
theorem dX1_layOutKind_72 : decode cX1_layOutKind 72 = .ok (.bipush 8, 2) := by decide +kernel
theorem dX1_layOutKind_74 : decode cX1_layOutKind 74 = .ok (.goto 4, 3) := by decide +kernel
theorem dX1_layOutKind_77 : decode cX1_layOutKind 77 = .ok (.iconst 4, 1) := by decide +kernel
theorem dX1_layOutKind_78 : decode cX1_layOutKind 78 = .ok (.iastore, 1) := by decide +kernel
theorem dX1_layOutKind_79 : decode cX1_layOutKind 79 = .ok (.aload_n 0, 1) := by decide +kernel
theorem dX1_layOutKind_80 : decode cX1_layOutKind 80 = .ok (.getfield 24, 3) := by decide +kernel
theorem dX1_layOutKind_83 : decode cX1_layOutKind 83 = .ok (.aload_n 0, 1) := by decide +kernel
theorem dX1_layOutKind_84 : decode cX1_layOutKind 84 = .ok (.getfield 60, 3) := by decide +kernel
theorem dX1_layOutKind_87 : decode cX1_layOutKind 87 = .ok (.aload_n 0, 1) := by decide +kernel
theorem dX1_layOutKind_88 : decode cX1_layOutKind 88 = .ok (.getfield 54, 3) := by decide +kernel
theorem dX1_layOutKind_91 : decode cX1_layOutKind 91 = .ok (.iastore, 1) := by decide +kernel
theorem dX1_layOutKind_92 : decode cX1_layOutKind 92 = .ok (.aload_n 0, 1) := by decide +kernel
theorem dX1_layOutKind_93 : decode cX1_layOutKind 93 = .ok (.dup, 1) := by decide +kernel
theorem dX1_layOutKind_94 : decode cX1_layOutKind 94 = .ok (.getfield 54, 3) := by decide +kernel
theorem dX1_layOutKind_97 : decode cX1_layOutKind 97 = .ok (.aload_n 0, 1) := by decide +kernel
theorem dX1_layOutKind_98 : decode cX1_layOutKind 98 = .ok (.getfield 9, 3) := by decide +kernel
theorem dX1_layOutKind_101 : decode cX1_layOutKind 101 = .ok (.iload_n 1, 1) := by decide +kernel
theorem dX1_layOutKind_102 : decode cX1_layOutKind 102 = .ok (.iaload, 1) := by decide +kernel
theorem dX1_layOutKind_103 : decode cX1_layOutKind 103 = .ok (.iconst 1, 1) := by decide +kernel
theorem dX1_layOutKind_104 : decode cX1_layOutKind 104 = .ok (.iadd, 1) := by decide +kernel
theorem dX1_layOutKind_105 : decode cX1_layOutKind 105 = .ok (.imul, 1) := by decide +kernel
theorem dX1_layOutKind_106 : decode cX1_layOutKind 106 = .ok (.putfield 54, 3) := by decide +kernel
theorem dX1_layOutKind_109 : decode cX1_layOutKind 109 = .ok (.aload_n 0, 1) := by decide +kernel
theorem dX1_layOutKind_110 : decode cX1_layOutKind 110 = .ok (.dup, 1) := by decide +kernel
theorem dX1_layOutKind_111 : decode cX1_layOutKind 111 = .ok (.getfield 60, 3) := by decide +kernel
theorem dX1_layOutKind_114 : decode cX1_layOutKind 114 = .ok (.iconst 1, 1) := by decide +kernel
theorem dX1_layOutKind_115 : decode cX1_layOutKind 115 = .ok (.iadd, 1) := by decide +kernel
theorem dX1_layOutKind_116 : decode cX1_layOutKind 116 = .ok (.putfield 60, 3) := by decide +kernel
theorem dX1_layOutKind_119 : decode cX1_layOutKind 119 = .ok (.return_, 1) := by decide +kernel
theorem dX1_fillAll_0 : decode cX1_fillAll 0 = .ok (.aload_n 0, 1) := by decide +kernel
theorem dX1_fillAll_1 : decode cX1_fillAll 1 = .ok (.getfield 30, 3) := by decide +kernel
theorem dX1_fillAll_4 : decode cX1_fillAll 4 = .ok (.arraylength, 1) := by decide +kernel
theorem dX1_fillAll_5 : decode cX1_fillAll 5 = .ok (.aload_n 0, 1) := by decide +kernel
theorem dX1_fillAll_6 : decode cX1_fillAll 6 = .ok (.getfield 54, 3) := by decide +kernel
theorem dX1_fillAll_9 : decode cX1_fillAll 9 = .ok (.if_icmp .ge 29, 3) := by decide +kernel
theorem dX1_fillAll_12 : decode cX1_fillAll 12 = .ok (.aload_n 0, 1) := by decide +kernel
theorem dX1_fillAll_13 : decode cX1_fillAll 13 = .ok (.sipush 20000, 3) := by decide +kernel
theorem dX1_fillAll_16 : decode cX1_fillAll 16 = .ok (.aload_n 0, 1) := by decide +kernel
theorem dX1_fillAll_17 : decode cX1_fillAll 17 = .ok (.getfield 54, 3) := by decide +kernel
theorem dX1_fillAll_20 : decode cX1_fillAll 20 = .ok (.iconst 2, 1) := by decide +kernel
theorem dX1_fillAll_21 : decode cX1_fillAll 21 = .ok (.aload_n 0, 1) := by decide +kernel
theorem dX1_fillAll_22 : decode cX1_fillAll 22 = .ok (.getfield 30, 3) := by decide +kernel
theorem dX1_fillAll_25 : decode cX1_fillAll 25 = .ok (.arraylength, 1) := by decide +kernel
theorem dX1_fillAll_26 : decode cX1_fillAll 26 = .ok (.imul, 1) := by decide +kernel
theorem dX1_fillAll_27 : decode cX1_fillAll 27 = .ok (.invokestatic 79, 3) := by decide +kernel
theorem dX1_fillAll_30 : decode cX1_fillAll 30 = .ok (.invokestatic 84, 3) := by decide +kernel
theorem dX1_fillAll_33 : decode cX1_fillAll 33 = .ok (.newarray .int, 2) := by decide +kernel
theorem dX1_fillAll_35 : decode cX1_fillAll 35 = .ok (.putfield 30, 3) := by decide +kernel
theorem dX1_fillAll_38 : decode cX1_fillAll 38 = .ok (.aload_n 0, 1) := by decide +kernel
theorem dX1_fillAll_39 : decode cX1_fillAll 39 = .ok (.getfield 27, 3) := by decide +kernel
theorem dX1_fillAll_42 : decode cX1_fillAll 42 = .ok (.iconst 0, 1) := by decide +kernel
theorem dX1_fillAll_43 : decode cX1_fillAll 43 = .ok (.invokestatic 33, 3) := by decide +kernel
theorem dX1_fillAll_46 : decode cX1_fillAll 46 = .ok (.aload_n 0, 1) := by decide +kernel
theorem dX1_fillAll_47 : decode cX1_fillAll 47 = .ok (.getfield 30, 3) := by decide +kernel
theorem dX1_fillAll_50 : decode cX1_fillAll 50 = .ok (.iconst 0, 1) := by decide +kernel
theorem dX1_fillAll_51 : decode cX1_fillAll 51 = .ok (.iconst 0, 1) := by decide +kernel
theorem dX1_fillAll_52 : decode cX1_fillAll 52 = .ok (.iastore, 1) := by decide +kernel
theorem dX1_fillAll_53 : decode cX1_fillAll 53 = .ok (.iconst 1, 1) := by decide +kernel
theorem dX1_fillAll_54 : decode cX1_fillAll 54 = .ok (.istore_n 1, 1) := by decide +kernel
theorem dX1_fillAll_55 : decode cX1_fillAll 55 = .ok (.iload_n 1, 1) := by decide +kernel
theorem dX1_fillAll_56 : decode cX1_fillAll 56 = .ok (.aload_n 0, 1) := by decide +kernel
theorem dX1_fillAll_57 : decode cX1_fillAll 57 = .ok (.getfield 54, 3) := by decide +kernel
theorem dX1_fillAll_60 : decode cX1_fillAll 60 = .ok (.if_icmp .ge 24, 3) := by decide +kernel
theorem dX1_fillAll_63 : decode cX1_fillAll 63 = .ok (.aload_n 0, 1) := by decide +kernel
theorem dX1_fillAll_64 : decode cX1_fillAll 64 = .ok (.invokevirtual 87, 3) := by decide +kernel
theorem dX1_fillAll_67 : decode cX1_fillAll 67 = .ok (.aload_n 0, 1) := by decide +kernel
theorem dX1_fillAll_68 : decode cX1_fillAll 68 = .ok (.getfield 30, 3) := by decide +kernel
theorem dX1_fillAll_71 : decode cX1_fillAll 71 = .ok (.iload_n 1, 1) := by decide +kernel
theorem dX1_fillAll_72 : decode cX1_fillAll 72 = .ok (.aload_n 0, 1) := by decide +kernel
theorem dX1_fillAll_73 : decode cX1_fillAll 73 = .ok (.iload_n 1, 1) := by decide +kernel
theorem dX1_fillAll_74 : decode cX1_fillAll 74 = .ok (.invokevirtual 90, 3) := by decide +kernel
theorem dX1_fillAll_77 : decode cX1_fillAll 77 = .ok (.iastore, 1) := by decide +kernel
theorem dX1_fillAll_78 : decode cX1_fillAll 78 = .ok (.iinc 1 1, 3) := by decide +kernel
theorem dX1_fillAll_81 : decode cX1_fillAll 81 = .ok (.goto (-26), 3) := by decide +kernel
theorem dX1_fillAll_84 : decode cX1_fillAll 84 = .ok (.return_, 1) := by decide +kernel
theorem dX1_countUp_0 : decode cX1_countUp 0 = .ok (.iconst 0, 1) := by decide +kernel
theorem dX1_countUp_1 : decode cX1_countUp 1 = .ok (.istore_n 1, 1) := by decide +kernel
theorem dX1_countUp_2 : decode cX1_countUp 2 = .ok (.iload_n 1, 1) := by decide +kernel
theorem dX1_countUp_3 : decode cX1_countUp 3 = .ok (.aload_n 0, 1) := by decide +kernel
theorem dX1_countUp_4 : decode cX1_countUp 4 = .ok (.getfield 60, 3) := by decide +kernel
theorem dX1_countUp_7 : decode cX1_countUp 7 = .ok (.if_icmp .ge 47, 3) := by decide +kernel
theorem dX1_countUp_10 : decode cX1_countUp 10 = .ok (.aload_n 0, 1) := by decide +kernel
theorem dX1_countUp_11 : decode cX1_countUp 11 = .ok (.getfield 27, 3) := by decide +kernel
theorem dX1_countUp_14 : decode cX1_countUp 14 = .ok (.iload_n 1, 1) := by decide +kernel
theorem dX1_countUp_15 : decode cX1_countUp 15 = .ok (.iaload, 1) := by decide +kernel
theorem dX1_countUp_16 : decode cX1_countUp 16 = .ok (.aload_n 0, 1) := by decide +kernel
theorem dX1_countUp_17 : decode cX1_countUp 17 = .ok (.getfield 9, 3) := by decide +kernel
theorem dX1_countUp_20 : decode cX1_countUp 20 = .ok (.aload_n 0, 1) := by decide +kernel
theorem dX1_countUp_21 : decode cX1_countUp 21 = .ok (.getfield 15, 3) := by decide +kernel
theorem dX1_countUp_24 : decode cX1_countUp 24 = .ok (.iload_n 1, 1) := by decide +kernel
theorem dX1_countUp_25 : decode cX1_countUp 25 = .ok (.iaload, 1) := by decide +kernel
theorem dX1_countUp_26 : decode cX1_countUp 26 = .ok (.iaload, 1) := by decide +kernel
theorem dX1_countUp_27 : decode cX1_countUp 27 = .ok (.if_icmp .ge 14, 3) := by decide +kernel
theorem dX1_countUp_30 : decode cX1_countUp 30 = .ok (.aload_n 0, 1) := by decide +kernel
theorem dX1_countUp_31 : decode cX1_countUp 31 = .ok (.getfield 27, 3) := by decide +kernel
theorem dX1_countUp_34 : decode cX1_countUp 34 = .ok (.iload_n 1, 1) := by decide +kernel
theorem dX1_countUp_35 : decode cX1_countUp 35 = .ok (.dup2, 1) := by decide +kernel
theorem dX1_countUp_36 : decode cX1_countUp 36 = .ok (.iaload, 1) := by decide +kernel
theorem dX1_countUp_37 : decode cX1_countUp 37 = .ok (.iconst 1, 1) := by decide +kernel
theorem dX1_countUp_38 : decode cX1_countUp 38 = .ok (.iadd, 1) := by decide +kernel
theorem dX1_countUp_39 : decode cX1_countUp 39 = .ok (.iastore, 1) := by decide +kernel
theorem dX1_countUp_40 : decode cX1_countUp 40 = .ok (.return_, 1) := by decide +kernel
theorem dX1_countUp_41 : decode cX1_countUp 41 = .ok (.aload_n 0, 1) := by decide +kernel
theorem dX1_countUp_42 : decode cX1_countUp 42 = .ok (.getfield 27, 3) := by decide +kernel
theorem dX1_countUp_45 : decode cX1_countUp 45 = .ok (.iload_n 1, 1) := by decide +kernel
theorem dX1_countUp_46 : decode cX1_countUp 46 = .ok (.iconst 0, 1) := by decide +kernel
theorem dX1_countUp_47 : decode cX1_countUp 47 = .ok (.iastore, 1) := by decide +kernel
theorem dX1_countUp_48 : decode cX1_countUp 48 = .ok (.iinc 1 1, 3) := by decide +kernel
theorem dX1_countUp_51 : decode cX1_countUp 51 = .ok (.goto (-49), 3) := by decide +kernel
theorem dX1_countUp_54 : decode cX1_countUp 54 = .ok (.return_, 1) := by decide +kernel
theorem dX1_bestAt_0 : decode cX1_bestAt 0 = .ok (.ldc 94, 2) := by decide +kernel
theorem dX1_bestAt_2 : decode cX1_bestAt 2 = .ok (.istore_n 2, 1) := by decide +kernel
theorem dX1_bestAt_3 : decode cX1_bestAt 3 = .ok (.iconst 0, 1) := by decide +kernel
theorem dX1_bestAt_4 : decode cX1_bestAt 4 = .ok (.istore_n 3, 1) := by decide +kernel
theorem dX1_bestAt_5 : decode cX1_bestAt 5 = .ok (.iload_n 3, 1) := by decide +kernel
theorem dX1_bestAt_6 : decode cX1_bestAt 6 = .ok (.aload_n 0, 1) := by decide +kernel
theorem dX1_bestAt_7 : decode cX1_bestAt 7 = .ok (.getfield 60, 3) := by decide +kernel
theorem dX1_bestAt_10 : decode cX1_bestAt 10 = .ok (.if_icmp .ge 29, 3) := by decide +kernel
theorem dX1_bestAt_13 : decode cX1_bestAt 13 = .ok (.aload_n 0, 1) := by decide +kernel
theorem dX1_bestAt_14 : decode cX1_bestAt 14 = .ok (.getfield 27, 3) := by decide +kernel
theorem dX1_bestAt_17 : decode cX1_bestAt 17 = .ok (.iload_n 3, 1) := by decide +kernel
theorem dX1_bestAt_18 : decode cX1_bestAt 18 = .ok (.iaload, 1) := by decide +kernel
theorem dX1_bestAt_19 : decode cX1_bestAt 19 = .ok (.ifCond .le 14, 3) := by decide +kernel
theorem dX1_bestAt_22 : decode cX1_bestAt 22 = .ok (.iload_n 2, 1) := by decide +kernel
theorem dX1_bestAt_23 : decode cX1_bestAt 23 = .ok (.aload_n 0, 1) := by decide +kernel
theorem dX1_bestAt_24 : decode cX1_bestAt 24 = .ok (.iload_n 3, 1) := by decide +kernel
theorem dX1_bestAt_25 : decode cX1_bestAt 25 = .ok (.iload_n 1, 1) := by decide +kernel
theorem dX1_bestAt_26 : decode cX1_bestAt 26 = .ok (.invokevirtual 63, 3) := by decide +kernel
theorem dX1_bestAt_29 : decode cX1_bestAt 29 = .ok (.invokestatic 79, 3) := by decide +kernel
theorem dX1_bestAt_32 : decode cX1_bestAt 32 = .ok (.istore_n 2, 1) := by decide +kernel
theorem dX1_bestAt_33 : decode cX1_bestAt 33 = .ok (.iinc 3 1, 3) := by decide +kernel
theorem dX1_bestAt_36 : decode cX1_bestAt 36 = .ok (.goto (-31), 3) := by decide +kernel
theorem dX1_bestAt_39 : decode cX1_bestAt 39 = .ok (.iload_n 2, 1) := by decide +kernel
theorem dX1_bestAt_40 : decode cX1_bestAt 40 = .ok (.ireturn, 1) := by decide +kernel
theorem dX1_openingAt_0 : decode cX1_openingAt 0 = .ok (.aload_n 0, 1) := by decide +kernel
theorem dX1_openingAt_1 : decode cX1_openingAt 1 = .ok (.getfield 30, 3) := by decide +kernel
theorem dX1_openingAt_4 : decode cX1_openingAt 4 = .ok (.iload_n 2, 1) := by decide +kernel
theorem dX1_openingAt_5 : decode cX1_openingAt 5 = .ok (.aload_n 0, 1) := by decide +kernel
theorem dX1_openingAt_6 : decode cX1_openingAt 6 = .ok (.getfield 24, 3) := by decide +kernel
theorem dX1_openingAt_9 : decode cX1_openingAt 9 = .ok (.iload_n 1, 1) := by decide +kernel
theorem dX1_openingAt_10 : decode cX1_openingAt 10 = .ok (.iaload, 1) := by decide +kernel
theorem dX1_openingAt_11 : decode cX1_openingAt 11 = .ok (.isub, 1) := by decide +kernel
theorem dX1_openingAt_12 : decode cX1_openingAt 12 = .ok (.iaload, 1) := by decide +kernel
theorem dX1_openingAt_13 : decode cX1_openingAt 13 = .ok (.istore_n 3, 1) := by decide +kernel
theorem dX1_openingAt_14 : decode cX1_openingAt 14 = .ok (.aload_n 0, 1) := by decide +kernel
theorem dX1_openingAt_15 : decode cX1_openingAt 15 = .ok (.getfield 18, 3) := by decide +kernel
theorem dX1_openingAt_18 : decode cX1_openingAt 18 = .ok (.iload_n 1, 1) := by decide +kernel
theorem dX1_openingAt_19 : decode cX1_openingAt 19 = .ok (.iaload, 1) := by decide +kernel
theorem dX1_openingAt_20 : decode cX1_openingAt 20 = .ok (.iload_n 3, 1) := by decide +kernel
theorem dX1_openingAt_21 : decode cX1_openingAt 21 = .ok (.iadd, 1) := by decide +kernel
theorem dX1_openingAt_22 : decode cX1_openingAt 22 = .ok (.istore 4, 2) := by decide +kernel
theorem dX1_openingAt_24 : decode cX1_openingAt 24 = .ok (.aload_n 0, 1) := by decide +kernel
theorem dX1_openingAt_25 : decode cX1_openingAt 25 = .ok (.getfield 21, 3) := by decide +kernel
theorem dX1_openingAt_28 : decode cX1_openingAt 28 = .ok (.iload_n 1, 1) := by decide +kernel
theorem dX1_openingAt_29 : decode cX1_openingAt 29 = .ok (.iaload, 1) := by decide +kernel
theorem dX1_openingAt_30 : decode cX1_openingAt 30 = .ok (.ifCond .le 25, 3) := by decide +kernel
theorem dX1_openingAt_33 : decode cX1_openingAt 33 = .ok (.iload 4, 2) := by decide +kernel
theorem dX1_openingAt_35 : decode cX1_openingAt 35 = .ok (.aload_n 0, 1) := by decide +kernel
theorem dX1_openingAt_36 : decode cX1_openingAt 36 = .ok (.getfield 18, 3) := by decide +kernel
theorem dX1_openingAt_39 : decode cX1_openingAt 39 = .ok (.iload_n 1, 1) := by decide +kernel
theorem dX1_openingAt_40 : decode cX1_openingAt 40 = .ok (.iaload, 1) := by decide +kernel
theorem dX1_openingAt_41 : decode cX1_openingAt 41 = .ok (.aload_n 0, 1) := by decide +kernel
theorem dX1_openingAt_42 : decode cX1_openingAt 42 = .ok (.getfield 21, 3) := by decide +kernel
theorem dX1_openingAt_45 : decode cX1_openingAt 45 = .ok (.iload_n 1, 1) := by decide +kernel
theorem dX1_openingAt_46 : decode cX1_openingAt 46 = .ok (.iaload, 1) := by decide +kernel
theorem dX1_openingAt_47 : decode cX1_openingAt 47 = .ok (.isub, 1) := by decide +kernel
theorem dX1_openingAt_48 : decode cX1_openingAt 48 = .ok (.iload_n 3, 1) := by decide +kernel
theorem dX1_openingAt_49 : decode cX1_openingAt 49 = .ok (.isub, 1) := by decide +kernel
theorem dX1_openingAt_50 : decode cX1_openingAt 50 = .ok (.invokestatic 79, 3) := by decide +kernel
theorem dX1_openingAt_53 : decode cX1_openingAt 53 = .ok (.istore 4, 2) := by decide +kernel
theorem dX1_openingAt_55 : decode cX1_openingAt 55 = .ok (.iload 4, 2) := by decide +kernel
theorem dX1_openingAt_57 : decode cX1_openingAt 57 = .ok (.ineg, 1) := by decide +kernel
theorem dX1_openingAt_58 : decode cX1_openingAt 58 = .ok (.ireturn, 1) := by decide +kernel
theorem dX2_init_0 : decode cX2_init 0 = .ok (.aload_n 0, 1) := by decide +kernel
theorem dX2_init_1 : decode cX2_init 1 = .ok (.invokespecial 3, 3) := by decide +kernel
theorem dX2_init_4 : decode cX2_init 4 = .ok (.aload_n 0, 1) := by decide +kernel
theorem dX2_init_5 : decode cX2_init 5 = .ok (.sipush 500, 3) := by decide +kernel
theorem dX2_init_8 : decode cX2_init 8 = .ok (.newarray .int, 2) := by decide +kernel
theorem dX2_init_10 : decode cX2_init 10 = .ok (.putfield 9, 3) := by decide +kernel
theorem dX2_init_13 : decode cX2_init 13 = .ok (.aload_n 0, 1) := by decide +kernel
theorem dX2_init_14 : decode cX2_init 14 = .ok (.sipush 500, 3) := by decide +kernel
theorem dX2_init_17 : decode cX2_init 17 = .ok (.newarray .int, 2) := by decide +kernel
theorem dX2_init_19 : decode cX2_init 19 = .ok (.putfield 15, 3) := by decide +kernel
theorem dX2_init_22 : decode cX2_init 22 = .ok (.aload_n 0, 1) := by decide +kernel
theorem dX2_init_23 : decode cX2_init 23 = .ok (.sipush 500, 3) := by decide +kernel
theorem dX2_init_26 : decode cX2_init 26 = .ok (.newarray .boolean, 2) := by decide +kernel
theorem dX2_init_28 : decode cX2_init 28 = .ok (.putfield 18, 3) := by decide +kernel
theorem dX2_init_31 : decode cX2_init 31 = .ok (.aload_n 0, 1) := by decide +kernel
theorem dX2_init_32 : decode cX2_init 32 = .ok (.sipush 500, 3) := by decide +kernel
theorem dX2_init_35 : decode cX2_init 35 = .ok (.newarray .int, 2) := by decide +kernel
theorem dX2_init_37 : decode cX2_init 37 = .ok (.putfield 22, 3) := by decide +kernel
theorem dX2_init_40 : decode cX2_init 40 = .ok (.aload_n 0, 1) := by decide +kernel
theorem dX2_init_41 : decode cX2_init 41 = .ok (.sipush 500, 3) := by decide +kernel
theorem dX2_init_44 : decode cX2_init 44 = .ok (.newarray .int, 2) := by decide +kernel
theorem dX2_init_46 : decode cX2_init 46 = .ok (.putfield 25, 3) := by decide +kernel
theorem dX2_init_49 : decode cX2_init 49 = .ok (.aload_n 0, 1) := by decide +kernel
theorem dX2_init_50 : decode cX2_init 50 = .ok (.sipush 800, 3) := by decide +kernel
theorem dX2_init_53 : decode cX2_init 53 = .ok (.newarray .int, 2) := by decide +kernel
theorem dX2_init_55 : decode cX2_init 55 = .ok (.putfield 28, 3) := by decide +kernel
theorem dX2_init_58 : decode cX2_init 58 = .ok (.aload_n 0, 1) := by decide +kernel
theorem dX2_init_59 : decode cX2_init 59 = .ok (.sipush 200, 3) := by decide +kernel
theorem dX2_init_62 : decode cX2_init 62 = .ok (.newarray .int, 2) := by decide +kernel
theorem dX2_init_64 : decode cX2_init 64 = .ok (.putfield 31, 3) := by decide +kernel
theorem dX2_init_67 : decode cX2_init 67 = .ok (.aload_n 0, 1) := by decide +kernel
theorem dX2_init_68 : decode cX2_init 68 = .ok (.sipush 200, 3) := by decide +kernel
theorem dX2_init_71 : decode cX2_init 71 = .ok (.newarray .int, 2) := by decide +kernel
theorem dX2_init_73 : decode cX2_init 73 = .ok (.putfield 34, 3) := by decide +kernel
theorem dX2_init_76 : decode cX2_init 76 = .ok (.aload_n 0, 1) := by decide +kernel
theorem dX2_init_77 : decode cX2_init 77 = .ok (.sipush 200, 3) := by decide +kernel
theorem dX2_init_80 : decode cX2_init 80 = .ok (.newarray .int, 2) := by decide +kernel
theorem dX2_init_82 : decode cX2_init 82 = .ok (.putfield 37, 3) := by decide +kernel
theorem dX2_init_85 : decode cX2_init 85 = .ok (.aload_n 0, 1) := by decide +kernel
theorem dX2_init_86 : decode cX2_init 86 = .ok (.iconst 2, 1) := by decide +kernel
theorem dX2_init_87 : decode cX2_init 87 = .ok (.newarray .int, 2) := by decide +kernel
theorem dX2_init_89 : decode cX2_init 89 = .ok (.putfield 40, 3) := by decide +kernel
theorem dX2_init_92 : decode cX2_init 92 = .ok (.return_, 1) := by decide +kernel
theorem dX2_wipe_0 : decode cX2_wipe 0 = .ok (.aload_n 0, 1) := by decide +kernel
theorem dX2_wipe_1 : decode cX2_wipe 1 = .ok (.iconst 0, 1) := by decide +kernel
theorem dX2_wipe_2 : decode cX2_wipe 2 = .ok (.putfield 43, 3) := by decide +kernel
theorem dX2_wipe_5 : decode cX2_wipe 5 = .ok (.aload_n 0, 1) := by decide +kernel
theorem dX2_wipe_6 : decode cX2_wipe 6 = .ok (.iconst 0, 1) := by decide +kernel
theorem dX2_wipe_7 : decode cX2_wipe 7 = .ok (.putfield 47, 3) := by decide +kernel
theorem dX2_wipe_10 : decode cX2_wipe 10 = .ok (.aload_n 0, 1) := by decide +kernel
theorem dX2_wipe_11 : decode cX2_wipe 11 = .ok (.iconst 0, 1) := by decide +kernel
theorem dX2_wipe_12 : decode cX2_wipe 12 = .ok (.putfield 50, 3) := by decide +kernel
theorem dX2_wipe_15 : decode cX2_wipe 15 = .ok (.aload_n 0, 1) := by decide +kernel
theorem dX2_wipe_16 : decode cX2_wipe 16 = .ok (.iconst 0, 1) := by decide +kernel
theorem dX2_wipe_17 : decode cX2_wipe 17 = .ok (.putfield 53, 3) := by decide +kernel
theorem dX2_wipe_20 : decode cX2_wipe 20 = .ok (.aload_n 0, 1) := by decide +kernel
theorem dX2_wipe_21 : decode cX2_wipe 21 = .ok (.iconst 0, 1) := by decide +kernel
theorem dX2_wipe_22 : decode cX2_wipe 22 = .ok (.putfield 56, 3) := by decide +kernel
theorem dX2_wipe_25 : decode cX2_wipe 25 = .ok (.aload_n 0, 1) := by decide +kernel
theorem dX2_wipe_26 : decode cX2_wipe 26 = .ok (.iconst 0, 1) := by decide +kernel
theorem dX2_wipe_27 : decode cX2_wipe 27 = .ok (.putfield 59, 3) := by decide +kernel
theorem dX2_wipe_30 : decode cX2_wipe 30 = .ok (.aload_n 0, 1) := by decide +kernel
theorem dX2_wipe_31 : decode cX2_wipe 31 = .ok (.getfield 40, 3) := by decide +kernel
theorem dX2_wipe_34 : decode cX2_wipe 34 = .ok (.iconst 0, 1) := by decide +kernel
theorem dX2_wipe_35 : decode cX2_wipe 35 = .ok (.iconst 0, 1) := by decide +kernel
theorem dX2_wipe_36 : decode cX2_wipe 36 = .ok (.iastore, 1) := by decide +kernel
theorem dX2_wipe_37 : decode cX2_wipe 37 = .ok (.aload_n 0, 1) := by decide +kernel
theorem dX2_wipe_38 : decode cX2_wipe 38 = .ok (.getfield 40, 3) := by decide +kernel
theorem dX2_wipe_41 : decode cX2_wipe 41 = .ok (.iconst 1, 1) := by decide +kernel
theorem dX2_wipe_42 : decode cX2_wipe 42 = .ok (.iconst 0, 1) := by decide +kernel
theorem dX2_wipe_43 : decode cX2_wipe 43 = .ok (.iastore, 1) := by decide +kernel
theorem dX2_wipe_44 : decode cX2_wipe 44 = .ok (.aload_n 0, 1) := by decide +kernel
theorem dX2_wipe_45 : decode cX2_wipe 45 = .ok (.dup, 1) := by decide +kernel
theorem dX2_wipe_46 : decode cX2_wipe 46 = .ok (.getfield 62, 3) := by decide +kernel
theorem dX2_wipe_49 : decode cX2_wipe 49 = .ok (.iconst 1, 1) := by decide +kernel
theorem dX2_wipe_50 : decode cX2_wipe 50 = .ok (.iadd, 1) := by decide +kernel
theorem dX2_wipe_51 : decode cX2_wipe 51 = .ok (.putfield 62, 3) := by decide +kernel
theorem dX2_wipe_54 : decode cX2_wipe 54 = .ok (.return_, 1) := by decide +kernel
theorem dX2_hasField_0 : decode cX2_hasField 0 = .ok (.iload_n 1, 1) := by decide +kernel
theorem dX2_hasField_1 : decode cX2_hasField 1 = .ok (.ifCond .lt 15, 3) := by decide +kernel
theorem dX2_hasField_4 : decode cX2_hasField 4 = .ok (.iload_n 1, 1) := by decide +kernel
theorem dX2_hasField_5 : decode cX2_hasField 5 = .ok (.aload_n 0, 1) := by decide +kernel
theorem dX2_hasField_6 : decode cX2_hasField 6 = .ok (.getfield 43, 3) := by decide +kernel
theorem dX2_hasField_9 : decode cX2_hasField 9 = .ok (.if_icmp .ge 7, 3) := by decide +kernel
theorem dX2_hasField_12 : decode cX2_hasField 12 = .ok (.iconst 1, 1) := by decide +kernel
theorem dX2_hasField_13 : decode cX2_hasField 13 = .ok (.goto 4, 3) := by decide +kernel
theorem dX2_hasField_16 : decode cX2_hasField 16 = .ok (.iconst 0, 1) := by decide +kernel
theorem dX2_hasField_17 : decode cX2_hasField 17 = .ok (.ireturn, 1) := by decide +kernel
theorem dX2_hasSide_0 : decode cX2_hasSide 0 = .ok (.iload_n 1, 1) := by decide +kernel
theorem dX2_hasSide_1 : decode cX2_hasSide 1 = .ok (.ifCond .lt 15, 3) := by decide +kernel
theorem dX2_hasSide_4 : decode cX2_hasSide 4 = .ok (.iload_n 1, 1) := by decide +kernel
theorem dX2_hasSide_5 : decode cX2_hasSide 5 = .ok (.aload_n 0, 1) := by decide +kernel
theorem dX2_hasSide_6 : decode cX2_hasSide 6 = .ok (.getfield 47, 3) := by decide +kernel
theorem dX2_hasSide_9 : decode cX2_hasSide 9 = .ok (.if_icmp .ge 7, 3) := by decide +kernel
theorem dX2_hasSide_12 : decode cX2_hasSide 12 = .ok (.iconst 1, 1) := by decide +kernel
theorem dX2_hasSide_13 : decode cX2_hasSide 13 = .ok (.goto 4, 3) := by decide +kernel
theorem dX2_hasSide_16 : decode cX2_hasSide 16 = .ok (.iconst 0, 1) := by decide +kernel
theorem dX2_hasSide_17 : decode cX2_hasSide 17 = .ok (.ireturn, 1) := by decide +kernel
theorem dX2_isOpen_0 : decode cX2_isOpen 0 = .ok (.aload_n 0, 1) := by decide +kernel
theorem dX2_isOpen_1 : decode cX2_isOpen 1 = .ok (.iload_n 1, 1) := by decide +kernel
theorem dX2_isOpen_2 : decode cX2_isOpen 2 = .ok (.invokevirtual 65, 3) := by decide +kernel
theorem dX2_isOpen_5 : decode cX2_isOpen 5 = .ok (.ifCond .eq 16, 3) := by decide +kernel
theorem dX2_isOpen_8 : decode cX2_isOpen 8 = .ok (.aload_n 0, 1) := by decide +kernel
theorem dX2_isOpen_9 : decode cX2_isOpen 9 = .ok (.getfield 18, 3) := by decide +kernel
theorem dX2_isOpen_12 : decode cX2_isOpen 12 = .ok (.iload_n 1, 1) := by decide +kernel
theorem dX2_isOpen_13 : decode cX2_isOpen 13 = .ok (.baload, 1) := by decide +kernel
theorem dX2_isOpen_14 : decode cX2_isOpen 14 = .ok (.ifCond .eq 7, 3) := by decide +kernel
theorem dX2_isOpen_17 : decode cX2_isOpen 17 = .ok (.iconst 1, 1) := by decide +kernel
theorem dX2_isOpen_18 : decode cX2_isOpen 18 = .ok (.goto 4, 3) := by decide +kernel
theorem dX2_isOpen_21 : decode cX2_isOpen 21 = .ok (.iconst 0, 1) := by decide +kernel
theorem dX2_isOpen_22 : decode cX2_isOpen 22 = .ok (.ireturn, 1) := by decide +kernel
theorem dX2_addField_0 : decode cX2_addField 0 = .ok (.aload_n 0, 1) := by decide +kernel
theorem dX2_addField_1 : decode cX2_addField 1 = .ok (.getfield 56, 3) := by decide +kernel
theorem dX2_addField_4 : decode cX2_addField 4 = .ok (.ifCond .gt 13, 3) := by decide +kernel
theorem dX2_addField_7 : decode cX2_addField 7 = .ok (.aload_n 0, 1) := by decide +kernel
theorem dX2_addField_8 : decode cX2_addField 8 = .ok (.getfield 43, 3) := by decide +kernel
theorem dX2_addField_11 : decode cX2_addField 11 = .ok (.sipush 200, 3) := by decide +kernel
theorem dX2_addField_14 : decode cX2_addField 14 = .ok (.if_icmp .lt 5, 3) := by decide +kernel
theorem dX2_addField_17 : decode cX2_addField 17 = .ok (.iconst (-1), 1) := by decide +kernel
theorem dX2_addField_18 : decode cX2_addField 18 = .ok (.ireturn, 1) := by decide +kernel
theorem dX2_addField_19 : decode cX2_addField 19 = .ok (.aload_n 0, 1) := by decide +kernel
theorem dX2_addField_20 : decode cX2_addField 20 = .ok (.getfield 31, 3) := by decide +kernel
theorem dX2_addField_23 : decode cX2_addField 23 = .ok (.aload_n 0, 1) := by decide +kernel
theorem dX2_addField_24 : decode cX2_addField 24 = .ok (.getfield 43, 3) := by decide +kernel
theorem dX2_addField_27 : decode cX2_addField 27 = .ok (.iconst 0, 1) := by decide +kernel
theorem dX2_addField_28 : decode cX2_addField 28 = .ok (.iastore, 1) := by decide +kernel
theorem dX2_addField_29 : decode cX2_addField 29 = .ok (.aload_n 0, 1) := by decide +kernel
theorem dX2_addField_30 : decode cX2_addField 30 = .ok (.getfield 34, 3) := by decide +kernel
theorem dX2_addField_33 : decode cX2_addField 33 = .ok (.aload_n 0, 1) := by decide +kernel
theorem dX2_addField_34 : decode cX2_addField 34 = .ok (.getfield 43, 3) := by decide +kernel
theorem dX2_addField_37 : decode cX2_addField 37 = .ok (.iconst 0, 1) := by decide +kernel
theorem dX2_addField_38 : decode cX2_addField 38 = .ok (.iastore, 1) := by decide +kernel
theorem dX2_addField_39 : decode cX2_addField 39 = .ok (.aload_n 0, 1) := by decide +kernel
theorem dX2_addField_40 : decode cX2_addField 40 = .ok (.getfield 37, 3) := by decide +kernel
theorem dX2_addField_43 : decode cX2_addField 43 = .ok (.aload_n 0, 1) := by decide +kernel
theorem dX2_addField_44 : decode cX2_addField 44 = .ok (.getfield 43, 3) := by decide +kernel
theorem dX2_addField_47 : decode cX2_addField 47 = .ok (.iconst (-1), 1) := by decide +kernel
theorem dX2_addField_48 : decode cX2_addField 48 = .ok (.iastore, 1) := by decide +kernel
theorem dX2_addField_49 : decode cX2_addField 49 = .ok (.aload_n 0, 1) := by decide +kernel
theorem dX2_addField_50 : decode cX2_addField 50 = .ok (.dup, 1) := by decide +kernel
theorem dX2_addField_51 : decode cX2_addField 51 = .ok (.getfield 43, 3) := by decide +kernel
theorem dX2_addField_54 : decode cX2_addField 54 = .ok (.iconst 1, 1) := by decide +kernel
theorem dX2_addField_55 : decode cX2_addField 55 = .ok (.iadd, 1) := by decide +kernel
theorem dX2_addField_56 : decode cX2_addField 56 = .ok (.putfield 43, 3) := by decide +kernel
theorem dX2_addField_59 : decode cX2_addField 59 = .ok (.aload_n 0, 1) := by decide +kernel
theorem dX2_addField_60 : decode cX2_addField 60 = .ok (.dup, 1) := by decide +kernel
theorem dX2_addField_61 : decode cX2_addField 61 = .ok (.getfield 62, 3) := by decide +kernel
theorem dX2_addField_64 : decode cX2_addField 64 = .ok (.iconst 1, 1) := by decide +kernel
theorem dX2_addField_65 : decode cX2_addField 65 = .ok (.iadd, 1) := by decide +kernel
theorem dX2_addField_66 : decode cX2_addField 66 = .ok (.putfield 62, 3) := by decide +kernel
theorem dX2_addField_69 : decode cX2_addField 69 = .ok (.aload_n 0, 1) := by decide +kernel
theorem dX2_addField_70 : decode cX2_addField 70 = .ok (.getfield 43, 3) := by decide +kernel
theorem dX2_addField_73 : decode cX2_addField 73 = .ok (.iconst 1, 1) := by decide +kernel
theorem dX2_addField_74 : decode cX2_addField 74 = .ok (.isub, 1) := by decide +kernel
theorem dX2_addField_75 : decode cX2_addField 75 = .ok (.ireturn, 1) := by decide +kernel
theorem dX2_addSide_0 : decode cX2_addSide 0 = .ok (.aload_n 0, 1) := by decide +kernel
theorem dX2_addSide_1 : decode cX2_addSide 1 = .ok (.getfield 56, 3) := by decide +kernel
theorem dX2_addSide_4 : decode cX2_addSide 4 = .ok (.ifCond .ne 43, 3) := by decide +kernel
theorem dX2_addSide_7 : decode cX2_addSide 7 = .ok (.aload_n 0, 1) := by decide +kernel
theorem dX2_addSide_8 : decode cX2_addSide 8 = .ok (.getfield 47, 3) := by decide +kernel
theorem dX2_addSide_11 : decode cX2_addSide 11 = .ok (.sipush 500, 3) := by decide +kernel
theorem dX2_addSide_14 : decode cX2_addSide 14 = .ok (.if_icmp .ge 33, 3) := by decide +kernel
theorem dX2_addSide_17 : decode cX2_addSide 17 = .ok (.iload_n 1, 1) := by decide +kernel
theorem dX2_addSide_18 : decode cX2_addSide 18 = .ok (.iload_n 2, 1) := by decide +kernel
theorem dX2_addSide_19 : decode cX2_addSide 19 = .ok (.if_icmp .eq 28, 3) := by decide +kernel
theorem dX2_addSide_22 : decode cX2_addSide 22 = .ok (.aload_n 0, 1) := by decide +kernel
theorem dX2_addSide_23 : decode cX2_addSide 23 = .ok (.iload_n 1, 1) := by decide +kernel
theorem dX2_addSide_24 : decode cX2_addSide 24 = .ok (.invokevirtual 69, 3) := by decide +kernel
theorem dX2_addSide_27 : decode cX2_addSide 27 = .ok (.ifCond .eq 20, 3) := by decide +kernel
theorem dX2_addSide_30 : decode cX2_addSide 30 = .ok (.iload_n 2, 1) := by decide +kernel
theorem dX2_addSide_31 : decode cX2_addSide 31 = .ok (.iconst (-1), 1) := by decide +kernel
theorem dX2_addSide_32 : decode cX2_addSide 32 = .ok (.if_icmp .eq 11, 3) := by decide +kernel
theorem dX2_addSide_35 : decode cX2_addSide 35 = .ok (.aload_n 0, 1) := by decide +kernel
theorem dX2_addSide_36 : decode cX2_addSide 36 = .ok (.iload_n 2, 1) := by decide +kernel
theorem dX2_addSide_37 : decode cX2_addSide 37 = .ok (.invokevirtual 69, 3) := by decide +kernel
theorem dX2_addSide_40 : decode cX2_addSide 40 = .ok (.ifCond .eq 7, 3) := by decide +kernel
theorem dX2_addSide_43 : decode cX2_addSide 43 = .ok (.iconst 1, 1) := by decide +kernel
theorem dX2_addSide_44 : decode cX2_addSide 44 = .ok (.goto 4, 3) := by decide +kernel
theorem dX2_addSide_47 : decode cX2_addSide 47 = .ok (.iconst 0, 1) := by decide +kernel
theorem dX2_addSide_48 : decode cX2_addSide 48 = .ok (.istore_n 3, 1) := by decide +kernel
theorem dX2_addSide_49 : decode cX2_addSide 49 = .ok (.iload_n 3, 1) := by decide +kernel
theorem dX2_addSide_50 : decode cX2_addSide 50 = .ok (.ifCond .ne 5, 3) := by decide +kernel
theorem dX2_addSide_53 : decode cX2_addSide 53 = .ok (.iconst (-1), 1) := by decide +kernel
theorem dX2_addSide_54 : decode cX2_addSide 54 = .ok (.ireturn, 1) := by decide +kernel
theorem dX2_addSide_55 : decode cX2_addSide 55 = .ok (.aload_n 0, 1) := by decide +kernel
theorem dX2_addSide_56 : decode cX2_addSide 56 = .ok (.getfield 9, 3) := by decide +kernel
theorem dX2_addSide_59 : decode cX2_addSide 59 = .ok (.aload_n 0, 1) := by decide +kernel
theorem dX2_addSide_60 : decode cX2_addSide 60 = .ok (.getfield 47, 3) := by decide +kernel
theorem dX2_addSide_63 : decode cX2_addSide 63 = .ok (.iload_n 1, 1) := by decide +kernel
theorem dX2_addSide_64 : decode cX2_addSide 64 = .ok (.iastore, 1) := by decide +kernel
theorem dX2_addSide_65 : decode cX2_addSide 65 = .ok (.aload_n 0, 1) := by decide +kernel
theorem dX2_addSide_66 : decode cX2_addSide 66 = .ok (.getfield 15, 3) := by decide +kernel
theorem dX2_addSide_69 : decode cX2_addSide 69 = .ok (.aload_n 0, 1) := by decide +kernel
theorem dX2_addSide_70 : decode cX2_addSide 70 = .ok (.getfield 47, 3) := by decide +kernel
theorem dX2_addSide_73 : decode cX2_addSide 73 = .ok (.iload_n 2, 1) := by decide +kernel
theorem dX2_addSide_74 : decode cX2_addSide 74 = .ok (.iastore, 1) := by decide +kernel
theorem dX2_addSide_75 : decode cX2_addSide 75 = .ok (.aload_n 0, 1) := by decide +kernel
theorem dX2_addSide_76 : decode cX2_addSide 76 = .ok (.getfield 18, 3) := by decide +kernel
theorem dX2_addSide_79 : decode cX2_addSide 79 = .ok (.aload_n 0, 1) := by decide +kernel
theorem dX2_addSide_80 : decode cX2_addSide 80 = .ok (.getfield 47, 3) := by decide +kernel
theorem dX2_addSide_83 : decode cX2_addSide 83 = .ok (.iconst 1, 1) := by decide +kernel
theorem dX2_addSide_84 : decode cX2_addSide 84 = .ok (.bastore, 1) := by decide +kernel
theorem dX2_addSide_85 : decode cX2_addSide 85 = .ok (.aload_n 0, 1) := by decide +kernel
theorem dX2_addSide_86 : decode cX2_addSide 86 = .ok (.iload_n 1, 1) := by decide +kernel
theorem dX2_addSide_87 : decode cX2_addSide 87 = .ok (.invokevirtual 72, 3) := by decide +kernel
theorem dX2_addSide_90 : decode cX2_addSide 90 = .ok (.iload_n 2, 1) := by decide +kernel
theorem dX2_addSide_91 : decode cX2_addSide 91 = .ok (.iconst (-1), 1) := by decide +kernel
theorem dX2_addSide_92 : decode cX2_addSide 92 = .ok (.if_icmp .eq 8, 3) := by decide +kernel
theorem dX2_addSide_95 : decode cX2_addSide 95 = .ok (.aload_n 0, 1) := by decide +kernel
theorem dX2_addSide_96 : decode cX2_addSide 96 = .ok (.iload_n 2, 1) := by decide +kernel
theorem dX2_addSide_97 : decode cX2_addSide 97 = .ok (.invokevirtual 72, 3) := by decide +kernel
theorem dX2_addSide_100 : decode cX2_addSide 100 = .ok (.aload_n 0, 1) := by decide +kernel
theorem dX2_addSide_101 : decode cX2_addSide 101 = .ok (.dup, 1) := by decide +kernel
theorem dX2_addSide_102 : decode cX2_addSide 102 = .ok (.getfield 47, 3) := by decide +kernel
theorem dX2_addSide_105 : decode cX2_addSide 105 = .ok (.iconst 1, 1) := by decide +kernel
theorem dX2_addSide_106 : decode cX2_addSide 106 = .ok (.iadd, 1) := by decide +kernel
theorem dX2_addSide_107 : decode cX2_addSide 107 = .ok (.putfield 47, 3) := by decide +kernel
theorem dX2_addSide_110 : decode cX2_addSide 110 = .ok (.aload_n 0, 1) := by decide +kernel
theorem dX2_addSide_111 : decode cX2_addSide 111 = .ok (.dup, 1) := by decide +kernel
theorem dX2_addSide_112 : decode cX2_addSide 112 = .ok (.getfield 50, 3) := by decide +kernel
theorem dX2_addSide_115 : decode cX2_addSide 115 = .ok (.iconst 1, 1) := by decide +kernel
theorem dX2_addSide_116 : decode cX2_addSide 116 = .ok (.iadd, 1) := by decide +kernel
theorem dX2_addSide_117 : decode cX2_addSide 117 = .ok (.putfield 50, 3) := by decide +kernel
theorem dX2_addSide_120 : decode cX2_addSide 120 = .ok (.aload_n 0, 1) := by decide +kernel
theorem dX2_addSide_121 : decode cX2_addSide 121 = .ok (.dup, 1) := by decide +kernel
theorem dX2_addSide_122 : decode cX2_addSide 122 = .ok (.getfield 62, 3) := by decide +kernel
theorem dX2_addSide_125 : decode cX2_addSide 125 = .ok (.iconst 1, 1) := by decide +kernel
theorem dX2_addSide_126 : decode cX2_addSide 126 = .ok (.iadd, 1) := by decide +kernel
theorem dX2_addSide_127 : decode cX2_addSide 127 = .ok (.putfield 62, 3) := by decide +kernel
theorem dX2_addSide_130 : decode cX2_addSide 130 = .ok (.aload_n 0, 1) := by decide +kernel
theorem dX2_addSide_131 : decode cX2_addSide 131 = .ok (.getfield 47, 3) := by decide +kernel
theorem dX2_addSide_134 : decode cX2_addSide 134 = .ok (.iconst 1, 1) := by decide +kernel
theorem dX2_addSide_135 : decode cX2_addSide 135 = .ok (.isub, 1) := by decide +kernel
theorem dX2_addSide_136 : decode cX2_addSide 136 = .ok (.ireturn, 1) := by decide +kernel
theorem dX2_canTakeSide_0 : decode cX2_canTakeSide 0 = .ok (.aload_n 0, 1) := by decide +kernel
theorem dX2_canTakeSide_1 : decode cX2_canTakeSide 1 = .ok (.iload_n 1, 1) := by decide +kernel
theorem dX2_canTakeSide_2 : decode cX2_canTakeSide 2 = .ok (.invokevirtual 76, 3) := by decide +kernel
theorem dX2_canTakeSide_5 : decode cX2_canTakeSide 5 = .ok (.ifCond .eq 17, 3) := by decide +kernel
theorem dX2_canTakeSide_8 : decode cX2_canTakeSide 8 = .ok (.aload_n 0, 1) := by decide +kernel
theorem dX2_canTakeSide_9 : decode cX2_canTakeSide 9 = .ok (.getfield 31, 3) := by decide +kernel
theorem dX2_canTakeSide_12 : decode cX2_canTakeSide 12 = .ok (.iload_n 1, 1) := by decide +kernel
theorem dX2_canTakeSide_13 : decode cX2_canTakeSide 13 = .ok (.iaload, 1) := by decide +kernel
theorem dX2_canTakeSide_14 : decode cX2_canTakeSide 14 = .ok (.iconst 4, 1) := by decide +kernel
theorem dX2_canTakeSide_15 : decode cX2_canTakeSide 15 = .ok (.if_icmp .ge 7, 3) := by decide +kernel
theorem dX2_canTakeSide_18 : decode cX2_canTakeSide 18 = .ok (.iconst 1, 1) := by decide +kernel
theorem dX2_canTakeSide_19 : decode cX2_canTakeSide 19 = .ok (.goto 4, 3) := by decide +kernel
theorem dX2_canTakeSide_22 : decode cX2_canTakeSide 22 = .ok (.iconst 0, 1) := by decide +kernel
theorem dX2_canTakeSide_23 : decode cX2_canTakeSide 23 = .ok (.ireturn, 1) := by decide +kernel
theorem dX2_attach_0 : decode cX2_attach 0 = .ok (.aload_n 0, 1) := by decide +kernel
theorem dX2_attach_1 : decode cX2_attach 1 = .ok (.getfield 28, 3) := by decide +kernel
theorem dX2_attach_4 : decode cX2_attach 4 = .ok (.iload_n 1, 1) := by decide +kernel
theorem dX2_attach_5 : decode cX2_attach 5 = .ok (.iconst 4, 1) := by decide +kernel
theorem dX2_attach_6 : decode cX2_attach 6 = .ok (.imul, 1) := by decide +kernel
theorem dX2_attach_7 : decode cX2_attach 7 = .ok (.aload_n 0, 1) := by decide +kernel
theorem dX2_attach_8 : decode cX2_attach 8 = .ok (.getfield 31, 3) := by decide +kernel
theorem dX2_attach_11 : decode cX2_attach 11 = .ok (.iload_n 1, 1) := by decide +kernel
theorem dX2_attach_12 : decode cX2_attach 12 = .ok (.iaload, 1) := by decide +kernel
theorem dX2_attach_13 : decode cX2_attach 13 = .ok (.iadd, 1) := by decide +kernel
theorem dX2_attach_14 : decode cX2_attach 14 = .ok (.aload_n 0, 1) := by decide +kernel
theorem dX2_attach_15 : decode cX2_attach 15 = .ok (.getfield 47, 3) := by decide +kernel
theorem dX2_attach_18 : decode cX2_attach 18 = .ok (.iastore, 1) := by decide +kernel
theorem dX2_attach_19 : decode cX2_attach 19 = .ok (.aload_n 0, 1) := by decide +kernel
theorem dX2_attach_20 : decode cX2_attach 20 = .ok (.getfield 31, 3) := by decide +kernel
theorem dX2_attach_23 : decode cX2_attach 23 = .ok (.iload_n 1, 1) := by decide +kernel
theorem dX2_attach_24 : decode cX2_attach 24 = .ok (.dup2, 1) := by decide +kernel
theorem dX2_attach_25 : decode cX2_attach 25 = .ok (.iaload, 1) := by decide +kernel
theorem dX2_attach_26 : decode cX2_attach 26 = .ok (.iconst 1, 1) := by decide +kernel
theorem dX2_attach_27 : decode cX2_attach 27 = .ok (.iadd, 1) := by decide +kernel
theorem dX2_attach_28 : decode cX2_attach 28 = .ok (.iastore, 1) := by decide +kernel
theorem dX2_attach_29 : decode cX2_attach 29 = .ok (.aload_n 0, 1) := by decide +kernel
theorem dX2_attach_30 : decode cX2_attach 30 = .ok (.getfield 34, 3) := by decide +kernel
theorem dX2_attach_33 : decode cX2_attach 33 = .ok (.iload_n 1, 1) := by decide +kernel
theorem dX2_attach_34 : decode cX2_attach 34 = .ok (.dup2, 1) := by decide +kernel
theorem dX2_attach_35 : decode cX2_attach 35 = .ok (.iaload, 1) := by decide +kernel
theorem dX2_attach_36 : decode cX2_attach 36 = .ok (.iconst 1, 1) := by decide +kernel
theorem dX2_attach_37 : decode cX2_attach 37 = .ok (.iadd, 1) := by decide +kernel
theorem dX2_attach_38 : decode cX2_attach 38 = .ok (.iastore, 1) := by decide +kernel
theorem dX2_attach_39 : decode cX2_attach 39 = .ok (.return_, 1) := by decide +kernel
theorem dX2_layGrid_0 : decode cX2_layGrid 0 = .ok (.aload_n 0, 1) := by decide +kernel
theorem dX2_layGrid_1 : decode cX2_layGrid 1 = .ok (.invokevirtual 79, 3) := by decide +kernel
theorem dX2_layGrid_4 : decode cX2_layGrid 4 = .ok (.iconst 0, 1) := by decide +kernel
theorem dX2_layGrid_5 : decode cX2_layGrid 5 = .ok (.istore_n 3, 1) := by decide +kernel
theorem dX2_layGrid_6 : decode cX2_layGrid 6 = .ok (.iload_n 3, 1) := by decide +kernel
theorem dX2_layGrid_7 : decode cX2_layGrid 7 = .ok (.iload_n 1, 1) := by decide +kernel
theorem dX2_layGrid_8 : decode cX2_layGrid 8 = .ok (.iload_n 2, 1) := by decide +kernel
theorem dX2_layGrid_9 : decode cX2_layGrid 9 = .ok (.imul, 1) := by decide +kernel
theorem dX2_layGrid_10 : decode cX2_layGrid 10 = .ok (.if_icmp .ge 14, 3) := by decide +kernel
theorem dX2_layGrid_13 : decode cX2_layGrid 13 = .ok (.aload_n 0, 1) := by decide +kernel
theorem dX2_layGrid_14 : decode cX2_layGrid 14 = .ok (.invokevirtual 82, 3) := by decide +kernel
theorem dX2_layGrid_17 : decode cX2_layGrid 17 = .ok (.pop, 1) := by decide +kernel
theorem dX2_layGrid_18 : decode cX2_layGrid 18 = .ok (.iinc 3 1, 3) := by decide +kernel
theorem dX2_layGrid_21 : decode cX2_layGrid 21 = .ok (.goto (-15), 3) := by decide +kernel
theorem dX2_layGrid_24 : decode cX2_layGrid 24 = .ok (.iconst 0, 1) := by decide +kernel
theorem dX2_layGrid_25 : decode cX2_layGrid 25 = .ok (.istore_n 3, 1) := by decide +kernel
theorem dX2_layGrid_26 : decode cX2_layGrid 26 = .ok (.iload_n 3, 1) := by decide +kernel
theorem dX2_layGrid_27 : decode cX2_layGrid 27 = .ok (.iload_n 1, 1) := by decide +kernel
theorem dX2_layGrid_28 : decode cX2_layGrid 28 = .ok (.if_icmp .gt 59, 3) := by decide +kernel
theorem dX2_layGrid_31 : decode cX2_layGrid 31 = .ok (.iconst 0, 1) := by decide +kernel
theorem dX2_layGrid_32 : decode cX2_layGrid 32 = .ok (.istore 4, 2) := by decide +kernel
theorem dX2_layGrid_34 : decode cX2_layGrid 34 = .ok (.iload 4, 2) := by decide +kernel
theorem dX2_layGrid_36 : decode cX2_layGrid 36 = .ok (.iload_n 2, 1) := by decide +kernel
theorem dX2_layGrid_37 : decode cX2_layGrid 37 = .ok (.if_icmp .ge 44, 3) := by decide +kernel
theorem dX2_layGrid_40 : decode cX2_layGrid 40 = .ok (.iload_n 3, 1) := by decide +kernel
theorem dX2_layGrid_41 : decode cX2_layGrid 41 = .ok (.iload_n 2, 1) := by decide +kernel
theorem dX2_layGrid_42 : decode cX2_layGrid 42 = .ok (.imul, 1) := by decide +kernel
theorem dX2_layGrid_43 : decode cX2_layGrid 43 = .ok (.iload 4, 2) := by decide +kernel
theorem dX2_layGrid_45 : decode cX2_layGrid 45 = .ok (.iadd, 1) := by decide +kernel
theorem dX2_layGrid_46 : decode cX2_layGrid 46 = .ok (.istore 5, 2) := by decide +kernel
theorem dX2_layGrid_48 : decode cX2_layGrid 48 = .ok (.aload_n 0, 1) := by decide +kernel
theorem dX2_layGrid_49 : decode cX2_layGrid 49 = .ok (.iload_n 3, 1) := by decide +kernel
theorem dX2_layGrid_50 : decode cX2_layGrid 50 = .ok (.ifCond .le 10, 3) := by decide +kernel
theorem dX2_layGrid_53 : decode cX2_layGrid 53 = .ok (.iload 5, 2) := by decide +kernel
theorem dX2_layGrid_55 : decode cX2_layGrid 55 = .ok (.iload_n 2, 1) := by decide +kernel
theorem dX2_layGrid_56 : decode cX2_layGrid 56 = .ok (.isub, 1) := by decide +kernel
theorem dX2_layGrid_57 : decode cX2_layGrid 57 = .ok (.goto 4, 3) := by decide +kernel
theorem dX2_layGrid_60 : decode cX2_layGrid 60 = .ok (.iconst (-1), 1) := by decide +kernel
theorem dX2_layGrid_61 : decode cX2_layGrid 61 = .ok (.iload_n 3, 1) := by decide +kernel
theorem dX2_layGrid_62 : decode cX2_layGrid 62 = .ok (.iload_n 1, 1) := by decide +kernel
theorem dX2_layGrid_63 : decode cX2_layGrid 63 = .ok (.if_icmp .ge 8, 3) := by decide +kernel
theorem dX2_layGrid_66 : decode cX2_layGrid 66 = .ok (.iload 5, 2) := by decide +kernel
theorem dX2_layGrid_68 : decode cX2_layGrid 68 = .ok (.goto 4, 3) := by decide +kernel
theorem dX2_layGrid_71 : decode cX2_layGrid 71 = .ok (.iconst (-1), 1) := by decide +kernel
theorem dX2_layGrid_72 : decode cX2_layGrid 72 = .ok (.invokevirtual 86, 3) := by decide +kernel
theorem dX2_layGrid_75 : decode cX2_layGrid 75 = .ok (.iinc 4 1, 3) := by decide +kernel
theorem dX2_layGrid_78 : decode cX2_layGrid 78 = .ok (.goto (-44), 3) := by decide +kernel
theorem dX2_layGrid_81 : decode cX2_layGrid 81 = .ok (.iinc 3 1, 3) := by decide +kernel
theorem dX2_layGrid_84 : decode cX2_layGrid 84 = .ok (.goto (-58), 3) := by decide +kernel
theorem dX2_layGrid_87 : decode cX2_layGrid 87 = .ok (.iconst 0, 1) := by decide +kernel
theorem dX2_layGrid_88 : decode cX2_layGrid 88 = .ok (.istore_n 3, 1) := by decide +kernel
theorem dX2_layGrid_89 : decode cX2_layGrid 89 = .ok (.iload_n 3, 1) := by decide +kernel
theorem dX2_layGrid_90 : decode cX2_layGrid 90 = .ok (.iload_n 1, 1) := by decide +kernel
theorem dX2_layGrid_91 : decode cX2_layGrid 91 = .ok (.if_icmp .ge 61, 3) := by decide +kernel
theorem dX2_layGrid_94 : decode cX2_layGrid 94 = .ok (.iconst 0, 1) := by decide +kernel
theorem dX2_layGrid_95 : decode cX2_layGrid 95 = .ok (.istore 4, 2) := by decide +kernel
theorem dX2_layGrid_97 : decode cX2_layGrid 97 = .ok (.iload 4, 2) := by decide +kernel
theorem dX2_layGrid_99 : decode cX2_layGrid 99 = .ok (.iload_n 2, 1) := by decide +kernel
theorem dX2_layGrid_100 : decode cX2_layGrid 100 = .ok (.if_icmp .gt 46, 3) := by decide +kernel
theorem dX2_layGrid_103 : decode cX2_layGrid 103 = .ok (.iload_n 3, 1) := by decide +kernel
theorem dX2_layGrid_104 : decode cX2_layGrid 104 = .ok (.iload_n 2, 1) := by decide +kernel
theorem dX2_layGrid_105 : decode cX2_layGrid 105 = .ok (.imul, 1) := by decide +kernel
theorem dX2_layGrid_106 : decode cX2_layGrid 106 = .ok (.iload 4, 2) := by decide +kernel
theorem dX2_layGrid_108 : decode cX2_layGrid 108 = .ok (.iadd, 1) := by decide +kernel
theorem dX2_layGrid_109 : decode cX2_layGrid 109 = .ok (.istore 5, 2) := by decide +kernel
theorem dX2_layGrid_111 : decode cX2_layGrid 111 = .ok (.aload_n 0, 1) := by decide +kernel
theorem dX2_layGrid_112 : decode cX2_layGrid 112 = .ok (.iload 4, 2) := by decide +kernel
theorem dX2_layGrid_114 : decode cX2_layGrid 114 = .ok (.ifCond .le 10, 3) := by decide +kernel
theorem dX2_layGrid_117 : decode cX2_layGrid 117 = .ok (.iload 5, 2) := by decide +kernel
theorem dX2_layGrid_119 : decode cX2_layGrid 119 = .ok (.iconst 1, 1) := by decide +kernel
theorem dX2_layGrid_120 : decode cX2_layGrid 120 = .ok (.isub, 1) := by decide +kernel
theorem dX2_layGrid_121 : decode cX2_layGrid 121 = .ok (.goto 4, 3) := by decide +kernel
theorem dX2_layGrid_124 : decode cX2_layGrid 124 = .ok (.iconst (-1), 1) := by decide +kernel
theorem dX2_layGrid_125 : decode cX2_layGrid 125 = .ok (.iload 4, 2) := by decide +kernel
theorem dX2_layGrid_127 : decode cX2_layGrid 127 = .ok (.iload_n 2, 1) := by decide +kernel
theorem dX2_layGrid_128 : decode cX2_layGrid 128 = .ok (.if_icmp .ge 8, 3) := by decide +kernel
theorem dX2_layGrid_131 : decode cX2_layGrid 131 = .ok (.iload 5, 2) := by decide +kernel
theorem dX2_layGrid_133 : decode cX2_layGrid 133 = .ok (.goto 4, 3) := by decide +kernel
theorem dX2_layGrid_136 : decode cX2_layGrid 136 = .ok (.iconst (-1), 1) := by decide +kernel
theorem dX2_layGrid_137 : decode cX2_layGrid 137 = .ok (.invokevirtual 86, 3) := by decide +kernel
theorem dX2_layGrid_140 : decode cX2_layGrid 140 = .ok (.iinc 4 1, 3) := by decide +kernel
theorem dX2_layGrid_143 : decode cX2_layGrid 143 = .ok (.goto (-46), 3) := by decide +kernel
theorem dX2_layGrid_146 : decode cX2_layGrid 146 = .ok (.iinc 3 1, 3) := by decide +kernel
theorem dX2_layGrid_149 : decode cX2_layGrid 149 = .ok (.goto (-60), 3) := by decide +kernel
theorem dX2_layGrid_152 : decode cX2_layGrid 152 = .ok (.return_, 1) := by decide +kernel
theorem dX2_addBetween_0 : decode cX2_addBetween 0 = .ok (.iload_n 1, 1) := by decide +kernel
theorem dX2_addBetween_1 : decode cX2_addBetween 1 = .ok (.iconst (-1), 1) := by decide +kernel
theorem dX2_addBetween_2 : decode cX2_addBetween 2 = .ok (.if_icmp .ne 13, 3) := by decide +kernel
theorem dX2_addBetween_5 : decode cX2_addBetween 5 = .ok (.aload_n 0, 1) := by decide +kernel
theorem dX2_addBetween_6 : decode cX2_addBetween 6 = .ok (.iload_n 2, 1) := by decide +kernel
theorem dX2_addBetween_7 : decode cX2_addBetween 7 = .ok (.iconst (-1), 1) := by decide +kernel
theorem dX2_addBetween_8 : decode cX2_addBetween 8 = .ok (.invokevirtual 90, 3) := by decide +kernel
theorem dX2_addBetween_11 : decode cX2_addBetween 11 = .ok (.pop, 1) := by decide +kernel
theorem dX2_addBetween_12 : decode cX2_addBetween 12 = .ok (.goto 10, 3) := by decide +kernel
theorem dX2_addBetween_15 : decode cX2_addBetween 15 = .ok (.aload_n 0, 1) := by decide +kernel
theorem dX2_addBetween_16 : decode cX2_addBetween 16 = .ok (.iload_n 1, 1) := by decide +kernel
theorem dX2_addBetween_17 : decode cX2_addBetween 17 = .ok (.iload_n 2, 1) := by decide +kernel
theorem dX2_addBetween_18 : decode cX2_addBetween 18 = .ok (.invokevirtual 90, 3) := by decide +kernel
theorem dX2_addBetween_21 : decode cX2_addBetween 21 = .ok (.pop, 1) := by decide +kernel
theorem dX2_addBetween_22 : decode cX2_addBetween 22 = .ok (.return_, 1) := by decide +kernel
theorem dX2_sideAt_0 : decode cX2_sideAt 0 = .ok (.aload_n 0, 1) := by decide +kernel
theorem dX2_sideAt_1 : decode cX2_sideAt 1 = .ok (.getfield 28, 3) := by decide +kernel
theorem dX2_sideAt_4 : decode cX2_sideAt 4 = .ok (.iload_n 1, 1) := by decide +kernel
theorem dX2_sideAt_5 : decode cX2_sideAt 5 = .ok (.iconst 4, 1) := by decide +kernel
theorem dX2_sideAt_6 : decode cX2_sideAt 6 = .ok (.imul, 1) := by decide +kernel
theorem dX2_sideAt_7 : decode cX2_sideAt 7 = .ok (.iload_n 2, 1) := by decide +kernel
theorem dX2_sideAt_8 : decode cX2_sideAt 8 = .ok (.iadd, 1) := by decide +kernel
theorem dX2_sideAt_9 : decode cX2_sideAt 9 = .ok (.iaload, 1) := by decide +kernel
theorem dX2_sideAt_10 : decode cX2_sideAt 10 = .ok (.ireturn, 1) := by decide +kernel
theorem dX2_across_0 : decode cX2_across 0 = .ok (.aload_n 0, 1) := by decide +kernel
theorem dX2_across_1 : decode cX2_across 1 = .ok (.getfield 9, 3) := by decide +kernel
theorem dX2_across_4 : decode cX2_across 4 = .ok (.iload_n 1, 1) := by decide +kernel
theorem dX2_across_5 : decode cX2_across 5 = .ok (.iaload, 1) := by decide +kernel
theorem dX2_across_6 : decode cX2_across 6 = .ok (.iload_n 2, 1) := by decide +kernel
theorem dX2_across_7 : decode cX2_across 7 = .ok (.if_icmp .ne 12, 3) := by decide +kernel
theorem dX2_across_10 : decode cX2_across 10 = .ok (.aload_n 0, 1) := by decide +kernel
theorem dX2_across_11 : decode cX2_across 11 = .ok (.getfield 15, 3) := by decide +kernel
theorem dX2_across_14 : decode cX2_across 14 = .ok (.iload_n 1, 1) := by decide +kernel
theorem dX2_across_15 : decode cX2_across 15 = .ok (.iaload, 1) := by decide +kernel
theorem dX2_across_16 : decode cX2_across 16 = .ok (.goto 9, 3) := by decide +kernel
theorem dX2_across_19 : decode cX2_across 19 = .ok (.aload_n 0, 1) := by decide +kernel
theorem dX2_across_20 : decode cX2_across 20 = .ok (.getfield 9, 3) := by decide +kernel
theorem dX2_across_23 : decode cX2_across 23 = .ok (.iload_n 1, 1) := by decide +kernel
theorem dX2_across_24 : decode cX2_across 24 = .ok (.iaload, 1) := by decide +kernel
theorem dX2_across_25 : decode cX2_across 25 = .ok (.ireturn, 1) := by decide +kernel
theorem dX2_closedBy_0 : decode cX2_closedBy 0 = .ok (.aload_n 0, 1) := by decide +kernel
theorem dX2_closedBy_1 : decode cX2_closedBy 1 = .ok (.iload_n 1, 1) := by decide +kernel
theorem dX2_closedBy_2 : decode cX2_closedBy 2 = .ok (.invokevirtual 94, 3) := by decide +kernel
theorem dX2_closedBy_5 : decode cX2_closedBy 5 = .ok (.ifCond .ne 5, 3) := by decide +kernel
theorem dX2_closedBy_8 : decode cX2_closedBy 8 = .ok (.iconst 0, 1) := by decide +kernel
theorem dX2_closedBy_9 : decode cX2_closedBy 9 = .ok (.ireturn, 1) := by decide +kernel
theorem dX2_closedBy_10 : decode cX2_closedBy 10 = .ok (.aload_n 0, 1) := by decide +kernel
theorem dX2_closedBy_11 : decode cX2_closedBy 11 = .ok (.getfield 34, 3) := by decide +kernel
theorem dX2_closedBy_14 : decode cX2_closedBy 14 = .ok (.aload_n 0, 1) := by decide +kernel
theorem dX2_closedBy_15 : decode cX2_closedBy 15 = .ok (.getfield 9, 3) := by decide +kernel
theorem dX2_closedBy_18 : decode cX2_closedBy 18 = .ok (.iload_n 1, 1) := by decide +kernel
theorem dX2_closedBy_19 : decode cX2_closedBy 19 = .ok (.iaload, 1) := by decide +kernel
theorem dX2_closedBy_20 : decode cX2_closedBy 20 = .ok (.iaload, 1) := by decide +kernel
theorem dX2_closedBy_21 : decode cX2_closedBy 21 = .ok (.iconst 1, 1) := by decide +kernel
theorem dX2_closedBy_22 : decode cX2_closedBy 22 = .ok (.if_icmp .ne 7, 3) := by decide +kernel
theorem dX2_closedBy_25 : decode cX2_closedBy 25 = .ok (.iconst 1, 1) := by decide +kernel
theorem dX2_closedBy_26 : decode cX2_closedBy 26 = .ok (.goto 4, 3) := by decide +kernel
theorem dX2_closedBy_29 : decode cX2_closedBy 29 = .ok (.iconst 0, 1) := by decide +kernel
theorem dX2_closedBy_30 : decode cX2_closedBy 30 = .ok (.istore_n 2, 1) := by decide +kernel
theorem dX2_closedBy_31 : decode cX2_closedBy 31 = .ok (.aload_n 0, 1) := by decide +kernel
theorem dX2_closedBy_32 : decode cX2_closedBy 32 = .ok (.getfield 15, 3) := by decide +kernel
theorem dX2_closedBy_35 : decode cX2_closedBy 35 = .ok (.iload_n 1, 1) := by decide +kernel
theorem dX2_closedBy_36 : decode cX2_closedBy 36 = .ok (.iaload, 1) := by decide +kernel
theorem dX2_closedBy_37 : decode cX2_closedBy 37 = .ok (.iconst (-1), 1) := by decide +kernel
theorem dX2_closedBy_38 : decode cX2_closedBy 38 = .ok (.if_icmp .eq 21, 3) := by decide +kernel
theorem dX2_closedBy_41 : decode cX2_closedBy 41 = .ok (.aload_n 0, 1) := by decide +kernel
theorem dX2_closedBy_42 : decode cX2_closedBy 42 = .ok (.getfield 34, 3) := by decide +kernel
theorem dX2_closedBy_45 : decode cX2_closedBy 45 = .ok (.aload_n 0, 1) := by decide +kernel
theorem dX2_closedBy_46 : decode cX2_closedBy 46 = .ok (.getfield 15, 3) := by decide +kernel
theorem dX2_closedBy_49 : decode cX2_closedBy 49 = .ok (.iload_n 1, 1) := by decide +kernel
theorem dX2_closedBy_50 : decode cX2_closedBy 50 = .ok (.iaload, 1) := by decide +kernel
theorem dX2_closedBy_51 : decode cX2_closedBy 51 = .ok (.iaload, 1) := by decide +kernel
theorem dX2_closedBy_52 : decode cX2_closedBy 52 = .ok (.iconst 1, 1) := by decide +kernel
theorem dX2_closedBy_53 : decode cX2_closedBy 53 = .ok (.if_icmp .ne 6, 3) := by decide +kernel
theorem dX2_closedBy_56 : decode cX2_closedBy 56 = .ok (.iinc 2 1, 3) := by decide +kernel
theorem dX2_closedBy_59 : decode cX2_closedBy 59 = .ok (.iload_n 2, 1) := by decide +kernel
theorem dX2_closedBy_60 : decode cX2_closedBy 60 = .ok (.ireturn, 1) := by decide +kernel
theorem dX2_takeNew_0 : decode cX2_takeNew 0 = .ok (.aload_n 0, 1) := by decide +kernel
theorem dX2_takeNew_1 : decode cX2_takeNew 1 = .ok (.iload_n 1, 1) := by decide +kernel
theorem dX2_takeNew_2 : decode cX2_takeNew 2 = .ok (.invokevirtual 97, 3) := by decide +kernel
theorem dX2_takeNew_5 : decode cX2_takeNew 5 = .ok (.istore_n 2, 1) := by decide +kernel
theorem dX2_takeNew_6 : decode cX2_takeNew 6 = .ok (.aload_n 0, 1) := by decide +kernel
theorem dX2_takeNew_7 : decode cX2_takeNew 7 = .ok (.aload_n 0, 1) := by decide +kernel
theorem dX2_takeNew_8 : decode cX2_takeNew 8 = .ok (.getfield 53, 3) := by decide +kernel
theorem dX2_takeNew_11 : decode cX2_takeNew 11 = .ok (.putfield 56, 3) := by decide +kernel
theorem dX2_takeNew_14 : decode cX2_takeNew 14 = .ok (.iload_n 2, 1) := by decide +kernel
theorem dX2_takeNew_15 : decode cX2_takeNew 15 = .ok (.ireturn, 1) := by decide +kernel
theorem dX2_takeAgain_0 : decode cX2_takeAgain 0 = .ok (.aload_n 0, 1) := by decide +kernel
theorem dX2_takeAgain_1 : decode cX2_takeAgain 1 = .ok (.getfield 53, 3) := by decide +kernel
theorem dX2_takeAgain_4 : decode cX2_takeAgain 4 = .ok (.aload_n 0, 1) := by decide +kernel
theorem dX2_takeAgain_5 : decode cX2_takeAgain 5 = .ok (.getfield 56, 3) := by decide +kernel
theorem dX2_takeAgain_8 : decode cX2_takeAgain 8 = .ok (.if_icmp .lt 5, 3) := by decide +kernel
theorem dX2_takeAgain_11 : decode cX2_takeAgain 11 = .ok (.iconst (-1), 1) := by decide +kernel
theorem dX2_takeAgain_12 : decode cX2_takeAgain 12 = .ok (.ireturn, 1) := by decide +kernel
theorem dX2_takeAgain_13 : decode cX2_takeAgain 13 = .ok (.aload_n 0, 1) := by decide +kernel
theorem dX2_takeAgain_14 : decode cX2_takeAgain 14 = .ok (.getfield 22, 3) := by decide +kernel
theorem dX2_takeAgain_17 : decode cX2_takeAgain 17 = .ok (.aload_n 0, 1) := by decide +kernel
theorem dX2_takeAgain_18 : decode cX2_takeAgain 18 = .ok (.getfield 53, 3) := by decide +kernel
theorem dX2_takeAgain_21 : decode cX2_takeAgain 21 = .ok (.iaload, 1) := by decide +kernel
theorem dX2_takeAgain_22 : decode cX2_takeAgain 22 = .ok (.istore_n 1, 1) := by decide +kernel
theorem dX2_takeAgain_23 : decode cX2_takeAgain 23 = .ok (.aload_n 0, 1) := by decide +kernel
theorem dX2_takeAgain_24 : decode cX2_takeAgain 24 = .ok (.iload_n 1, 1) := by decide +kernel
theorem dX2_takeAgain_25 : decode cX2_takeAgain 25 = .ok (.invokevirtual 97, 3) := by decide +kernel
theorem dX2_takeAgain_28 : decode cX2_takeAgain 28 = .ok (.pop, 1) := by decide +kernel
theorem dX2_takeAgain_29 : decode cX2_takeAgain 29 = .ok (.iload_n 1, 1) := by decide +kernel
theorem dX2_takeAgain_30 : decode cX2_takeAgain 30 = .ok (.ireturn, 1) := by decide +kernel
theorem dX2_takeBack_0 : decode cX2_takeBack 0 = .ok (.aload_n 0, 1) := by decide +kernel
theorem dX2_takeBack_1 : decode cX2_takeBack 1 = .ok (.getfield 53, 3) := by decide +kernel
theorem dX2_takeBack_4 : decode cX2_takeBack 4 = .ok (.ifCond .ne 5, 3) := by decide +kernel
theorem dX2_takeBack_7 : decode cX2_takeBack 7 = .ok (.iconst (-1), 1) := by decide +kernel
theorem dX2_takeBack_8 : decode cX2_takeBack 8 = .ok (.ireturn, 1) := by decide +kernel
theorem dX2_takeBack_9 : decode cX2_takeBack 9 = .ok (.aload_n 0, 1) := by decide +kernel
theorem dX2_takeBack_10 : decode cX2_takeBack 10 = .ok (.dup, 1) := by decide +kernel
theorem dX2_takeBack_11 : decode cX2_takeBack 11 = .ok (.getfield 53, 3) := by decide +kernel
theorem dX2_takeBack_14 : decode cX2_takeBack 14 = .ok (.iconst 1, 1) := by decide +kernel
theorem dX2_takeBack_15 : decode cX2_takeBack 15 = .ok (.isub, 1) := by decide +kernel
theorem dX2_takeBack_16 : decode cX2_takeBack 16 = .ok (.putfield 53, 3) := by decide +kernel
theorem dX2_takeBack_19 : decode cX2_takeBack 19 = .ok (.aload_n 0, 1) := by decide +kernel
theorem dX2_takeBack_20 : decode cX2_takeBack 20 = .ok (.getfield 22, 3) := by decide +kernel
theorem dX2_takeBack_23 : decode cX2_takeBack 23 = .ok (.aload_n 0, 1) := by decide +kernel
theorem dX2_takeBack_24 : decode cX2_takeBack 24 = .ok (.getfield 53, 3) := by decide +kernel
theorem dX2_takeBack_27 : decode cX2_takeBack 27 = .ok (.iaload, 1) := by decide +kernel
theorem dX2_takeBack_28 : decode cX2_takeBack 28 = .ok (.istore_n 1, 1) := by decide +kernel
theorem dX2_takeBack_29 : decode cX2_takeBack 29 = .ok (.aload_n 0, 1) := by decide +kernel
theorem dX2_takeBack_30 : decode cX2_takeBack 30 = .ok (.aload_n 0, 1) := by decide +kernel
theorem dX2_takeBack_31 : decode cX2_takeBack 31 = .ok (.getfield 25, 3) := by decide +kernel
theorem dX2_takeBack_34 : decode cX2_takeBack 34 = .ok (.aload_n 0, 1) := by decide +kernel
theorem dX2_takeBack_35 : decode cX2_takeBack 35 = .ok (.getfield 53, 3) := by decide +kernel
theorem dX2_takeBack_38 : decode cX2_takeBack 38 = .ok (.iaload, 1) := by decide +kernel
theorem dX2_takeBack_39 : decode cX2_takeBack 39 = .ok (.putfield 59, 3) := by decide +kernel
theorem dX2_takeBack_42 : decode cX2_takeBack 42 = .ok (.aload_n 0, 1) := by decide +kernel
theorem dX2_takeBack_43 : decode cX2_takeBack 43 = .ok (.getfield 18, 3) := by decide +kernel
theorem dX2_takeBack_46 : decode cX2_takeBack 46 = .ok (.iload_n 1, 1) := by decide +kernel
theorem dX2_takeBack_47 : decode cX2_takeBack 47 = .ok (.iconst 1, 1) := by decide +kernel
theorem dX2_takeBack_48 : decode cX2_takeBack 48 = .ok (.bastore, 1) := by decide +kernel
theorem dX2_takeBack_49 : decode cX2_takeBack 49 = .ok (.aload_n 0, 1) := by decide +kernel
theorem dX2_takeBack_50 : decode cX2_takeBack 50 = .ok (.dup, 1) := by decide +kernel
theorem dX2_takeBack_51 : decode cX2_takeBack 51 = .ok (.getfield 50, 3) := by decide +kernel
theorem dX2_takeBack_54 : decode cX2_takeBack 54 = .ok (.iconst 1, 1) := by decide +kernel
theorem dX2_takeBack_55 : decode cX2_takeBack 55 = .ok (.iadd, 1) := by decide +kernel
theorem dX2_takeBack_56 : decode cX2_takeBack 56 = .ok (.putfield 50, 3) := by decide +kernel
theorem dX2_takeBack_59 : decode cX2_takeBack 59 = .ok (.aload_n 0, 1) := by decide +kernel
theorem dX2_takeBack_60 : decode cX2_takeBack 60 = .ok (.aload_n 0, 1) := by decide +kernel
theorem dX2_takeBack_61 : decode cX2_takeBack 61 = .ok (.getfield 9, 3) := by decide +kernel
theorem dX2_takeBack_64 : decode cX2_takeBack 64 = .ok (.iload_n 1, 1) := by decide +kernel
theorem dX2_takeBack_65 : decode cX2_takeBack 65 = .ok (.iaload, 1) := by decide +kernel
theorem dX2_takeBack_66 : decode cX2_takeBack 66 = .ok (.invokevirtual 101, 3) := by decide +kernel
theorem dX2_takeBack_69 : decode cX2_takeBack 69 = .ok (.aload_n 0, 1) := by decide +kernel
theorem dX2_takeBack_70 : decode cX2_takeBack 70 = .ok (.getfield 15, 3) := by decide +kernel
theorem dX2_takeBack_73 : decode cX2_takeBack 73 = .ok (.iload_n 1, 1) := by decide +kernel
theorem dX2_takeBack_74 : decode cX2_takeBack 74 = .ok (.iaload, 1) := by decide +kernel
theorem dX2_takeBack_75 : decode cX2_takeBack 75 = .ok (.iconst (-1), 1) := by decide +kernel
theorem dX2_takeBack_76 : decode cX2_takeBack 76 = .ok (.if_icmp .eq 13, 3) := by decide +kernel
theorem dX2_takeBack_79 : decode cX2_takeBack 79 = .ok (.aload_n 0, 1) := by decide +kernel
theorem dX2_takeBack_80 : decode cX2_takeBack 80 = .ok (.aload_n 0, 1) := by decide +kernel
theorem dX2_takeBack_81 : decode cX2_takeBack 81 = .ok (.getfield 15, 3) := by decide +kernel
theorem dX2_takeBack_84 : decode cX2_takeBack 84 = .ok (.iload_n 1, 1) := by decide +kernel
theorem dX2_takeBack_85 : decode cX2_takeBack 85 = .ok (.iaload, 1) := by decide +kernel
theorem dX2_takeBack_86 : decode cX2_takeBack 86 = .ok (.invokevirtual 101, 3) := by decide +kernel
theorem dX2_takeBack_89 : decode cX2_takeBack 89 = .ok (.aload_n 0, 1) := by decide +kernel
theorem dX2_takeBack_90 : decode cX2_takeBack 90 = .ok (.dup, 1) := by decide +kernel
theorem dX2_takeBack_91 : decode cX2_takeBack 91 = .ok (.getfield 62, 3) := by decide +kernel
theorem dX2_takeBack_94 : decode cX2_takeBack 94 = .ok (.iconst 1, 1) := by decide +kernel
theorem dX2_takeBack_95 : decode cX2_takeBack 95 = .ok (.iadd, 1) := by decide +kernel
theorem dX2_takeBack_96 : decode cX2_takeBack 96 = .ok (.putfield 62, 3) := by decide +kernel
theorem dX2_takeBack_99 : decode cX2_takeBack 99 = .ok (.iload_n 1, 1) := by decide +kernel
theorem dX2_takeBack_100 : decode cX2_takeBack 100 = .ok (.ireturn, 1) := by decide +kernel
theorem dX2_take_0 : decode cX2_take 0 = .ok (.aload_n 0, 1) := by decide +kernel
theorem dX2_take_1 : decode cX2_take 1 = .ok (.iload_n 1, 1) := by decide +kernel
theorem dX2_take_2 : decode cX2_take 2 = .ok (.invokevirtual 104, 3) := by decide +kernel
theorem dX2_take_5 : decode cX2_take 5 = .ok (.istore_n 2, 1) := by decide +kernel
theorem dX2_take_6 : decode cX2_take 6 = .ok (.aload_n 0, 1) := by decide +kernel
theorem dX2_take_7 : decode cX2_take 7 = .ok (.getfield 22, 3) := by decide +kernel
theorem dX2_take_10 : decode cX2_take 10 = .ok (.aload_n 0, 1) := by decide +kernel
theorem dX2_take_11 : decode cX2_take 11 = .ok (.getfield 53, 3) := by decide +kernel
theorem dX2_take_14 : decode cX2_take 14 = .ok (.iload_n 1, 1) := by decide +kernel
theorem dX2_take_15 : decode cX2_take 15 = .ok (.iastore, 1) := by decide +kernel
theorem dX2_take_16 : decode cX2_take 16 = .ok (.aload_n 0, 1) := by decide +kernel
theorem dX2_take_17 : decode cX2_take 17 = .ok (.getfield 25, 3) := by decide +kernel
theorem dX2_take_20 : decode cX2_take 20 = .ok (.aload_n 0, 1) := by decide +kernel
theorem dX2_take_21 : decode cX2_take 21 = .ok (.getfield 53, 3) := by decide +kernel
theorem dX2_take_24 : decode cX2_take 24 = .ok (.aload_n 0, 1) := by decide +kernel
theorem dX2_take_25 : decode cX2_take 25 = .ok (.getfield 59, 3) := by decide +kernel
theorem dX2_take_28 : decode cX2_take 28 = .ok (.iastore, 1) := by decide +kernel
theorem dX2_take_29 : decode cX2_take 29 = .ok (.aload_n 0, 1) := by decide +kernel
theorem dX2_take_30 : decode cX2_take 30 = .ok (.dup, 1) := by decide +kernel
theorem dX2_take_31 : decode cX2_take 31 = .ok (.getfield 53, 3) := by decide +kernel
theorem dX2_take_34 : decode cX2_take 34 = .ok (.iconst 1, 1) := by decide +kernel
theorem dX2_take_35 : decode cX2_take 35 = .ok (.iadd, 1) := by decide +kernel
theorem dX2_take_36 : decode cX2_take 36 = .ok (.putfield 53, 3) := by decide +kernel
theorem dX2_take_39 : decode cX2_take 39 = .ok (.aload_n 0, 1) := by decide +kernel
theorem dX2_take_40 : decode cX2_take 40 = .ok (.getfield 18, 3) := by decide +kernel
theorem dX2_take_43 : decode cX2_take 43 = .ok (.iload_n 1, 1) := by decide +kernel
theorem dX2_take_44 : decode cX2_take 44 = .ok (.iconst 0, 1) := by decide +kernel
theorem dX2_take_45 : decode cX2_take 45 = .ok (.bastore, 1) := by decide +kernel
theorem dX2_take_46 : decode cX2_take 46 = .ok (.aload_n 0, 1) := by decide +kernel
theorem dX2_take_47 : decode cX2_take 47 = .ok (.dup, 1) := by decide +kernel
theorem dX2_take_48 : decode cX2_take 48 = .ok (.getfield 50, 3) := by decide +kernel
theorem dX2_take_51 : decode cX2_take 51 = .ok (.iconst 1, 1) := by decide +kernel
theorem dX2_take_52 : decode cX2_take 52 = .ok (.isub, 1) := by decide +kernel
theorem dX2_take_53 : decode cX2_take 53 = .ok (.putfield 50, 3) := by decide +kernel
theorem dX2_take_56 : decode cX2_take 56 = .ok (.aload_n 0, 1) := by decide +kernel
theorem dX2_take_57 : decode cX2_take 57 = .ok (.aload_n 0, 1) := by decide +kernel
theorem dX2_take_58 : decode cX2_take 58 = .ok (.getfield 9, 3) := by decide +kernel
theorem dX2_take_61 : decode cX2_take 61 = .ok (.iload_n 1, 1) := by decide +kernel
theorem dX2_take_62 : decode cX2_take 62 = .ok (.iaload, 1) := by decide +kernel
theorem dX2_take_63 : decode cX2_take 63 = .ok (.invokevirtual 107, 3) := by decide +kernel
theorem dX2_take_66 : decode cX2_take 66 = .ok (.aload_n 0, 1) := by decide +kernel
theorem dX2_take_67 : decode cX2_take 67 = .ok (.getfield 15, 3) := by decide +kernel
theorem dX2_take_70 : decode cX2_take 70 = .ok (.iload_n 1, 1) := by decide +kernel
theorem dX2_take_71 : decode cX2_take 71 = .ok (.iaload, 1) := by decide +kernel
theorem dX2_take_72 : decode cX2_take 72 = .ok (.iconst (-1), 1) := by decide +kernel
theorem dX2_take_73 : decode cX2_take 73 = .ok (.if_icmp .eq 13, 3) := by decide +kernel
theorem dX2_take_76 : decode cX2_take 76 = .ok (.aload_n 0, 1) := by decide +kernel
theorem dX2_take_77 : decode cX2_take 77 = .ok (.aload_n 0, 1) := by decide +kernel
theorem dX2_take_78 : decode cX2_take 78 = .ok (.getfield 15, 3) := by decide +kernel
theorem dX2_take_81 : decode cX2_take 81 = .ok (.iload_n 1, 1) := by decide +kernel
theorem dX2_take_82 : decode cX2_take 82 = .ok (.iaload, 1) := by decide +kernel
theorem dX2_take_83 : decode cX2_take 83 = .ok (.invokevirtual 107, 3) := by decide +kernel
theorem dX2_take_86 : decode cX2_take 86 = .ok (.iload_n 2, 1) := by decide +kernel
theorem dX2_take_87 : decode cX2_take 87 = .ok (.ifCond .ne 13, 3) := by decide +kernel
theorem dX2_take_90 : decode cX2_take 90 = .ok (.aload_n 0, 1) := by decide +kernel
theorem dX2_take_91 : decode cX2_take 91 = .ok (.iconst 1, 1) := by decide +kernel
theorem dX2_take_92 : decode cX2_take 92 = .ok (.aload_n 0, 1) := by decide +kernel
theorem dX2_take_93 : decode cX2_take 93 = .ok (.getfield 59, 3) := by decide +kernel
theorem dX2_take_96 : decode cX2_take 96 = .ok (.isub, 1) := by decide +kernel
theorem dX2_take_97 : decode cX2_take 97 = .ok (.putfield 59, 3) := by decide +kernel
theorem dX2_take_100 : decode cX2_take 100 = .ok (.aload_n 0, 1) := by decide +kernel
theorem dX2_take_101 : decode cX2_take 101 = .ok (.dup, 1) := by decide +kernel
theorem dX2_take_102 : decode cX2_take 102 = .ok (.getfield 62, 3) := by decide +kernel
theorem dX2_take_105 : decode cX2_take 105 = .ok (.iconst 1, 1) := by decide +kernel
theorem dX2_take_106 : decode cX2_take 106 = .ok (.iadd, 1) := by decide +kernel
theorem dX2_take_107 : decode cX2_take 107 = .ok (.putfield 62, 3) := by decide +kernel
theorem dX2_take_110 : decode cX2_take 110 = .ok (.iload_n 2, 1) := by decide +kernel
theorem dX2_take_111 : decode cX2_take 111 = .ok (.ireturn, 1) := by decide +kernel
theorem dX2_fence_0 : decode cX2_fence 0 = .ok (.aload_n 0, 1) := by decide +kernel
theorem dX2_fence_1 : decode cX2_fence 1 = .ok (.getfield 34, 3) := by decide +kernel
theorem dX2_fence_4 : decode cX2_fence 4 = .ok (.iload_n 1, 1) := by decide +kernel
theorem dX2_fence_5 : decode cX2_fence 5 = .ok (.dup2, 1) := by decide +kernel
theorem dX2_fence_6 : decode cX2_fence 6 = .ok (.iaload, 1) := by decide +kernel
theorem dX2_fence_7 : decode cX2_fence 7 = .ok (.iconst 1, 1) := by decide +kernel
theorem dX2_fence_8 : decode cX2_fence 8 = .ok (.isub, 1) := by decide +kernel
theorem dX2_fence_9 : decode cX2_fence 9 = .ok (.iastore, 1) := by decide +kernel
theorem dX2_fence_10 : decode cX2_fence 10 = .ok (.aload_n 0, 1) := by decide +kernel
theorem dX2_fence_11 : decode cX2_fence 11 = .ok (.getfield 34, 3) := by decide +kernel
theorem dX2_fence_14 : decode cX2_fence 14 = .ok (.iload_n 1, 1) := by decide +kernel
theorem dX2_fence_15 : decode cX2_fence 15 = .ok (.iaload, 1) := by decide +kernel
theorem dX2_fence_16 : decode cX2_fence 16 = .ok (.ifCond .ne 26, 3) := by decide +kernel
theorem dX2_fence_19 : decode cX2_fence 19 = .ok (.aload_n 0, 1) := by decide +kernel
theorem dX2_fence_20 : decode cX2_fence 20 = .ok (.getfield 37, 3) := by decide +kernel
theorem dX2_fence_23 : decode cX2_fence 23 = .ok (.iload_n 1, 1) := by decide +kernel
theorem dX2_fence_24 : decode cX2_fence 24 = .ok (.aload_n 0, 1) := by decide +kernel
theorem dX2_fence_25 : decode cX2_fence 25 = .ok (.getfield 59, 3) := by decide +kernel
theorem dX2_fence_28 : decode cX2_fence 28 = .ok (.iastore, 1) := by decide +kernel
theorem dX2_fence_29 : decode cX2_fence 29 = .ok (.aload_n 0, 1) := by decide +kernel
theorem dX2_fence_30 : decode cX2_fence 30 = .ok (.getfield 40, 3) := by decide +kernel
theorem dX2_fence_33 : decode cX2_fence 33 = .ok (.aload_n 0, 1) := by decide +kernel
theorem dX2_fence_34 : decode cX2_fence 34 = .ok (.getfield 59, 3) := by decide +kernel
theorem dX2_fence_37 : decode cX2_fence 37 = .ok (.dup2, 1) := by decide +kernel
theorem dX2_fence_38 : decode cX2_fence 38 = .ok (.iaload, 1) := by decide +kernel
theorem dX2_fence_39 : decode cX2_fence 39 = .ok (.iconst 1, 1) := by decide +kernel
theorem dX2_fence_40 : decode cX2_fence 40 = .ok (.iadd, 1) := by decide +kernel
theorem dX2_fence_41 : decode cX2_fence 41 = .ok (.iastore, 1) := by decide +kernel
theorem dX2_fence_42 : decode cX2_fence 42 = .ok (.return_, 1) := by decide +kernel
theorem dX2_reopen_0 : decode cX2_reopen 0 = .ok (.aload_n 0, 1) := by decide +kernel
theorem dX2_reopen_1 : decode cX2_reopen 1 = .ok (.getfield 34, 3) := by decide +kernel
theorem dX2_reopen_4 : decode cX2_reopen 4 = .ok (.iload_n 1, 1) := by decide +kernel
theorem dX2_reopen_5 : decode cX2_reopen 5 = .ok (.iaload, 1) := by decide +kernel
theorem dX2_reopen_6 : decode cX2_reopen 6 = .ok (.ifCond .ne 23, 3) := by decide +kernel
theorem dX2_reopen_9 : decode cX2_reopen 9 = .ok (.aload_n 0, 1) := by decide +kernel
theorem dX2_reopen_10 : decode cX2_reopen 10 = .ok (.getfield 37, 3) := by decide +kernel
theorem dX2_reopen_13 : decode cX2_reopen 13 = .ok (.iload_n 1, 1) := by decide +kernel
theorem dX2_reopen_14 : decode cX2_reopen 14 = .ok (.iconst (-1), 1) := by decide +kernel
theorem dX2_reopen_15 : decode cX2_reopen 15 = .ok (.iastore, 1) := by decide +kernel
theorem dX2_reopen_16 : decode cX2_reopen 16 = .ok (.aload_n 0, 1) := by decide +kernel
theorem dX2_reopen_17 : decode cX2_reopen 17 = .ok (.getfield 40, 3) := by decide +kernel
theorem dX2_reopen_20 : decode cX2_reopen 20 = .ok (.aload_n 0, 1) := by decide +kernel
theorem dX2_reopen_21 : decode cX2_reopen 21 = .ok (.getfield 59, 3) := by decide +kernel
theorem dX2_reopen_24 : decode cX2_reopen 24 = .ok (.dup2, 1) := by decide +kernel
theorem dX2_reopen_25 : decode cX2_reopen 25 = .ok (.iaload, 1) := by decide +kernel
theorem dX2_reopen_26 : decode cX2_reopen 26 = .ok (.iconst 1, 1) := by decide +kernel
theorem dX2_reopen_27 : decode cX2_reopen 27 = .ok (.isub, 1) := by decide +kernel
theorem dX2_reopen_28 : decode cX2_reopen 28 = .ok (.iastore, 1) := by decide +kernel
theorem dX2_reopen_29 : decode cX2_reopen 29 = .ok (.aload_n 0, 1) := by decide +kernel
theorem dX2_reopen_30 : decode cX2_reopen 30 = .ok (.getfield 34, 3) := by decide +kernel
theorem dX2_reopen_33 : decode cX2_reopen 33 = .ok (.iload_n 1, 1) := by decide +kernel
theorem dX2_reopen_34 : decode cX2_reopen 34 = .ok (.dup2, 1) := by decide +kernel
theorem dX2_reopen_35 : decode cX2_reopen 35 = .ok (.iaload, 1) := by decide +kernel
theorem dX2_reopen_36 : decode cX2_reopen 36 = .ok (.iconst 1, 1) := by decide +kernel
theorem dX2_reopen_37 : decode cX2_reopen 37 = .ok (.iadd, 1) := by decide +kernel
theorem dX2_reopen_38 : decode cX2_reopen 38 = .ok (.iastore, 1) := by decide +kernel
theorem dX2_reopen_39 : decode cX2_reopen 39 = .ok (.return_, 1) := by decide +kernel
theorem dX3_init_0 : decode cX3_init 0 = .ok (.aload_n 0, 1) := by decide +kernel
theorem dX3_init_1 : decode cX3_init 1 = .ok (.invokespecial 3, 3) := by decide +kernel
theorem dX3_init_4 : decode cX3_init 4 = .ok (.aload_n 0, 1) := by decide +kernel
theorem dX3_init_5 : decode cX3_init 5 = .ok (.sipush 200, 3) := by decide +kernel
theorem dX3_init_8 : decode cX3_init 8 = .ok (.newarray .int, 2) := by decide +kernel
theorem dX3_init_10 : decode cX3_init 10 = .ok (.putfield 9, 3) := by decide +kernel
theorem dX3_init_13 : decode cX3_init 13 = .ok (.aload_n 0, 1) := by decide +kernel
theorem dX3_init_14 : decode cX3_init 14 = .ok (.sipush 200, 3) := by decide +kernel
theorem dX3_init_17 : decode cX3_init 17 = .ok (.newarray .int, 2) := by decide +kernel
theorem dX3_init_19 : decode cX3_init 19 = .ok (.putfield 15, 3) := by decide +kernel
theorem dX3_init_22 : decode cX3_init 22 = .ok (.aload_n 0, 1) := by decide +kernel
theorem dX3_init_23 : decode cX3_init 23 = .ok (.sipush 200, 3) := by decide +kernel
theorem dX3_init_26 : decode cX3_init 26 = .ok (.newarray .int, 2) := by decide +kernel
theorem dX3_init_28 : decode cX3_init 28 = .ok (.putfield 18, 3) := by decide +kernel
theorem dX3_init_31 : decode cX3_init 31 = .ok (.aload_n 0, 1) := by decide +kernel
theorem dX3_init_32 : decode cX3_init 32 = .ok (.sipush 200, 3) := by decide +kernel
theorem dX3_init_35 : decode cX3_init 35 = .ok (.newarray .int, 2) := by decide +kernel
theorem dX3_init_37 : decode cX3_init 37 = .ok (.putfield 21, 3) := by decide +kernel
theorem dX3_init_40 : decode cX3_init 40 = .ok (.aload_n 0, 1) := by decide +kernel
theorem dX3_init_41 : decode cX3_init 41 = .ok (.sipush 200, 3) := by decide +kernel
theorem dX3_init_44 : decode cX3_init 44 = .ok (.newarray .int, 2) := by decide +kernel
theorem dX3_init_46 : decode cX3_init 46 = .ok (.putfield 24, 3) := by decide +kernel
theorem dX3_init_49 : decode cX3_init 49 = .ok (.aload_n 0, 1) := by decide +kernel
theorem dX3_init_50 : decode cX3_init 50 = .ok (.sipush 200, 3) := by decide +kernel
theorem dX3_init_53 : decode cX3_init 53 = .ok (.newarray .int, 2) := by decide +kernel
theorem dX3_init_55 : decode cX3_init 55 = .ok (.putfield 27, 3) := by decide +kernel
theorem dX3_init_58 : decode cX3_init 58 = .ok (.aload_n 0, 1) := by decide +kernel
theorem dX3_init_59 : decode cX3_init 59 = .ok (.sipush 200, 3) := by decide +kernel
theorem dX3_init_62 : decode cX3_init 62 = .ok (.newarray .int, 2) := by decide +kernel
theorem dX3_init_64 : decode cX3_init 64 = .ok (.putfield 30, 3) := by decide +kernel
theorem dX3_init_67 : decode cX3_init 67 = .ok (.aload_n 0, 1) := by decide +kernel
theorem dX3_init_68 : decode cX3_init 68 = .ok (.sipush 200, 3) := by decide +kernel
theorem dX3_init_71 : decode cX3_init 71 = .ok (.newarray .int, 2) := by decide +kernel
theorem dX3_init_73 : decode cX3_init 73 = .ok (.putfield 33, 3) := by decide +kernel
theorem dX3_init_76 : decode cX3_init 76 = .ok (.aload_n 0, 1) := by decide +kernel
theorem dX3_init_77 : decode cX3_init 77 = .ok (.iconst (-1), 1) := by decide +kernel
theorem dX3_init_78 : decode cX3_init 78 = .ok (.putfield 36, 3) := by decide +kernel
theorem dX3_init_81 : decode cX3_init 81 = .ok (.return_, 1) := by decide +kernel
theorem dX3_survey_0 : decode cX3_survey 0 = .ok (.aload_n 0, 1) := by decide +kernel
theorem dX3_survey_1 : decode cX3_survey 1 = .ok (.getfield 36, 3) := by decide +kernel
theorem dX3_survey_4 : decode cX3_survey 4 = .ok (.aload_n 1, 1) := by decide +kernel
theorem dX3_survey_5 : decode cX3_survey 5 = .ok (.getfield 40, 3) := by decide +kernel
theorem dX3_survey_8 : decode cX3_survey 8 = .ok (.if_icmp .ne 4, 3) := by decide +kernel
theorem dX3_survey_11 : decode cX3_survey 11 = .ok (.return_, 1) := by decide +kernel
theorem dX3_survey_12 : decode cX3_survey 12 = .ok (.aload_n 0, 1) := by decide +kernel
theorem dX3_survey_13 : decode cX3_survey 13 = .ok (.aload_n 1, 1) := by decide +kernel
theorem dX3_survey_14 : decode cX3_survey 14 = .ok (.getfield 40, 3) := by decide +kernel
theorem dX3_survey_17 : decode cX3_survey 17 = .ok (.putfield 36, 3) := by decide +kernel
theorem dX3_survey_20 : decode cX3_survey 20 = .ok (.aload_n 0, 1) := by decide +kernel
theorem dX3_survey_21 : decode cX3_survey 21 = .ok (.iconst 0, 1) := by decide +kernel
theorem dX3_survey_22 : decode cX3_survey 22 = .ok (.putfield 45, 3) := by decide +kernel
theorem dX3_survey_25 : decode cX3_survey 25 = .ok (.aload_n 0, 1) := by decide +kernel
theorem dX3_survey_26 : decode cX3_survey 26 = .ok (.iconst 0, 1) := by decide +kernel
theorem dX3_survey_27 : decode cX3_survey 27 = .ok (.putfield 48, 3) := by decide +kernel
theorem dX3_survey_30 : decode cX3_survey 30 = .ok (.aload_n 0, 1) := by decide +kernel
theorem dX3_survey_31 : decode cX3_survey 31 = .ok (.getfield 9, 3) := by decide +kernel
theorem dX3_survey_34 : decode cX3_survey 34 = .ok (.iconst (-1), 1) := by decide +kernel
theorem dX3_survey_35 : decode cX3_survey 35 = .ok (.invokestatic 51, 3) := by decide +kernel
theorem dX3_survey_38 : decode cX3_survey 38 = .ok (.iconst 0, 1) := by decide +kernel
theorem dX3_survey_39 : decode cX3_survey 39 = .ok (.istore_n 2, 1) := by decide +kernel
theorem dX3_survey_40 : decode cX3_survey 40 = .ok (.iload_n 2, 1) := by decide +kernel
theorem dX3_survey_41 : decode cX3_survey 41 = .ok (.aload_n 1, 1) := by decide +kernel
theorem dX3_survey_42 : decode cX3_survey 42 = .ok (.getfield 57, 3) := by decide +kernel
theorem dX3_survey_45 : decode cX3_survey 45 = .ok (.if_icmp .ge 49, 3) := by decide +kernel
theorem dX3_survey_48 : decode cX3_survey 48 = .ok (.aload_n 1, 1) := by decide +kernel
theorem dX3_survey_49 : decode cX3_survey 49 = .ok (.getfield 59, 3) := by decide +kernel
theorem dX3_survey_52 : decode cX3_survey 52 = .ok (.iload_n 2, 1) := by decide +kernel
theorem dX3_survey_53 : decode cX3_survey 53 = .ok (.iaload, 1) := by decide +kernel
theorem dX3_survey_54 : decode cX3_survey 54 = .ok (.ifCond .le 34, 3) := by decide +kernel
theorem dX3_survey_57 : decode cX3_survey 57 = .ok (.aload_n 0, 1) := by decide +kernel
theorem dX3_survey_58 : decode cX3_survey 58 = .ok (.getfield 9, 3) := by decide +kernel
theorem dX3_survey_61 : decode cX3_survey 61 = .ok (.iload_n 2, 1) := by decide +kernel
theorem dX3_survey_62 : decode cX3_survey 62 = .ok (.iaload, 1) := by decide +kernel
theorem dX3_survey_63 : decode cX3_survey 63 = .ok (.iconst (-1), 1) := by decide +kernel
theorem dX3_survey_64 : decode cX3_survey 64 = .ok (.if_icmp .ne 24, 3) := by decide +kernel
theorem dX3_survey_67 : decode cX3_survey 67 = .ok (.aload_n 0, 1) := by decide +kernel
theorem dX3_survey_68 : decode cX3_survey 68 = .ok (.aload_n 1, 1) := by decide +kernel
theorem dX3_survey_69 : decode cX3_survey 69 = .ok (.iload_n 2, 1) := by decide +kernel
theorem dX3_survey_70 : decode cX3_survey 70 = .ok (.invokevirtual 62, 3) := by decide +kernel
theorem dX3_survey_73 : decode cX3_survey 73 = .ok (.aload_n 0, 1) := by decide +kernel
theorem dX3_survey_74 : decode cX3_survey 74 = .ok (.aload_n 1, 1) := by decide +kernel
theorem dX3_survey_75 : decode cX3_survey 75 = .ok (.invokevirtual 66, 3) := by decide +kernel
theorem dX3_survey_78 : decode cX3_survey 78 = .ok (.aload_n 0, 1) := by decide +kernel
theorem dX3_survey_79 : decode cX3_survey 79 = .ok (.dup, 1) := by decide +kernel
theorem dX3_survey_80 : decode cX3_survey 80 = .ok (.getfield 45, 3) := by decide +kernel
theorem dX3_survey_83 : decode cX3_survey 83 = .ok (.iconst 1, 1) := by decide +kernel
theorem dX3_survey_84 : decode cX3_survey 84 = .ok (.iadd, 1) := by decide +kernel
theorem dX3_survey_85 : decode cX3_survey 85 = .ok (.putfield 45, 3) := by decide +kernel
theorem dX3_survey_88 : decode cX3_survey 88 = .ok (.iinc 2 1, 3) := by decide +kernel
theorem dX3_survey_91 : decode cX3_survey 91 = .ok (.goto (-51), 3) := by decide +kernel
theorem dX3_survey_94 : decode cX3_survey 94 = .ok (.return_, 1) := by decide +kernel
theorem dX3_gather_0 : decode cX3_gather 0 = .ok (.aload_n 0, 1) := by decide +kernel
theorem dX3_gather_1 : decode cX3_gather 1 = .ok (.iconst 0, 1) := by decide +kernel
theorem dX3_gather_2 : decode cX3_gather 2 = .ok (.putfield 70, 3) := by decide +kernel
theorem dX3_gather_5 : decode cX3_gather 5 = .ok (.aload_n 0, 1) := by decide +kernel
theorem dX3_gather_6 : decode cX3_gather 6 = .ok (.iload_n 2, 1) := by decide +kernel
theorem dX3_gather_7 : decode cX3_gather 7 = .ok (.invokevirtual 73, 3) := by decide +kernel
theorem dX3_gather_10 : decode cX3_gather 10 = .ok (.iconst 0, 1) := by decide +kernel
theorem dX3_gather_11 : decode cX3_gather 11 = .ok (.istore_n 3, 1) := by decide +kernel
theorem dX3_gather_12 : decode cX3_gather 12 = .ok (.iload_n 3, 1) := by decide +kernel
theorem dX3_gather_13 : decode cX3_gather 13 = .ok (.aload_n 0, 1) := by decide +kernel
theorem dX3_gather_14 : decode cX3_gather 14 = .ok (.getfield 70, 3) := by decide +kernel
theorem dX3_gather_17 : decode cX3_gather 17 = .ok (.if_icmp .ge 98, 3) := by decide +kernel
theorem dX3_gather_20 : decode cX3_gather 20 = .ok (.iload_n 3, 1) := by decide +kernel
theorem dX3_gather_21 : decode cX3_gather 21 = .ok (.sipush 200, 3) := by decide +kernel
theorem dX3_gather_24 : decode cX3_gather 24 = .ok (.if_icmp .ge 91, 3) := by decide +kernel
theorem dX3_gather_27 : decode cX3_gather 27 = .ok (.aload_n 0, 1) := by decide +kernel
theorem dX3_gather_28 : decode cX3_gather 28 = .ok (.getfield 30, 3) := by decide +kernel
theorem dX3_gather_31 : decode cX3_gather 31 = .ok (.iload_n 3, 1) := by decide +kernel
theorem dX3_gather_32 : decode cX3_gather 32 = .ok (.iaload, 1) := by decide +kernel
