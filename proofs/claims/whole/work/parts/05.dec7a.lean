theorem dX7_init_0 : decode cX7_init 0 = .ok (.aload_n 0, 1) := by decide +kernel
theorem dX7_init_1 : decode cX7_init 1 = .ok (.invokespecial 1, 3) := by decide +kernel
theorem dX7_init_4 : decode cX7_init 4 = .ok (.aload_n 0, 1) := by decide +kernel
theorem dX7_init_5 : decode cX7_init 5 = .ok (.bipush 24, 2) := by decide +kernel
theorem dX7_init_7 : decode cX7_init 7 = .ok (.newarray .int, 2) := by decide +kernel
theorem dX7_init_9 : decode cX7_init 9 = .ok (.putfield 7, 3) := by decide +kernel
theorem dX7_init_12 : decode cX7_init 12 = .ok (.aload_n 0, 1) := by decide +kernel
theorem dX7_init_13 : decode cX7_init 13 = .ok (.sipush 3690, 3) := by decide +kernel
theorem dX7_init_16 : decode cX7_init 16 = .ok (.newarray .int, 2) := by decide +kernel
theorem dX7_init_18 : decode cX7_init 18 = .ok (.putfield 13, 3) := by decide +kernel
theorem dX7_init_21 : decode cX7_init 21 = .ok (.aload_n 0, 1) := by decide +kernel
theorem dX7_init_22 : decode cX7_init 22 = .ok (.bipush 6, 2) := by decide +kernel
theorem dX7_init_24 : decode cX7_init 24 = .ok (.newarray .int, 2) := by decide +kernel
theorem dX7_init_26 : decode cX7_init 26 = .ok (.putfield 16, 3) := by decide +kernel
theorem dX7_init_29 : decode cX7_init 29 = .ok (.aload_n 0, 1) := by decide +kernel
theorem dX7_init_30 : decode cX7_init 30 = .ok (.bipush 6, 2) := by decide +kernel
theorem dX7_init_32 : decode cX7_init 32 = .ok (.newarray .int, 2) := by decide +kernel
theorem dX7_init_34 : decode cX7_init 34 = .ok (.putfield 19, 3) := by decide +kernel
theorem dX7_init_37 : decode cX7_init 37 = .ok (.aload_n 0, 1) := by decide +kernel
theorem dX7_init_38 : decode cX7_init 38 = .ok (.bipush 6, 2) := by decide +kernel
theorem dX7_init_40 : decode cX7_init 40 = .ok (.newarray .int, 2) := by decide +kernel
theorem dX7_init_42 : decode cX7_init 42 = .ok (.putfield 22, 3) := by decide +kernel
theorem dX7_init_45 : decode cX7_init 45 = .ok (.aload_n 0, 1) := by decide +kernel
theorem dX7_init_46 : decode cX7_init 46 = .ok (.bipush 6, 2) := by decide +kernel
theorem dX7_init_48 : decode cX7_init 48 = .ok (.newarray .int, 2) := by decide +kernel
theorem dX7_init_50 : decode cX7_init 50 = .ok (.putfield 25, 3) := by decide +kernel
theorem dX7_init_53 : decode cX7_init 53 = .ok (.aload_n 0, 1) := by decide +kernel
theorem dX7_init_54 : decode cX7_init 54 = .ok (.iconst 5, 1) := by decide +kernel
theorem dX7_init_55 : decode cX7_init 55 = .ok (.newarray .int, 2) := by decide +kernel
theorem dX7_init_57 : decode cX7_init 57 = .ok (.putfield 28, 3) := by decide +kernel
theorem dX7_init_60 : decode cX7_init 60 = .ok (.aload_n 0, 1) := by decide +kernel
theorem dX7_init_61 : decode cX7_init 61 = .ok (.iconst 5, 1) := by decide +kernel
theorem dX7_init_62 : decode cX7_init 62 = .ok (.newarray .int, 2) := by decide +kernel
theorem dX7_init_64 : decode cX7_init 64 = .ok (.putfield 31, 3) := by decide +kernel
theorem dX7_init_67 : decode cX7_init 67 = .ok (.aload_n 0, 1) := by decide +kernel
theorem dX7_init_68 : decode cX7_init 68 = .ok (.bipush 20, 2) := by decide +kernel
theorem dX7_init_70 : decode cX7_init 70 = .ok (.newarray .int, 2) := by decide +kernel
theorem dX7_init_72 : decode cX7_init 72 = .ok (.putfield 34, 3) := by decide +kernel
theorem dX7_init_75 : decode cX7_init 75 = .ok (.aload_n 0, 1) := by decide +kernel
theorem dX7_init_76 : decode cX7_init 76 = .ok (.bipush 6, 2) := by decide +kernel
theorem dX7_init_78 : decode cX7_init 78 = .ok (.newarray .int, 2) := by decide +kernel
theorem dX7_init_80 : decode cX7_init 80 = .ok (.putfield 37, 3) := by decide +kernel
theorem dX7_init_83 : decode cX7_init 83 = .ok (.aload_n 0, 1) := by decide +kernel
theorem dX7_init_84 : decode cX7_init 84 = .ok (.bipush 20, 2) := by decide +kernel
theorem dX7_init_86 : decode cX7_init 86 = .ok (.newarray .int, 2) := by decide +kernel
theorem dX7_init_88 : decode cX7_init 88 = .ok (.putfield 40, 3) := by decide +kernel
theorem dX7_init_91 : decode cX7_init 91 = .ok (.aload_n 0, 1) := by decide +kernel
theorem dX7_init_92 : decode cX7_init 92 = .ok (.iconst 4, 1) := by decide +kernel
theorem dX7_init_93 : decode cX7_init 93 = .ok (.newarray .int, 2) := by decide +kernel
theorem dX7_init_95 : decode cX7_init 95 = .ok (.putfield 43, 3) := by decide +kernel
theorem dX7_init_98 : decode cX7_init 98 = .ok (.aload_n 0, 1) := by decide +kernel
theorem dX7_init_99 : decode cX7_init 99 = .ok (.iconst 4, 1) := by decide +kernel
theorem dX7_init_100 : decode cX7_init 100 = .ok (.newarray .int, 2) := by decide +kernel
theorem dX7_init_102 : decode cX7_init 102 = .ok (.putfield 46, 3) := by decide +kernel
theorem dX7_init_105 : decode cX7_init 105 = .ok (.aload_n 0, 1) := by decide +kernel
theorem dX7_init_106 : decode cX7_init 106 = .ok (.sipush 240, 3) := by decide +kernel
theorem dX7_init_109 : decode cX7_init 109 = .ok (.newarray .int, 2) := by decide +kernel
theorem dX7_init_111 : decode cX7_init 111 = .ok (.putfield 49, 3) := by decide +kernel
theorem dX7_init_114 : decode cX7_init 114 = .ok (.aload_n 0, 1) := by decide +kernel
theorem dX7_init_115 : decode cX7_init 115 = .ok (.bipush 60, 2) := by decide +kernel
theorem dX7_init_117 : decode cX7_init 117 = .ok (.newarray .int, 2) := by decide +kernel
theorem dX7_init_119 : decode cX7_init 119 = .ok (.putfield 52, 3) := by decide +kernel
theorem dX7_init_122 : decode cX7_init 122 = .ok (.iconst 0, 1) := by decide +kernel
theorem dX7_init_123 : decode cX7_init 123 = .ok (.istore_n 1, 1) := by decide +kernel
theorem dX7_init_124 : decode cX7_init 124 = .ok (.iload_n 1, 1) := by decide +kernel
theorem dX7_init_125 : decode cX7_init 125 = .ok (.bipush 6, 2) := by decide +kernel
theorem dX7_init_127 : decode cX7_init 127 = .ok (.if_icmp .ge 17, 3) := by decide +kernel
theorem dX7_init_130 : decode cX7_init 130 = .ok (.aload_n 0, 1) := by decide +kernel
theorem dX7_init_131 : decode cX7_init 131 = .ok (.getfield 25, 3) := by decide +kernel
theorem dX7_init_134 : decode cX7_init 134 = .ok (.iload_n 1, 1) := by decide +kernel
theorem dX7_init_135 : decode cX7_init 135 = .ok (.bipush (-9), 2) := by decide +kernel
theorem dX7_init_137 : decode cX7_init 137 = .ok (.iastore, 1) := by decide +kernel
theorem dX7_init_138 : decode cX7_init 138 = .ok (.iinc 1 1, 3) := by decide +kernel
theorem dX7_init_141 : decode cX7_init 141 = .ok (.goto (-17), 3) := by decide +kernel
theorem dX7_init_144 : decode cX7_init 144 = .ok (.iconst 0, 1) := by decide +kernel
theorem dX7_init_145 : decode cX7_init 145 = .ok (.istore_n 1, 1) := by decide +kernel
theorem dX7_init_146 : decode cX7_init 146 = .ok (.iload_n 1, 1) := by decide +kernel
theorem dX7_init_147 : decode cX7_init 147 = .ok (.iconst 4, 1) := by decide +kernel
theorem dX7_init_148 : decode cX7_init 148 = .ok (.if_icmp .ge 16, 3) := by decide +kernel
theorem dX7_init_151 : decode cX7_init 151 = .ok (.aload_n 0, 1) := by decide +kernel
theorem dX7_init_152 : decode cX7_init 152 = .ok (.getfield 43, 3) := by decide +kernel
theorem dX7_init_155 : decode cX7_init 155 = .ok (.iload_n 1, 1) := by decide +kernel
theorem dX7_init_156 : decode cX7_init 156 = .ok (.iconst (-1), 1) := by decide +kernel
theorem dX7_init_157 : decode cX7_init 157 = .ok (.iastore, 1) := by decide +kernel
theorem dX7_init_158 : decode cX7_init 158 = .ok (.iinc 1 1, 3) := by decide +kernel
theorem dX7_init_161 : decode cX7_init 161 = .ok (.goto (-15), 3) := by decide +kernel
theorem dX7_init_164 : decode cX7_init 164 = .ok (.return_, 1) := by decide +kernel
theorem dX7_in_0 : decode cX7_in 0 = .ok (.lload_n 0, 1) := by decide +kernel
theorem dX7_in_1 : decode cX7_in 1 = .ok (.lload_n 2, 1) := by decide +kernel
theorem dX7_in_2 : decode cX7_in 2 = .ok (.lcmp, 1) := by decide +kernel
theorem dX7_in_3 : decode cX7_in 3 = .ok (.ifCond .lt 14, 3) := by decide +kernel
theorem dX7_in_6 : decode cX7_in 6 = .ok (.lload_n 0, 1) := by decide +kernel
theorem dX7_in_7 : decode cX7_in 7 = .ok (.lload 4, 2) := by decide +kernel
theorem dX7_in_9 : decode cX7_in 9 = .ok (.lcmp, 1) := by decide +kernel
theorem dX7_in_10 : decode cX7_in 10 = .ok (.ifCond .gt 7, 3) := by decide +kernel
theorem dX7_in_13 : decode cX7_in 13 = .ok (.iconst 1, 1) := by decide +kernel
theorem dX7_in_14 : decode cX7_in 14 = .ok (.goto 4, 3) := by decide +kernel
theorem dX7_in_17 : decode cX7_in 17 = .ok (.iconst 0, 1) := by decide +kernel
theorem dX7_in_18 : decode cX7_in 18 = .ok (.ireturn, 1) := by decide +kernel
theorem dX7_lost_0 : decode cX7_lost 0 = .ok (.ldc2_w 55, 3) := by decide +kernel
theorem dX7_lost_3 : decode cX7_lost 3 = .ok (.lreturn, 1) := by decide +kernel
theorem dX7_lesser_0 : decode cX7_lesser 0 = .ok (.iload_n 0, 1) := by decide +kernel
theorem dX7_lesser_1 : decode cX7_lesser 1 = .ok (.iload_n 1, 1) := by decide +kernel
theorem dX7_lesser_2 : decode cX7_lesser 2 = .ok (.if_icmp .ge 7, 3) := by decide +kernel
theorem dX7_lesser_5 : decode cX7_lesser 5 = .ok (.iload_n 0, 1) := by decide +kernel
theorem dX7_lesser_6 : decode cX7_lesser 6 = .ok (.goto 4, 3) := by decide +kernel
theorem dX7_lesser_9 : decode cX7_lesser 9 = .ok (.iload_n 1, 1) := by decide +kernel
theorem dX7_lesser_10 : decode cX7_lesser 10 = .ok (.ireturn, 1) := by decide +kernel
theorem dX7_greater_0 : decode cX7_greater 0 = .ok (.iload_n 0, 1) := by decide +kernel
theorem dX7_greater_1 : decode cX7_greater 1 = .ok (.iload_n 1, 1) := by decide +kernel
theorem dX7_greater_2 : decode cX7_greater 2 = .ok (.if_icmp .le 7, 3) := by decide +kernel
theorem dX7_greater_5 : decode cX7_greater 5 = .ok (.iload_n 0, 1) := by decide +kernel
theorem dX7_greater_6 : decode cX7_greater 6 = .ok (.goto 4, 3) := by decide +kernel
theorem dX7_greater_9 : decode cX7_greater 9 = .ok (.iload_n 1, 1) := by decide +kernel
theorem dX7_greater_10 : decode cX7_greater 10 = .ok (.ireturn, 1) := by decide +kernel
theorem dX7_refused_0 : decode cX7_refused 0 = .ok (.aload_n 0, 1) := by decide +kernel
theorem dX7_refused_1 : decode cX7_refused 1 = .ok (.iconst 0, 1) := by decide +kernel
theorem dX7_refused_2 : decode cX7_refused 2 = .ok (.putfield 57, 3) := by decide +kernel
theorem dX7_refused_5 : decode cX7_refused 5 = .ok (.iload_n 1, 1) := by decide +kernel
theorem dX7_refused_6 : decode cX7_refused 6 = .ok (.ireturn, 1) := by decide +kernel
theorem dX7_failed_0 : decode cX7_failed 0 = .ok (.aload_n 0, 1) := by decide +kernel
theorem dX7_failed_1 : decode cX7_failed 1 = .ok (.iload_n 1, 1) := by decide +kernel
theorem dX7_failed_2 : decode cX7_failed 2 = .ok (.putfield 57, 3) := by decide +kernel
theorem dX7_failed_5 : decode cX7_failed 5 = .ok (.bipush (-10), 2) := by decide +kernel
theorem dX7_failed_7 : decode cX7_failed 7 = .ok (.iload_n 1, 1) := by decide +kernel
theorem dX7_failed_8 : decode cX7_failed 8 = .ok (.isub, 1) := by decide +kernel
theorem dX7_failed_9 : decode cX7_failed 9 = .ok (.ireturn, 1) := by decide +kernel
theorem dX7_failedLong_0 : decode cX7_failedLong 0 = .ok (.aload_n 0, 1) := by decide +kernel
theorem dX7_failedLong_1 : decode cX7_failedLong 1 = .ok (.iload_n 1, 1) := by decide +kernel
theorem dX7_failedLong_2 : decode cX7_failedLong 2 = .ok (.putfield 57, 3) := by decide +kernel
theorem dX7_failedLong_5 : decode cX7_failedLong 5 = .ok (.invokestatic 61, 3) := by decide +kernel
theorem dX7_failedLong_8 : decode cX7_failedLong 8 = .ok (.lreturn, 1) := by decide +kernel
theorem dX7_barred_0 : decode cX7_barred 0 = .ok (.iload_n 2, 1) := by decide +kernel
theorem dX7_barred_1 : decode cX7_barred 1 = .ok (.i2l, 1) := by decide +kernel
theorem dX7_barred_2 : decode cX7_barred 2 = .ok (.lconst 0, 1) := by decide +kernel
theorem dX7_barred_3 : decode cX7_barred 3 = .ok (.ldc2_w 65, 3) := by decide +kernel
theorem dX7_barred_6 : decode cX7_barred 6 = .ok (.invokestatic 67, 3) := by decide +kernel
theorem dX7_barred_9 : decode cX7_barred 9 = .ok (.ifCond .ne 10, 3) := by decide +kernel
theorem dX7_barred_12 : decode cX7_barred 12 = .ok (.aload_n 0, 1) := by decide +kernel
theorem dX7_barred_13 : decode cX7_barred 13 = .ok (.bipush (-2), 2) := by decide +kernel
theorem dX7_barred_15 : decode cX7_barred 15 = .ok (.invokevirtual 71, 3) := by decide +kernel
theorem dX7_barred_18 : decode cX7_barred 18 = .ok (.ireturn, 1) := by decide +kernel
theorem dX7_barred_19 : decode cX7_barred 19 = .ok (.aload_n 0, 1) := by decide +kernel
theorem dX7_barred_20 : decode cX7_barred 20 = .ok (.getfield 43, 3) := by decide +kernel
theorem dX7_barred_23 : decode cX7_barred 23 = .ok (.iload_n 1, 1) := by decide +kernel
theorem dX7_barred_24 : decode cX7_barred 24 = .ok (.iaload, 1) := by decide +kernel
theorem dX7_barred_25 : decode cX7_barred 25 = .ok (.ifCond .lt 19, 3) := by decide +kernel
theorem dX7_barred_28 : decode cX7_barred 28 = .ok (.aload_n 0, 1) := by decide +kernel
theorem dX7_barred_29 : decode cX7_barred 29 = .ok (.getfield 46, 3) := by decide +kernel
theorem dX7_barred_32 : decode cX7_barred 32 = .ok (.iload_n 1, 1) := by decide +kernel
theorem dX7_barred_33 : decode cX7_barred 33 = .ok (.iaload, 1) := by decide +kernel
theorem dX7_barred_34 : decode cX7_barred 34 = .ok (.iload_n 2, 1) := by decide +kernel
theorem dX7_barred_35 : decode cX7_barred 35 = .ok (.if_icmp .eq 9, 3) := by decide +kernel
theorem dX7_barred_38 : decode cX7_barred 38 = .ok (.aload_n 0, 1) := by decide +kernel
theorem dX7_barred_39 : decode cX7_barred 39 = .ok (.iconst 2, 1) := by decide +kernel
theorem dX7_barred_40 : decode cX7_barred 40 = .ok (.invokevirtual 75, 3) := by decide +kernel
theorem dX7_barred_43 : decode cX7_barred 43 = .ok (.ireturn, 1) := by decide +kernel
theorem dX7_barred_44 : decode cX7_barred 44 = .ok (.aload_n 0, 1) := by decide +kernel
theorem dX7_barred_45 : decode cX7_barred 45 = .ok (.getfield 43, 3) := by decide +kernel
theorem dX7_barred_48 : decode cX7_barred 48 = .ok (.iload_n 1, 1) := by decide +kernel
theorem dX7_barred_49 : decode cX7_barred 49 = .ok (.iaload, 1) := by decide +kernel
theorem dX7_barred_50 : decode cX7_barred 50 = .ok (.ifCond .ge 9, 3) := by decide +kernel
theorem dX7_barred_53 : decode cX7_barred 53 = .ok (.aload_n 0, 1) := by decide +kernel
theorem dX7_barred_54 : decode cX7_barred 54 = .ok (.iconst 1, 1) := by decide +kernel
theorem dX7_barred_55 : decode cX7_barred 55 = .ok (.invokevirtual 75, 3) := by decide +kernel
theorem dX7_barred_58 : decode cX7_barred 58 = .ok (.ireturn, 1) := by decide +kernel
theorem dX7_barred_59 : decode cX7_barred 59 = .ok (.lload 4, 2) := by decide +kernel
theorem dX7_barred_61 : decode cX7_barred 61 = .ok (.lconst 0, 1) := by decide +kernel
theorem dX7_barred_62 : decode cX7_barred 62 = .ok (.lcmp, 1) := by decide +kernel
theorem dX7_barred_63 : decode cX7_barred 63 = .ok (.ifCond .ge 9, 3) := by decide +kernel
theorem dX7_barred_66 : decode cX7_barred 66 = .ok (.aload_n 0, 1) := by decide +kernel
theorem dX7_barred_67 : decode cX7_barred 67 = .ok (.iconst 4, 1) := by decide +kernel
theorem dX7_barred_68 : decode cX7_barred 68 = .ok (.invokevirtual 75, 3) := by decide +kernel
theorem dX7_barred_71 : decode cX7_barred 71 = .ok (.ireturn, 1) := by decide +kernel
theorem dX7_barred_72 : decode cX7_barred 72 = .ok (.iload_n 3, 1) := by decide +kernel
theorem dX7_barred_73 : decode cX7_barred 73 = .ok (.lload 4, 2) := by decide +kernel
theorem dX7_barred_75 : decode cX7_barred 75 = .ok (.aload_n 0, 1) := by decide +kernel
theorem dX7_barred_76 : decode cX7_barred 76 = .ok (.getfield 43, 3) := by decide +kernel
theorem dX7_barred_79 : decode cX7_barred 79 = .ok (.iload_n 1, 1) := by decide +kernel
theorem dX7_barred_80 : decode cX7_barred 80 = .ok (.iaload, 1) := by decide +kernel
theorem dX7_barred_81 : decode cX7_barred 81 = .ok (.invokestatic 78, 3) := by decide +kernel
theorem dX7_barred_84 : decode cX7_barred 84 = .ok (.ifCond .eq 11, 3) := by decide +kernel
theorem dX7_barred_87 : decode cX7_barred 87 = .ok (.aload_n 0, 1) := by decide +kernel
theorem dX7_barred_88 : decode cX7_barred 88 = .ok (.iconst 3, 1) := by decide +kernel
theorem dX7_barred_89 : decode cX7_barred 89 = .ok (.invokevirtual 75, 3) := by decide +kernel
theorem dX7_barred_92 : decode cX7_barred 92 = .ok (.goto 4, 3) := by decide +kernel
theorem dX7_barred_95 : decode cX7_barred 95 = .ok (.iconst 0, 1) := by decide +kernel
theorem dX7_barred_96 : decode cX7_barred 96 = .ok (.ireturn, 1) := by decide +kernel
theorem dX7_noStair_0 : decode cX7_noStair 0 = .ok (.iload_n 1, 1) := by decide +kernel
theorem dX7_noStair_1 : decode cX7_noStair 1 = .ok (.i2l, 1) := by decide +kernel
theorem dX7_noStair_2 : decode cX7_noStair 2 = .ok (.lconst 0, 1) := by decide +kernel
theorem dX7_noStair_3 : decode cX7_noStair 3 = .ok (.aload_n 0, 1) := by decide +kernel
theorem dX7_noStair_4 : decode cX7_noStair 4 = .ok (.getfield 82, 3) := by decide +kernel
theorem dX7_noStair_7 : decode cX7_noStair 7 = .ok (.i2l, 1) := by decide +kernel
theorem dX7_noStair_8 : decode cX7_noStair 8 = .ok (.lconst 1, 1) := by decide +kernel
theorem dX7_noStair_9 : decode cX7_noStair 9 = .ok (.lsub, 1) := by decide +kernel
theorem dX7_noStair_10 : decode cX7_noStair 10 = .ok (.invokestatic 67, 3) := by decide +kernel
theorem dX7_noStair_13 : decode cX7_noStair 13 = .ok (.ifCond .ne 7, 3) := by decide +kernel
theorem dX7_noStair_16 : decode cX7_noStair 16 = .ok (.iconst 1, 1) := by decide +kernel
theorem dX7_noStair_17 : decode cX7_noStair 17 = .ok (.goto 4, 3) := by decide +kernel
theorem dX7_noStair_20 : decode cX7_noStair 20 = .ok (.iconst 0, 1) := by decide +kernel
theorem dX7_noStair_21 : decode cX7_noStair 21 = .ok (.ireturn, 1) := by decide +kernel
theorem dX7_of_0 : decode cX7_of 0 = .ok (.aload_n 0, 1) := by decide +kernel
theorem dX7_of_1 : decode cX7_of 1 = .ok (.getfield 13, 3) := by decide +kernel
theorem dX7_of_4 : decode cX7_of 4 = .ok (.bipush 41, 2) := by decide +kernel
theorem dX7_of_6 : decode cX7_of 6 = .ok (.iload_n 1, 1) := by decide +kernel
theorem dX7_of_7 : decode cX7_of 7 = .ok (.imul, 1) := by decide +kernel
theorem dX7_of_8 : decode cX7_of 8 = .ok (.iload_n 2, 1) := by decide +kernel
theorem dX7_of_9 : decode cX7_of 9 = .ok (.iadd, 1) := by decide +kernel
theorem dX7_of_10 : decode cX7_of 10 = .ok (.iaload, 1) := by decide +kernel
theorem dX7_of_11 : decode cX7_of 11 = .ok (.ireturn, 1) := by decide +kernel
theorem dX7_set_0 : decode cX7_set 0 = .ok (.aload_n 0, 1) := by decide +kernel
theorem dX7_set_1 : decode cX7_set 1 = .ok (.getfield 13, 3) := by decide +kernel
theorem dX7_set_4 : decode cX7_set 4 = .ok (.bipush 41, 2) := by decide +kernel
theorem dX7_set_6 : decode cX7_set 6 = .ok (.iload_n 1, 1) := by decide +kernel
theorem dX7_set_7 : decode cX7_set 7 = .ok (.imul, 1) := by decide +kernel
theorem dX7_set_8 : decode cX7_set 8 = .ok (.iload_n 2, 1) := by decide +kernel
theorem dX7_set_9 : decode cX7_set 9 = .ok (.iadd, 1) := by decide +kernel
theorem dX7_set_10 : decode cX7_set 10 = .ok (.lload_n 3, 1) := by decide +kernel
theorem dX7_set_11 : decode cX7_set 11 = .ok (.ldc2_w 85, 3) := by decide +kernel
theorem dX7_set_14 : decode cX7_set 14 = .ok (.lcmp, 1) := by decide +kernel
theorem dX7_set_15 : decode cX7_set 15 = .ok (.ifCond .le 8, 3) := by decide +kernel
theorem dX7_set_18 : decode cX7_set 18 = .ok (.ldc 87, 2) := by decide +kernel
theorem dX7_set_20 : decode cX7_set 20 = .ok (.goto 5, 3) := by decide +kernel
theorem dX7_set_23 : decode cX7_set 23 = .ok (.lload_n 3, 1) := by decide +kernel
theorem dX7_set_24 : decode cX7_set 24 = .ok (.l2i, 1) := by decide +kernel
theorem dX7_set_25 : decode cX7_set 25 = .ok (.iastore, 1) := by decide +kernel
theorem dX7_set_26 : decode cX7_set 26 = .ok (.return_, 1) := by decide +kernel
theorem dX7_keep_0 : decode cX7_keep 0 = .ok (.aload_n 0, 1) := by decide +kernel
theorem dX7_keep_1 : decode cX7_keep 1 = .ok (.getfield 7, 3) := by decide +kernel
theorem dX7_keep_4 : decode cX7_keep 4 = .ok (.aload_n 0, 1) := by decide +kernel
theorem dX7_keep_5 : decode cX7_keep 5 = .ok (.getfield 82, 3) := by decide +kernel
theorem dX7_keep_8 : decode cX7_keep 8 = .ok (.iload_n 1, 1) := by decide +kernel
theorem dX7_keep_9 : decode cX7_keep 9 = .ok (.iastore, 1) := by decide +kernel
theorem dX7_keep_10 : decode cX7_keep 10 = .ok (.aload_n 0, 1) := by decide +kernel
theorem dX7_keep_11 : decode cX7_keep 11 = .ok (.dup, 1) := by decide +kernel
theorem dX7_keep_12 : decode cX7_keep 12 = .ok (.getfield 82, 3) := by decide +kernel
theorem dX7_keep_15 : decode cX7_keep 15 = .ok (.iconst 1, 1) := by decide +kernel
theorem dX7_keep_16 : decode cX7_keep 16 = .ok (.iadd, 1) := by decide +kernel
theorem dX7_keep_17 : decode cX7_keep 17 = .ok (.putfield 82, 3) := by decide +kernel
theorem dX7_keep_20 : decode cX7_keep 20 = .ok (.aload_n 0, 1) := by decide +kernel
theorem dX7_keep_21 : decode cX7_keep 21 = .ok (.getfield 82, 3) := by decide +kernel
theorem dX7_keep_24 : decode cX7_keep 24 = .ok (.iconst 1, 1) := by decide +kernel
theorem dX7_keep_25 : decode cX7_keep 25 = .ok (.isub, 1) := by decide +kernel
theorem dX7_keep_26 : decode cX7_keep 26 = .ok (.ireturn, 1) := by decide +kernel
theorem dX7_layBucket_0 : decode cX7_layBucket 0 = .ok (.iconst 0, 1) := by decide +kernel
theorem dX7_layBucket_1 : decode cX7_layBucket 1 = .ok (.istore 4, 2) := by decide +kernel
theorem dX7_layBucket_3 : decode cX7_layBucket 3 = .ok (.iload 4, 2) := by decide +kernel
theorem dX7_layBucket_5 : decode cX7_layBucket 5 = .ok (.bipush 41, 2) := by decide +kernel
theorem dX7_layBucket_7 : decode cX7_layBucket 7 = .ok (.if_icmp .ge 32, 3) := by decide +kernel
theorem dX7_layBucket_10 : decode cX7_layBucket 10 = .ok (.aload_n 0, 1) := by decide +kernel
theorem dX7_layBucket_11 : decode cX7_layBucket 11 = .ok (.iload_n 1, 1) := by decide +kernel
theorem dX7_layBucket_12 : decode cX7_layBucket 12 = .ok (.iload 4, 2) := by decide +kernel
theorem dX7_layBucket_14 : decode cX7_layBucket 14 = .ok (.iload 4, 2) := by decide +kernel
theorem dX7_layBucket_16 : decode cX7_layBucket 16 = .ok (.ifCond .ne 7, 3) := by decide +kernel
theorem dX7_layBucket_19 : decode cX7_layBucket 19 = .ok (.lconst 0, 1) := by decide +kernel
theorem dX7_layBucket_20 : decode cX7_layBucket 20 = .ok (.goto 10, 3) := by decide +kernel
theorem dX7_layBucket_23 : decode cX7_layBucket 23 = .ok (.iload_n 2, 1) := by decide +kernel
theorem dX7_layBucket_24 : decode cX7_layBucket 24 = .ok (.iload_n 3, 1) := by decide +kernel
theorem dX7_layBucket_25 : decode cX7_layBucket 25 = .ok (.iload 4, 2) := by decide +kernel
theorem dX7_layBucket_27 : decode cX7_layBucket 27 = .ok (.imul, 1) := by decide +kernel
theorem dX7_layBucket_28 : decode cX7_layBucket 28 = .ok (.iadd, 1) := by decide +kernel
theorem dX7_layBucket_29 : decode cX7_layBucket 29 = .ok (.i2l, 1) := by decide +kernel
theorem dX7_layBucket_30 : decode cX7_layBucket 30 = .ok (.invokevirtual 88, 3) := by decide +kernel
theorem dX7_layBucket_33 : decode cX7_layBucket 33 = .ok (.iinc 4 1, 3) := by decide +kernel
theorem dX7_layBucket_36 : decode cX7_layBucket 36 = .ok (.goto (-33), 3) := by decide +kernel
theorem dX7_layBucket_39 : decode cX7_layBucket 39 = .ok (.return_, 1) := by decide +kernel
theorem dX7_layLate_0 : decode cX7_layLate 0 = .ok (.iconst 0, 1) := by decide +kernel
theorem dX7_layLate_1 : decode cX7_layLate 1 = .ok (.istore 4, 2) := by decide +kernel
theorem dX7_layLate_3 : decode cX7_layLate 3 = .ok (.iload 4, 2) := by decide +kernel
theorem dX7_layLate_5 : decode cX7_layLate 5 = .ok (.bipush 41, 2) := by decide +kernel
theorem dX7_layLate_7 : decode cX7_layLate 7 = .ok (.if_icmp .ge 33, 3) := by decide +kernel
theorem dX7_layLate_10 : decode cX7_layLate 10 = .ok (.aload_n 0, 1) := by decide +kernel
theorem dX7_layLate_11 : decode cX7_layLate 11 = .ok (.iload_n 1, 1) := by decide +kernel
theorem dX7_layLate_12 : decode cX7_layLate 12 = .ok (.iload 4, 2) := by decide +kernel
theorem dX7_layLate_14 : decode cX7_layLate 14 = .ok (.iload 4, 2) := by decide +kernel
theorem dX7_layLate_16 : decode cX7_layLate 16 = .ok (.iload_n 2, 1) := by decide +kernel
theorem dX7_layLate_17 : decode cX7_layLate 17 = .ok (.if_icmp .ge 7, 3) := by decide +kernel
theorem dX7_layLate_20 : decode cX7_layLate 20 = .ok (.lconst 0, 1) := by decide +kernel
theorem dX7_layLate_21 : decode cX7_layLate 21 = .ok (.goto 10, 3) := by decide +kernel
theorem dX7_layLate_24 : decode cX7_layLate 24 = .ok (.iload_n 3, 1) := by decide +kernel
theorem dX7_layLate_25 : decode cX7_layLate 25 = .ok (.iload 4, 2) := by decide +kernel
theorem dX7_layLate_27 : decode cX7_layLate 27 = .ok (.iload_n 2, 1) := by decide +kernel
theorem dX7_layLate_28 : decode cX7_layLate 28 = .ok (.isub, 1) := by decide +kernel
theorem dX7_layLate_29 : decode cX7_layLate 29 = .ok (.imul, 1) := by decide +kernel
theorem dX7_layLate_30 : decode cX7_layLate 30 = .ok (.i2l, 1) := by decide +kernel
theorem dX7_layLate_31 : decode cX7_layLate 31 = .ok (.invokevirtual 88, 3) := by decide +kernel
theorem dX7_layLate_34 : decode cX7_layLate 34 = .ok (.iinc 4 1, 3) := by decide +kernel
theorem dX7_layLate_37 : decode cX7_layLate 37 = .ok (.goto (-34), 3) := by decide +kernel
theorem dX7_layLate_40 : decode cX7_layLate 40 = .ok (.return_, 1) := by decide +kernel
theorem dX7_areSteps_0 : decode cX7_areSteps 0 = .ok (.iload_n 2, 1) := by decide +kernel
theorem dX7_areSteps_1 : decode cX7_areSteps 1 = .ok (.i2l, 1) := by decide +kernel
theorem dX7_areSteps_2 : decode cX7_areSteps 2 = .ok (.lconst 1, 1) := by decide +kernel
theorem dX7_areSteps_3 : decode cX7_areSteps 3 = .ok (.ldc2_w 92, 3) := by decide +kernel
theorem dX7_areSteps_6 : decode cX7_areSteps 6 = .ok (.invokestatic 67, 3) := by decide +kernel
theorem dX7_areSteps_9 : decode cX7_areSteps 9 = .ok (.istore_n 3, 1) := by decide +kernel
theorem dX7_areSteps_10 : decode cX7_areSteps 10 = .ok (.iconst 0, 1) := by decide +kernel
theorem dX7_areSteps_11 : decode cX7_areSteps 11 = .ok (.istore 4, 2) := by decide +kernel
theorem dX7_areSteps_13 : decode cX7_areSteps 13 = .ok (.iload 4, 2) := by decide +kernel
theorem dX7_areSteps_15 : decode cX7_areSteps 15 = .ok (.iload_n 2, 1) := by decide +kernel
theorem dX7_areSteps_16 : decode cX7_areSteps 16 = .ok (.if_icmp .ge 31, 3) := by decide +kernel
theorem dX7_areSteps_19 : decode cX7_areSteps 19 = .ok (.iload_n 3, 1) := by decide +kernel
theorem dX7_areSteps_20 : decode cX7_areSteps 20 = .ok (.ifCond .eq 27, 3) := by decide +kernel
theorem dX7_areSteps_23 : decode cX7_areSteps 23 = .ok (.aload_n 0, 1) := by decide +kernel
theorem dX7_areSteps_24 : decode cX7_areSteps 24 = .ok (.getfield 49, 3) := by decide +kernel
theorem dX7_areSteps_27 : decode cX7_areSteps 27 = .ok (.iload_n 1, 1) := by decide +kernel
theorem dX7_areSteps_28 : decode cX7_areSteps 28 = .ok (.iload 4, 2) := by decide +kernel
theorem dX7_areSteps_30 : decode cX7_areSteps 30 = .ok (.iadd, 1) := by decide +kernel
theorem dX7_areSteps_31 : decode cX7_areSteps 31 = .ok (.iaload, 1) := by decide +kernel
theorem dX7_areSteps_32 : decode cX7_areSteps 32 = .ok (.i2l, 1) := by decide +kernel
theorem dX7_areSteps_33 : decode cX7_areSteps 33 = .ok (.lconst 0, 1) := by decide +kernel
theorem dX7_areSteps_34 : decode cX7_areSteps 34 = .ok (.ldc2_w 94, 3) := by decide +kernel
theorem dX7_areSteps_37 : decode cX7_areSteps 37 = .ok (.invokestatic 67, 3) := by decide +kernel
theorem dX7_areSteps_40 : decode cX7_areSteps 40 = .ok (.istore_n 3, 1) := by decide +kernel
theorem dX7_areSteps_41 : decode cX7_areSteps 41 = .ok (.iinc 4 1, 3) := by decide +kernel
theorem dX7_areSteps_44 : decode cX7_areSteps 44 = .ok (.goto (-31), 3) := by decide +kernel
theorem dX7_areSteps_47 : decode cX7_areSteps 47 = .ok (.iload_n 3, 1) := by decide +kernel
theorem dX7_areSteps_48 : decode cX7_areSteps 48 = .ok (.ireturn, 1) := by decide +kernel
theorem dX7_steps_0 : decode cX7_steps 0 = .ok (.iload_n 1, 1) := by decide +kernel
theorem dX7_steps_1 : decode cX7_steps 1 = .ok (.invokestatic 96, 3) := by decide +kernel
theorem dX7_steps_4 : decode cX7_steps 4 = .ok (.ifCond .eq 9, 3) := by decide +kernel
theorem dX7_steps_7 : decode cX7_steps 7 = .ok (.aload_n 0, 1) := by decide +kernel
theorem dX7_steps_8 : decode cX7_steps 8 = .ok (.iconst (-1), 1) := by decide +kernel
theorem dX7_steps_9 : decode cX7_steps 9 = .ok (.invokevirtual 71, 3) := by decide +kernel
theorem dX7_steps_12 : decode cX7_steps 12 = .ok (.ireturn, 1) := by decide +kernel
theorem dX7_steps_13 : decode cX7_steps 13 = .ok (.aload_n 0, 1) := by decide +kernel
theorem dX7_steps_14 : decode cX7_steps 14 = .ok (.iload_n 1, 1) := by decide +kernel
theorem dX7_steps_15 : decode cX7_steps 15 = .ok (.iload_n 2, 1) := by decide +kernel
theorem dX7_steps_16 : decode cX7_steps 16 = .ok (.iload_n 3, 1) := by decide +kernel
theorem dX7_steps_17 : decode cX7_steps 17 = .ok (.iload 4, 2) := by decide +kernel
theorem dX7_steps_19 : decode cX7_steps 19 = .ok (.i2l, 1) := by decide +kernel
theorem dX7_steps_20 : decode cX7_steps 20 = .ok (.invokevirtual 100, 3) := by decide +kernel
theorem dX7_steps_23 : decode cX7_steps 23 = .ok (.istore 5, 2) := by decide +kernel
theorem dX7_steps_25 : decode cX7_steps 25 = .ok (.iload 5, 2) := by decide +kernel
theorem dX7_steps_27 : decode cX7_steps 27 = .ok (.ifCond .ge 6, 3) := by decide +kernel
theorem dX7_steps_30 : decode cX7_steps 30 = .ok (.iload 5, 2) := by decide +kernel
theorem dX7_steps_32 : decode cX7_steps 32 = .ok (.ireturn, 1) := by decide +kernel
theorem dX7_steps_33 : decode cX7_steps 33 = .ok (.bipush 60, 2) := by decide +kernel
theorem dX7_steps_35 : decode cX7_steps 35 = .ok (.iload_n 1, 1) := by decide +kernel
theorem dX7_steps_36 : decode cX7_steps 36 = .ok (.imul, 1) := by decide +kernel
theorem dX7_steps_37 : decode cX7_steps 37 = .ok (.iload_n 3, 1) := by decide +kernel
theorem dX7_steps_38 : decode cX7_steps 38 = .ok (.iadd, 1) := by decide +kernel
theorem dX7_steps_39 : decode cX7_steps 39 = .ok (.istore 6, 2) := by decide +kernel
theorem dX7_steps_41 : decode cX7_steps 41 = .ok (.aload_n 0, 1) := by decide +kernel
theorem dX7_steps_42 : decode cX7_steps 42 = .ok (.iload 6, 2) := by decide +kernel
theorem dX7_steps_44 : decode cX7_steps 44 = .ok (.iload 4, 2) := by decide +kernel
theorem dX7_steps_46 : decode cX7_steps 46 = .ok (.invokevirtual 104, 3) := by decide +kernel
theorem dX7_steps_49 : decode cX7_steps 49 = .ok (.ifCond .ne 10, 3) := by decide +kernel
theorem dX7_steps_52 : decode cX7_steps 52 = .ok (.aload_n 0, 1) := by decide +kernel
theorem dX7_steps_53 : decode cX7_steps 53 = .ok (.bipush (-2), 2) := by decide +kernel
theorem dX7_steps_55 : decode cX7_steps 55 = .ok (.invokevirtual 71, 3) := by decide +kernel
theorem dX7_steps_58 : decode cX7_steps 58 = .ok (.ireturn, 1) := by decide +kernel
theorem dX7_steps_59 : decode cX7_steps 59 = .ok (.aload_n 0, 1) := by decide +kernel
theorem dX7_steps_60 : decode cX7_steps 60 = .ok (.getfield 82, 3) := by decide +kernel
theorem dX7_steps_63 : decode cX7_steps 63 = .ok (.bipush 24, 2) := by decide +kernel
theorem dX7_steps_65 : decode cX7_steps 65 = .ok (.if_icmp .ne 10, 3) := by decide +kernel
theorem dX7_steps_68 : decode cX7_steps 68 = .ok (.aload_n 0, 1) := by decide +kernel
theorem dX7_steps_69 : decode cX7_steps 69 = .ok (.bipush (-4), 2) := by decide +kernel
theorem dX7_steps_71 : decode cX7_steps 71 = .ok (.invokevirtual 71, 3) := by decide +kernel
theorem dX7_steps_74 : decode cX7_steps 74 = .ok (.ireturn, 1) := by decide +kernel
theorem dX7_steps_75 : decode cX7_steps 75 = .ok (.aload_n 0, 1) := by decide +kernel
theorem dX7_steps_76 : decode cX7_steps 76 = .ok (.aload_n 0, 1) := by decide +kernel
theorem dX7_steps_77 : decode cX7_steps 77 = .ok (.getfield 82, 3) := by decide +kernel
theorem dX7_steps_80 : decode cX7_steps 80 = .ok (.iconst 0, 1) := by decide +kernel
theorem dX7_steps_81 : decode cX7_steps 81 = .ok (.lconst 0, 1) := by decide +kernel
theorem dX7_steps_82 : decode cX7_steps 82 = .ok (.invokevirtual 88, 3) := by decide +kernel
theorem dX7_steps_85 : decode cX7_steps 85 = .ok (.iconst 1, 1) := by decide +kernel
theorem dX7_steps_86 : decode cX7_steps 86 = .ok (.istore 7, 2) := by decide +kernel
theorem dX7_steps_88 : decode cX7_steps 88 = .ok (.iload 7, 2) := by decide +kernel
theorem dX7_steps_90 : decode cX7_steps 90 = .ok (.bipush 41, 2) := by decide +kernel
theorem dX7_steps_92 : decode cX7_steps 92 = .ok (.if_icmp .ge 50, 3) := by decide +kernel
theorem dX7_steps_95 : decode cX7_steps 95 = .ok (.aload_n 0, 1) := by decide +kernel
theorem dX7_steps_96 : decode cX7_steps 96 = .ok (.aload_n 0, 1) := by decide +kernel
theorem dX7_steps_97 : decode cX7_steps 97 = .ok (.getfield 82, 3) := by decide +kernel
theorem dX7_steps_100 : decode cX7_steps 100 = .ok (.iload 7, 2) := by decide +kernel
theorem dX7_steps_102 : decode cX7_steps 102 = .ok (.aload_n 0, 1) := by decide +kernel
theorem dX7_steps_103 : decode cX7_steps 103 = .ok (.aload_n 0, 1) := by decide +kernel
theorem dX7_steps_104 : decode cX7_steps 104 = .ok (.getfield 82, 3) := by decide +kernel
theorem dX7_steps_107 : decode cX7_steps 107 = .ok (.iload 7, 2) := by decide +kernel
theorem dX7_steps_109 : decode cX7_steps 109 = .ok (.iconst 1, 1) := by decide +kernel
theorem dX7_steps_110 : decode cX7_steps 110 = .ok (.isub, 1) := by decide +kernel
theorem dX7_steps_111 : decode cX7_steps 111 = .ok (.invokevirtual 108, 3) := by decide +kernel
theorem dX7_steps_114 : decode cX7_steps 114 = .ok (.aload_n 0, 1) := by decide +kernel
theorem dX7_steps_115 : decode cX7_steps 115 = .ok (.getfield 49, 3) := by decide +kernel
theorem dX7_steps_118 : decode cX7_steps 118 = .ok (.iload 6, 2) := by decide +kernel
theorem dX7_steps_120 : decode cX7_steps 120 = .ok (.iload 7, 2) := by decide +kernel
theorem dX7_steps_122 : decode cX7_steps 122 = .ok (.iload 4, 2) := by decide +kernel
theorem dX7_steps_124 : decode cX7_steps 124 = .ok (.invokestatic 112, 3) := by decide +kernel
theorem dX7_steps_127 : decode cX7_steps 127 = .ok (.iadd, 1) := by decide +kernel
theorem dX7_steps_128 : decode cX7_steps 128 = .ok (.iconst 1, 1) := by decide +kernel
theorem dX7_steps_129 : decode cX7_steps 129 = .ok (.isub, 1) := by decide +kernel
theorem dX7_steps_130 : decode cX7_steps 130 = .ok (.iaload, 1) := by decide +kernel
theorem dX7_steps_131 : decode cX7_steps 131 = .ok (.iadd, 1) := by decide +kernel
theorem dX7_steps_132 : decode cX7_steps 132 = .ok (.i2l, 1) := by decide +kernel
theorem dX7_steps_133 : decode cX7_steps 133 = .ok (.invokevirtual 88, 3) := by decide +kernel
theorem dX7_steps_136 : decode cX7_steps 136 = .ok (.iinc 7 1, 3) := by decide +kernel
theorem dX7_steps_139 : decode cX7_steps 139 = .ok (.goto (-51), 3) := by decide +kernel
theorem dX7_steps_142 : decode cX7_steps 142 = .ok (.aload_n 0, 1) := by decide +kernel
theorem dX7_steps_143 : decode cX7_steps 143 = .ok (.aload_n 0, 1) := by decide +kernel
theorem dX7_steps_144 : decode cX7_steps 144 = .ok (.iconst 0, 1) := by decide +kernel
theorem dX7_steps_145 : decode cX7_steps 145 = .ok (.invokevirtual 115, 3) := by decide +kernel
theorem dX7_steps_148 : decode cX7_steps 148 = .ok (.invokevirtual 71, 3) := by decide +kernel
theorem dX7_steps_151 : decode cX7_steps 151 = .ok (.ireturn, 1) := by decide +kernel
theorem dX7_bucket_0 : decode cX7_bucket 0 = .ok (.iload_n 1, 1) := by decide +kernel
theorem dX7_bucket_1 : decode cX7_bucket 1 = .ok (.i2l, 1) := by decide +kernel
theorem dX7_bucket_2 : decode cX7_bucket 2 = .ok (.lconst 0, 1) := by decide +kernel
theorem dX7_bucket_3 : decode cX7_bucket 3 = .ok (.ldc2_w 118, 3) := by decide +kernel
theorem dX7_bucket_6 : decode cX7_bucket 6 = .ok (.invokestatic 67, 3) := by decide +kernel
theorem dX7_bucket_9 : decode cX7_bucket 9 = .ok (.ifCond .eq 15, 3) := by decide +kernel
theorem dX7_bucket_12 : decode cX7_bucket 12 = .ok (.iload_n 2, 1) := by decide +kernel
theorem dX7_bucket_13 : decode cX7_bucket 13 = .ok (.i2l, 1) := by decide +kernel
theorem dX7_bucket_14 : decode cX7_bucket 14 = .ok (.lconst 0, 1) := by decide +kernel
theorem dX7_bucket_15 : decode cX7_bucket 15 = .ok (.ldc2_w 94, 3) := by decide +kernel
theorem dX7_bucket_18 : decode cX7_bucket 18 = .ok (.invokestatic 67, 3) := by decide +kernel
theorem dX7_bucket_21 : decode cX7_bucket 21 = .ok (.ifCond .ne 6, 3) := by decide +kernel
theorem dX7_bucket_24 : decode cX7_bucket 24 = .ok (.bipush (-2), 2) := by decide +kernel
theorem dX7_bucket_26 : decode cX7_bucket 26 = .ok (.ireturn, 1) := by decide +kernel
theorem dX7_bucket_27 : decode cX7_bucket 27 = .ok (.aload_n 0, 1) := by decide +kernel
theorem dX7_bucket_28 : decode cX7_bucket 28 = .ok (.getfield 82, 3) := by decide +kernel
theorem dX7_bucket_31 : decode cX7_bucket 31 = .ok (.bipush 24, 2) := by decide +kernel
theorem dX7_bucket_33 : decode cX7_bucket 33 = .ok (.if_icmp .ne 6, 3) := by decide +kernel
theorem dX7_bucket_36 : decode cX7_bucket 36 = .ok (.bipush (-4), 2) := by decide +kernel
theorem dX7_bucket_38 : decode cX7_bucket 38 = .ok (.ireturn, 1) := by decide +kernel
theorem dX7_bucket_39 : decode cX7_bucket 39 = .ok (.aload_n 0, 1) := by decide +kernel
theorem dX7_bucket_40 : decode cX7_bucket 40 = .ok (.aload_n 0, 1) := by decide +kernel
theorem dX7_bucket_41 : decode cX7_bucket 41 = .ok (.getfield 82, 3) := by decide +kernel
theorem dX7_bucket_44 : decode cX7_bucket 44 = .ok (.iload_n 1, 1) := by decide +kernel
theorem dX7_bucket_45 : decode cX7_bucket 45 = .ok (.iload_n 2, 1) := by decide +kernel
theorem dX7_bucket_46 : decode cX7_bucket 46 = .ok (.invokevirtual 120, 3) := by decide +kernel
theorem dX7_bucket_49 : decode cX7_bucket 49 = .ok (.aload_n 0, 1) := by decide +kernel
theorem dX7_bucket_50 : decode cX7_bucket 50 = .ok (.iconst 1, 1) := by decide +kernel
theorem dX7_bucket_51 : decode cX7_bucket 51 = .ok (.invokevirtual 115, 3) := by decide +kernel
theorem dX7_bucket_54 : decode cX7_bucket 54 = .ok (.ireturn, 1) := by decide +kernel
theorem dX7_late_0 : decode cX7_late 0 = .ok (.iload_n 1, 1) := by decide +kernel
theorem dX7_late_1 : decode cX7_late 1 = .ok (.i2l, 1) := by decide +kernel
theorem dX7_late_2 : decode cX7_late 2 = .ok (.lconst 0, 1) := by decide +kernel
theorem dX7_late_3 : decode cX7_late 3 = .ok (.ldc2_w 92, 3) := by decide +kernel
theorem dX7_late_6 : decode cX7_late 6 = .ok (.invokestatic 67, 3) := by decide +kernel
theorem dX7_late_9 : decode cX7_late 9 = .ok (.ifCond .eq 15, 3) := by decide +kernel
theorem dX7_late_12 : decode cX7_late 12 = .ok (.iload_n 2, 1) := by decide +kernel
theorem dX7_late_13 : decode cX7_late 13 = .ok (.i2l, 1) := by decide +kernel
theorem dX7_late_14 : decode cX7_late 14 = .ok (.lconst 0, 1) := by decide +kernel
theorem dX7_late_15 : decode cX7_late 15 = .ok (.ldc2_w 94, 3) := by decide +kernel
theorem dX7_late_18 : decode cX7_late 18 = .ok (.invokestatic 67, 3) := by decide +kernel
theorem dX7_late_21 : decode cX7_late 21 = .ok (.ifCond .ne 6, 3) := by decide +kernel
theorem dX7_late_24 : decode cX7_late 24 = .ok (.bipush (-2), 2) := by decide +kernel
theorem dX7_late_26 : decode cX7_late 26 = .ok (.ireturn, 1) := by decide +kernel
theorem dX7_late_27 : decode cX7_late 27 = .ok (.aload_n 0, 1) := by decide +kernel
theorem dX7_late_28 : decode cX7_late 28 = .ok (.getfield 82, 3) := by decide +kernel
theorem dX7_late_31 : decode cX7_late 31 = .ok (.bipush 24, 2) := by decide +kernel
theorem dX7_late_33 : decode cX7_late 33 = .ok (.if_icmp .ne 6, 3) := by decide +kernel
theorem dX7_late_36 : decode cX7_late 36 = .ok (.bipush (-4), 2) := by decide +kernel
theorem dX7_late_38 : decode cX7_late 38 = .ok (.ireturn, 1) := by decide +kernel
theorem dX7_late_39 : decode cX7_late 39 = .ok (.aload_n 0, 1) := by decide +kernel
theorem dX7_late_40 : decode cX7_late 40 = .ok (.aload_n 0, 1) := by decide +kernel
theorem dX7_late_41 : decode cX7_late 41 = .ok (.getfield 82, 3) := by decide +kernel
theorem dX7_late_44 : decode cX7_late 44 = .ok (.iload_n 1, 1) := by decide +kernel
theorem dX7_late_45 : decode cX7_late 45 = .ok (.iload_n 2, 1) := by decide +kernel
theorem dX7_late_46 : decode cX7_late 46 = .ok (.invokevirtual 124, 3) := by decide +kernel
theorem dX7_late_49 : decode cX7_late 49 = .ok (.aload_n 0, 1) := by decide +kernel
theorem dX7_late_50 : decode cX7_late 50 = .ok (.iconst 2, 1) := by decide +kernel
theorem dX7_late_51 : decode cX7_late 51 = .ok (.invokevirtual 115, 3) := by decide +kernel
theorem dX7_late_54 : decode cX7_late 54 = .ok (.ireturn, 1) := by decide +kernel
theorem dX7_readsNumber_0 : decode cX7_readsNumber 0 = .ok (.aload_n 0, 1) := by decide +kernel
theorem dX7_readsNumber_1 : decode cX7_readsNumber 1 = .ok (.getfield 127, 3) := by decide +kernel
theorem dX7_readsNumber_4 : decode cX7_readsNumber 4 = .ok (.istore 4, 2) := by decide +kernel
theorem dX7_readsNumber_6 : decode cX7_readsNumber 6 = .ok (.iconst 0, 1) := by decide +kernel
theorem dX7_readsNumber_7 : decode cX7_readsNumber 7 = .ok (.istore 5, 2) := by decide +kernel
theorem dX7_readsNumber_9 : decode cX7_readsNumber 9 = .ok (.aload_n 0, 1) := by decide +kernel
theorem dX7_readsNumber_10 : decode cX7_readsNumber 10 = .ok (.getfield 127, 3) := by decide +kernel
theorem dX7_readsNumber_13 : decode cX7_readsNumber 13 = .ok (.iload_n 2, 1) := by decide +kernel
theorem dX7_readsNumber_14 : decode cX7_readsNumber 14 = .ok (.if_icmp .ge 73, 3) := by decide +kernel
theorem dX7_readsNumber_17 : decode cX7_readsNumber 17 = .ok (.aload_n 0, 1) := by decide +kernel
theorem dX7_readsNumber_18 : decode cX7_readsNumber 18 = .ok (.getfield 127, 3) := by decide +kernel
theorem dX7_readsNumber_21 : decode cX7_readsNumber 21 = .ok (.iload 4, 2) := by decide +kernel
theorem dX7_readsNumber_23 : decode cX7_readsNumber 23 = .ok (.iconst 4, 1) := by decide +kernel
theorem dX7_readsNumber_24 : decode cX7_readsNumber 24 = .ok (.iadd, 1) := by decide +kernel
theorem dX7_readsNumber_25 : decode cX7_readsNumber 25 = .ok (.if_icmp .ge 62, 3) := by decide +kernel
theorem dX7_readsNumber_28 : decode cX7_readsNumber 28 = .ok (.aload_n 0, 1) := by decide +kernel
theorem dX7_readsNumber_29 : decode cX7_readsNumber 29 = .ok (.getfield 49, 3) := by decide +kernel
theorem dX7_readsNumber_32 : decode cX7_readsNumber 32 = .ok (.iload_n 1, 1) := by decide +kernel
theorem dX7_readsNumber_33 : decode cX7_readsNumber 33 = .ok (.aload_n 0, 1) := by decide +kernel
theorem dX7_readsNumber_34 : decode cX7_readsNumber 34 = .ok (.getfield 127, 3) := by decide +kernel
theorem dX7_readsNumber_37 : decode cX7_readsNumber 37 = .ok (.iadd, 1) := by decide +kernel
theorem dX7_readsNumber_38 : decode cX7_readsNumber 38 = .ok (.iaload, 1) := by decide +kernel
theorem dX7_readsNumber_39 : decode cX7_readsNumber 39 = .ok (.i2l, 1) := by decide +kernel
theorem dX7_readsNumber_40 : decode cX7_readsNumber 40 = .ok (.ldc2_w 130, 3) := by decide +kernel
theorem dX7_readsNumber_43 : decode cX7_readsNumber 43 = .ok (.ldc2_w 132, 3) := by decide +kernel
theorem dX7_readsNumber_46 : decode cX7_readsNumber 46 = .ok (.invokestatic 67, 3) := by decide +kernel
theorem dX7_readsNumber_49 : decode cX7_readsNumber 49 = .ok (.ifCond .eq 38, 3) := by decide +kernel
theorem dX7_readsNumber_52 : decode cX7_readsNumber 52 = .ok (.bipush 10, 2) := by decide +kernel
theorem dX7_readsNumber_54 : decode cX7_readsNumber 54 = .ok (.iload 5, 2) := by decide +kernel
theorem dX7_readsNumber_56 : decode cX7_readsNumber 56 = .ok (.imul, 1) := by decide +kernel
theorem dX7_readsNumber_57 : decode cX7_readsNumber 57 = .ok (.aload_n 0, 1) := by decide +kernel
theorem dX7_readsNumber_58 : decode cX7_readsNumber 58 = .ok (.getfield 49, 3) := by decide +kernel
theorem dX7_readsNumber_61 : decode cX7_readsNumber 61 = .ok (.iload_n 1, 1) := by decide +kernel
theorem dX7_readsNumber_62 : decode cX7_readsNumber 62 = .ok (.aload_n 0, 1) := by decide +kernel
theorem dX7_readsNumber_63 : decode cX7_readsNumber 63 = .ok (.getfield 127, 3) := by decide +kernel
theorem dX7_readsNumber_66 : decode cX7_readsNumber 66 = .ok (.iadd, 1) := by decide +kernel
theorem dX7_readsNumber_67 : decode cX7_readsNumber 67 = .ok (.iaload, 1) := by decide +kernel
theorem dX7_readsNumber_68 : decode cX7_readsNumber 68 = .ok (.iadd, 1) := by decide +kernel
theorem dX7_readsNumber_69 : decode cX7_readsNumber 69 = .ok (.bipush 48, 2) := by decide +kernel
theorem dX7_readsNumber_71 : decode cX7_readsNumber 71 = .ok (.isub, 1) := by decide +kernel
theorem dX7_readsNumber_72 : decode cX7_readsNumber 72 = .ok (.istore 5, 2) := by decide +kernel
theorem dX7_readsNumber_74 : decode cX7_readsNumber 74 = .ok (.aload_n 0, 1) := by decide +kernel
theorem dX7_readsNumber_75 : decode cX7_readsNumber 75 = .ok (.dup, 1) := by decide +kernel
theorem dX7_readsNumber_76 : decode cX7_readsNumber 76 = .ok (.getfield 127, 3) := by decide +kernel
theorem dX7_readsNumber_79 : decode cX7_readsNumber 79 = .ok (.iconst 1, 1) := by decide +kernel
theorem dX7_readsNumber_80 : decode cX7_readsNumber 80 = .ok (.iadd, 1) := by decide +kernel
theorem dX7_readsNumber_81 : decode cX7_readsNumber 81 = .ok (.putfield 127, 3) := by decide +kernel
theorem dX7_readsNumber_84 : decode cX7_readsNumber 84 = .ok (.goto (-75), 3) := by decide +kernel
theorem dX7_readsNumber_87 : decode cX7_readsNumber 87 = .ok (.aload_n 0, 1) := by decide +kernel
theorem dX7_readsNumber_88 : decode cX7_readsNumber 88 = .ok (.iload 5, 2) := by decide +kernel
theorem dX7_readsNumber_90 : decode cX7_readsNumber 90 = .ok (.putfield 134, 3) := by decide +kernel
theorem dX7_readsNumber_93 : decode cX7_readsNumber 93 = .ok (.iload 5, 2) := by decide +kernel
theorem dX7_readsNumber_95 : decode cX7_readsNumber 95 = .ok (.iload_n 3, 1) := by decide +kernel
theorem dX7_readsNumber_96 : decode cX7_readsNumber 96 = .ok (.if_icmp .le 9, 3) := by decide +kernel
theorem dX7_readsNumber_99 : decode cX7_readsNumber 99 = .ok (.aload_n 0, 1) := by decide +kernel
theorem dX7_readsNumber_100 : decode cX7_readsNumber 100 = .ok (.iload 4, 2) := by decide +kernel
theorem dX7_readsNumber_102 : decode cX7_readsNumber 102 = .ok (.putfield 127, 3) := by decide +kernel
theorem dX7_readsNumber_105 : decode cX7_readsNumber 105 = .ok (.aload_n 0, 1) := by decide +kernel
theorem dX7_readsNumber_106 : decode cX7_readsNumber 106 = .ok (.getfield 127, 3) := by decide +kernel
theorem dX7_readsNumber_109 : decode cX7_readsNumber 109 = .ok (.iload 4, 2) := by decide +kernel
theorem dX7_readsNumber_111 : decode cX7_readsNumber 111 = .ok (.if_icmp .le 7, 3) := by decide +kernel
theorem dX7_readsNumber_114 : decode cX7_readsNumber 114 = .ok (.iconst 1, 1) := by decide +kernel
theorem dX7_readsNumber_115 : decode cX7_readsNumber 115 = .ok (.goto 4, 3) := by decide +kernel
theorem dX7_readsNumber_118 : decode cX7_readsNumber 118 = .ok (.iconst 0, 1) := by decide +kernel
theorem dX7_readsNumber_119 : decode cX7_readsNumber 119 = .ok (.ireturn, 1) := by decide +kernel
theorem dX7_readsItem_0 : decode cX7_readsItem 0 = .ok (.aload_n 0, 1) := by decide +kernel
theorem dX7_readsItem_1 : decode cX7_readsItem 1 = .ok (.getfield 127, 3) := by decide +kernel
theorem dX7_readsItem_4 : decode cX7_readsItem 4 = .ok (.iload_n 2, 1) := by decide +kernel
theorem dX7_readsItem_5 : decode cX7_readsItem 5 = .ok (.if_icmp .ge 17, 3) := by decide +kernel
theorem dX7_readsItem_8 : decode cX7_readsItem 8 = .ok (.aload_n 0, 1) := by decide +kernel
theorem dX7_readsItem_9 : decode cX7_readsItem 9 = .ok (.getfield 49, 3) := by decide +kernel
theorem dX7_readsItem_12 : decode cX7_readsItem 12 = .ok (.iload_n 1, 1) := by decide +kernel
theorem dX7_readsItem_13 : decode cX7_readsItem 13 = .ok (.aload_n 0, 1) := by decide +kernel
theorem dX7_readsItem_14 : decode cX7_readsItem 14 = .ok (.getfield 127, 3) := by decide +kernel
theorem dX7_readsItem_17 : decode cX7_readsItem 17 = .ok (.iadd, 1) := by decide +kernel
theorem dX7_readsItem_18 : decode cX7_readsItem 18 = .ok (.iaload, 1) := by decide +kernel
theorem dX7_readsItem_19 : decode cX7_readsItem 19 = .ok (.goto 4, 3) := by decide +kernel
theorem dX7_readsItem_22 : decode cX7_readsItem 22 = .ok (.iconst 0, 1) := by decide +kernel
theorem dX7_readsItem_23 : decode cX7_readsItem 23 = .ok (.istore_n 3, 1) := by decide +kernel
theorem dX7_readsItem_24 : decode cX7_readsItem 24 = .ok (.iload_n 3, 1) := by decide +kernel
theorem dX7_readsItem_25 : decode cX7_readsItem 25 = .ok (.bipush 114, 2) := by decide +kernel
theorem dX7_readsItem_27 : decode cX7_readsItem 27 = .ok (.if_icmp .ne 7, 3) := by decide +kernel
theorem dX7_readsItem_30 : decode cX7_readsItem 30 = .ok (.iconst 0, 1) := by decide +kernel
theorem dX7_readsItem_31 : decode cX7_readsItem 31 = .ok (.goto 25, 3) := by decide +kernel
theorem dX7_readsItem_34 : decode cX7_readsItem 34 = .ok (.iload_n 3, 1) := by decide +kernel
theorem dX7_readsItem_35 : decode cX7_readsItem 35 = .ok (.bipush 98, 2) := by decide +kernel
theorem dX7_readsItem_37 : decode cX7_readsItem 37 = .ok (.if_icmp .ne 7, 3) := by decide +kernel
theorem dX7_readsItem_40 : decode cX7_readsItem 40 = .ok (.iconst 1, 1) := by decide +kernel
theorem dX7_readsItem_41 : decode cX7_readsItem 41 = .ok (.goto 15, 3) := by decide +kernel
theorem dX7_readsItem_44 : decode cX7_readsItem 44 = .ok (.iload_n 3, 1) := by decide +kernel
theorem dX7_readsItem_45 : decode cX7_readsItem 45 = .ok (.bipush 108, 2) := by decide +kernel
theorem dX7_readsItem_47 : decode cX7_readsItem 47 = .ok (.if_icmp .ne 7, 3) := by decide +kernel
theorem dX7_readsItem_50 : decode cX7_readsItem 50 = .ok (.iconst 2, 1) := by decide +kernel
theorem dX7_readsItem_51 : decode cX7_readsItem 51 = .ok (.goto 5, 3) := by decide +kernel
theorem dX7_readsItem_54 : decode cX7_readsItem 54 = .ok (.bipush (-9), 2) := by decide +kernel
theorem dX7_readsItem_56 : decode cX7_readsItem 56 = .ok (.istore 4, 2) := by decide +kernel
theorem dX7_readsItem_58 : decode cX7_readsItem 58 = .ok (.iload 4, 2) := by decide +kernel
theorem dX7_readsItem_60 : decode cX7_readsItem 60 = .ok (.ifCond .ge 5, 3) := by decide +kernel
theorem dX7_readsItem_63 : decode cX7_readsItem 63 = .ok (.iconst 0, 1) := by decide +kernel
theorem dX7_readsItem_64 : decode cX7_readsItem 64 = .ok (.ireturn, 1) := by decide +kernel
theorem dX7_readsItem_65 : decode cX7_readsItem 65 = .ok (.aload_n 0, 1) := by decide +kernel
theorem dX7_readsItem_66 : decode cX7_readsItem 66 = .ok (.dup, 1) := by decide +kernel
theorem dX7_readsItem_67 : decode cX7_readsItem 67 = .ok (.getfield 127, 3) := by decide +kernel
theorem dX7_readsItem_70 : decode cX7_readsItem 70 = .ok (.iconst 1, 1) := by decide +kernel
theorem dX7_readsItem_71 : decode cX7_readsItem 71 = .ok (.iadd, 1) := by decide +kernel
theorem dX7_readsItem_72 : decode cX7_readsItem 72 = .ok (.putfield 127, 3) := by decide +kernel
theorem dX7_readsItem_75 : decode cX7_readsItem 75 = .ok (.iload 4, 2) := by decide +kernel
theorem dX7_readsItem_77 : decode cX7_readsItem 77 = .ok (.ifCond .le 77, 3) := by decide +kernel
theorem dX7_readsItem_80 : decode cX7_readsItem 80 = .ok (.aload_n 0, 1) := by decide +kernel
theorem dX7_readsItem_81 : decode cX7_readsItem 81 = .ok (.iload_n 1, 1) := by decide +kernel
theorem dX7_readsItem_82 : decode cX7_readsItem 82 = .ok (.iload_n 2, 1) := by decide +kernel
theorem dX7_readsItem_83 : decode cX7_readsItem 83 = .ok (.iload 4, 2) := by decide +kernel
theorem dX7_readsItem_85 : decode cX7_readsItem 85 = .ok (.iconst 1, 1) := by decide +kernel
theorem dX7_readsItem_86 : decode cX7_readsItem 86 = .ok (.if_icmp .ne 9, 3) := by decide +kernel
theorem dX7_readsItem_89 : decode cX7_readsItem 89 = .ok (.sipush 9999, 3) := by decide +kernel
theorem dX7_readsItem_92 : decode cX7_readsItem 92 = .ok (.goto 5, 3) := by decide +kernel
theorem dX7_readsItem_95 : decode cX7_readsItem 95 = .ok (.bipush 40, 2) := by decide +kernel
theorem dX7_readsItem_97 : decode cX7_readsItem 97 = .ok (.invokevirtual 137, 3) := by decide +kernel
theorem dX7_readsItem_100 : decode cX7_readsItem 100 = .ok (.ifCond .ne 5, 3) := by decide +kernel
theorem dX7_readsItem_103 : decode cX7_readsItem 103 = .ok (.iconst 0, 1) := by decide +kernel
theorem dX7_readsItem_104 : decode cX7_readsItem 104 = .ok (.ireturn, 1) := by decide +kernel
theorem dX7_readsItem_105 : decode cX7_readsItem 105 = .ok (.aload_n 0, 1) := by decide +kernel
theorem dX7_readsItem_106 : decode cX7_readsItem 106 = .ok (.getfield 19, 3) := by decide +kernel
theorem dX7_readsItem_109 : decode cX7_readsItem 109 = .ok (.aload_n 0, 1) := by decide +kernel
theorem dX7_readsItem_110 : decode cX7_readsItem 110 = .ok (.getfield 141, 3) := by decide +kernel
theorem dX7_readsItem_113 : decode cX7_readsItem 113 = .ok (.aload_n 0, 1) := by decide +kernel
theorem dX7_readsItem_114 : decode cX7_readsItem 114 = .ok (.getfield 134, 3) := by decide +kernel
theorem dX7_readsItem_117 : decode cX7_readsItem 117 = .ok (.iastore, 1) := by decide +kernel
theorem dX7_readsItem_118 : decode cX7_readsItem 118 = .ok (.aload_n 0, 1) := by decide +kernel
theorem dX7_readsItem_119 : decode cX7_readsItem 119 = .ok (.getfield 127, 3) := by decide +kernel
theorem dX7_readsItem_122 : decode cX7_readsItem 122 = .ok (.iload_n 2, 1) := by decide +kernel
theorem dX7_readsItem_123 : decode cX7_readsItem 123 = .ok (.if_icmp .eq 19, 3) := by decide +kernel
theorem dX7_readsItem_126 : decode cX7_readsItem 126 = .ok (.aload_n 0, 1) := by decide +kernel
theorem dX7_readsItem_127 : decode cX7_readsItem 127 = .ok (.getfield 49, 3) := by decide +kernel
theorem dX7_readsItem_130 : decode cX7_readsItem 130 = .ok (.iload_n 1, 1) := by decide +kernel
theorem dX7_readsItem_131 : decode cX7_readsItem 131 = .ok (.aload_n 0, 1) := by decide +kernel
theorem dX7_readsItem_132 : decode cX7_readsItem 132 = .ok (.getfield 127, 3) := by decide +kernel
theorem dX7_readsItem_135 : decode cX7_readsItem 135 = .ok (.iadd, 1) := by decide +kernel
theorem dX7_readsItem_136 : decode cX7_readsItem 136 = .ok (.iaload, 1) := by decide +kernel
theorem dX7_readsItem_137 : decode cX7_readsItem 137 = .ok (.bipush 114, 2) := by decide +kernel
theorem dX7_readsItem_139 : decode cX7_readsItem 139 = .ok (.if_icmp .eq 5, 3) := by decide +kernel
theorem dX7_readsItem_142 : decode cX7_readsItem 142 = .ok (.iconst 0, 1) := by decide +kernel
theorem dX7_readsItem_143 : decode cX7_readsItem 143 = .ok (.ireturn, 1) := by decide +kernel
theorem dX7_readsItem_144 : decode cX7_readsItem 144 = .ok (.aload_n 0, 1) := by decide +kernel
theorem dX7_readsItem_145 : decode cX7_readsItem 145 = .ok (.dup, 1) := by decide +kernel
theorem dX7_readsItem_146 : decode cX7_readsItem 146 = .ok (.getfield 127, 3) := by decide +kernel
theorem dX7_readsItem_149 : decode cX7_readsItem 149 = .ok (.iconst 1, 1) := by decide +kernel
theorem dX7_readsItem_150 : decode cX7_readsItem 150 = .ok (.iadd, 1) := by decide +kernel
theorem dX7_readsItem_151 : decode cX7_readsItem 151 = .ok (.putfield 127, 3) := by decide +kernel
theorem dX7_readsItem_154 : decode cX7_readsItem 154 = .ok (.aload_n 0, 1) := by decide +kernel
theorem dX7_readsItem_155 : decode cX7_readsItem 155 = .ok (.getfield 16, 3) := by decide +kernel
theorem dX7_readsItem_158 : decode cX7_readsItem 158 = .ok (.aload_n 0, 1) := by decide +kernel
theorem dX7_readsItem_159 : decode cX7_readsItem 159 = .ok (.getfield 141, 3) := by decide +kernel
theorem dX7_readsItem_162 : decode cX7_readsItem 162 = .ok (.iload 4, 2) := by decide +kernel
theorem dX7_readsItem_164 : decode cX7_readsItem 164 = .ok (.iastore, 1) := by decide +kernel
theorem dX7_readsItem_165 : decode cX7_readsItem 165 = .ok (.aload_n 0, 1) := by decide +kernel
theorem dX7_readsItem_166 : decode cX7_readsItem 166 = .ok (.iload_n 1, 1) := by decide +kernel
theorem dX7_readsItem_167 : decode cX7_readsItem 167 = .ok (.iload_n 2, 1) := by decide +kernel
theorem dX7_readsItem_168 : decode cX7_readsItem 168 = .ok (.sipush 999, 3) := by decide +kernel
theorem dX7_readsItem_171 : decode cX7_readsItem 171 = .ok (.invokevirtual 137, 3) := by decide +kernel
theorem dX7_readsItem_174 : decode cX7_readsItem 174 = .ok (.istore 5, 2) := by decide +kernel
theorem dX7_readsItem_176 : decode cX7_readsItem 176 = .ok (.aload_n 0, 1) := by decide +kernel
theorem dX7_readsItem_177 : decode cX7_readsItem 177 = .ok (.getfield 22, 3) := by decide +kernel
theorem dX7_readsItem_180 : decode cX7_readsItem 180 = .ok (.aload_n 0, 1) := by decide +kernel
theorem dX7_readsItem_181 : decode cX7_readsItem 181 = .ok (.getfield 141, 3) := by decide +kernel
theorem dX7_readsItem_184 : decode cX7_readsItem 184 = .ok (.aload_n 0, 1) := by decide +kernel
theorem dX7_readsItem_185 : decode cX7_readsItem 185 = .ok (.getfield 134, 3) := by decide +kernel
theorem dX7_readsItem_188 : decode cX7_readsItem 188 = .ok (.iastore, 1) := by decide +kernel
theorem dX7_readsItem_189 : decode cX7_readsItem 189 = .ok (.aload_n 0, 1) := by decide +kernel
theorem dX7_readsItem_190 : decode cX7_readsItem 190 = .ok (.dup, 1) := by decide +kernel
theorem dX7_readsItem_191 : decode cX7_readsItem 191 = .ok (.getfield 141, 3) := by decide +kernel
theorem dX7_readsItem_194 : decode cX7_readsItem 194 = .ok (.iload 5, 2) := by decide +kernel
theorem dX7_readsItem_196 : decode cX7_readsItem 196 = .ok (.ifCond .eq 7, 3) := by decide +kernel
theorem dX7_readsItem_199 : decode cX7_readsItem 199 = .ok (.iconst 1, 1) := by decide +kernel
theorem dX7_readsItem_200 : decode cX7_readsItem 200 = .ok (.goto 4, 3) := by decide +kernel
theorem dX7_readsItem_203 : decode cX7_readsItem 203 = .ok (.iconst 0, 1) := by decide +kernel
theorem dX7_readsItem_204 : decode cX7_readsItem 204 = .ok (.iadd, 1) := by decide +kernel
theorem dX7_readsItem_205 : decode cX7_readsItem 205 = .ok (.putfield 141, 3) := by decide +kernel
theorem dX7_readsItem_208 : decode cX7_readsItem 208 = .ok (.iload 5, 2) := by decide +kernel
theorem dX7_readsItem_210 : decode cX7_readsItem 210 = .ok (.ireturn, 1) := by decide +kernel
theorem dX7_readStair_0 : decode cX7_readStair 0 = .ok (.aload_n 0, 1) := by decide +kernel
theorem dX7_readStair_1 : decode cX7_readStair 1 = .ok (.iconst 0, 1) := by decide +kernel
theorem dX7_readStair_2 : decode cX7_readStair 2 = .ok (.putfield 127, 3) := by decide +kernel
theorem dX7_readStair_5 : decode cX7_readStair 5 = .ok (.aload_n 0, 1) := by decide +kernel
theorem dX7_readStair_6 : decode cX7_readStair 6 = .ok (.iconst 0, 1) := by decide +kernel
theorem dX7_readStair_7 : decode cX7_readStair 7 = .ok (.putfield 141, 3) := by decide +kernel
theorem dX7_readStair_10 : decode cX7_readStair 10 = .ok (.aload_n 0, 1) := by decide +kernel
theorem dX7_readStair_11 : decode cX7_readStair 11 = .ok (.iconst 0, 1) := by decide +kernel
theorem dX7_readStair_12 : decode cX7_readStair 12 = .ok (.putfield 144, 3) := by decide +kernel
theorem dX7_readStair_15 : decode cX7_readStair 15 = .ok (.iconst 1, 1) := by decide +kernel
theorem dX7_readStair_16 : decode cX7_readStair 16 = .ok (.istore_n 3, 1) := by decide +kernel
theorem dX7_readStair_17 : decode cX7_readStair 17 = .ok (.iload_n 3, 1) := by decide +kernel
theorem dX7_readStair_18 : decode cX7_readStair 18 = .ok (.ifCond .eq 123, 3) := by decide +kernel
theorem dX7_readStair_21 : decode cX7_readStair 21 = .ok (.aload_n 0, 1) := by decide +kernel
theorem dX7_readStair_22 : decode cX7_readStair 22 = .ok (.iload_n 1, 1) := by decide +kernel
theorem dX7_readStair_23 : decode cX7_readStair 23 = .ok (.iload_n 2, 1) := by decide +kernel
theorem dX7_readStair_24 : decode cX7_readStair 24 = .ok (.invokevirtual 147, 3) := by decide +kernel
theorem dX7_readStair_27 : decode cX7_readStair 27 = .ok (.ifCond .ne 8, 3) := by decide +kernel
theorem dX7_readStair_30 : decode cX7_readStair 30 = .ok (.aload_n 0, 1) := by decide +kernel
theorem dX7_readStair_31 : decode cX7_readStair 31 = .ok (.getfield 127, 3) := by decide +kernel
theorem dX7_readStair_34 : decode cX7_readStair 34 = .ok (.ireturn, 1) := by decide +kernel
theorem dX7_readStair_35 : decode cX7_readStair 35 = .ok (.aload_n 0, 1) := by decide +kernel
theorem dX7_readStair_36 : decode cX7_readStair 36 = .ok (.getfield 127, 3) := by decide +kernel
theorem dX7_readStair_39 : decode cX7_readStair 39 = .ok (.iload_n 2, 1) := by decide +kernel
theorem dX7_readStair_40 : decode cX7_readStair 40 = .ok (.if_icmp .ge 7, 3) := by decide +kernel
theorem dX7_readStair_43 : decode cX7_readStair 43 = .ok (.iconst 1, 1) := by decide +kernel
theorem dX7_readStair_44 : decode cX7_readStair 44 = .ok (.goto 4, 3) := by decide +kernel
theorem dX7_readStair_47 : decode cX7_readStair 47 = .ok (.iconst 0, 1) := by decide +kernel
theorem dX7_readStair_48 : decode cX7_readStair 48 = .ok (.istore_n 3, 1) := by decide +kernel
theorem dX7_readStair_49 : decode cX7_readStair 49 = .ok (.iload_n 3, 1) := by decide +kernel
theorem dX7_readStair_50 : decode cX7_readStair 50 = .ok (.ifCond .eq (-33), 3) := by decide +kernel
theorem dX7_readStair_53 : decode cX7_readStair 53 = .ok (.aload_n 0, 1) := by decide +kernel
theorem dX7_readStair_54 : decode cX7_readStair 54 = .ok (.getfield 49, 3) := by decide +kernel
theorem dX7_readStair_57 : decode cX7_readStair 57 = .ok (.iload_n 1, 1) := by decide +kernel
theorem dX7_readStair_58 : decode cX7_readStair 58 = .ok (.aload_n 0, 1) := by decide +kernel
theorem dX7_readStair_59 : decode cX7_readStair 59 = .ok (.getfield 127, 3) := by decide +kernel
theorem dX7_readStair_62 : decode cX7_readStair 62 = .ok (.iadd, 1) := by decide +kernel
theorem dX7_readStair_63 : decode cX7_readStair 63 = .ok (.iaload, 1) := by decide +kernel
theorem dX7_readStair_64 : decode cX7_readStair 64 = .ok (.istore 4, 2) := by decide +kernel
theorem dX7_readStair_66 : decode cX7_readStair 66 = .ok (.iload 4, 2) := by decide +kernel
theorem dX7_readStair_68 : decode cX7_readStair 68 = .ok (.bipush 38, 2) := by decide +kernel
theorem dX7_readStair_70 : decode cX7_readStair 70 = .ok (.if_icmp .eq 10, 3) := by decide +kernel
theorem dX7_readStair_73 : decode cX7_readStair 73 = .ok (.iload 4, 2) := by decide +kernel
theorem dX7_readStair_75 : decode cX7_readStair 75 = .ok (.bipush 43, 2) := by decide +kernel
theorem dX7_readStair_77 : decode cX7_readStair 77 = .ok (.if_icmp .ne 32, 3) := by decide +kernel
theorem dX7_readStair_80 : decode cX7_readStair 80 = .ok (.aload_n 0, 1) := by decide +kernel
theorem dX7_readStair_81 : decode cX7_readStair 81 = .ok (.getfield 144, 3) := by decide +kernel
theorem dX7_readStair_84 : decode cX7_readStair 84 = .ok (.ifCond .eq 12, 3) := by decide +kernel
theorem dX7_readStair_87 : decode cX7_readStair 87 = .ok (.iload 4, 2) := by decide +kernel
theorem dX7_readStair_89 : decode cX7_readStair 89 = .ok (.aload_n 0, 1) := by decide +kernel
theorem dX7_readStair_90 : decode cX7_readStair 90 = .ok (.getfield 144, 3) := by decide +kernel
theorem dX7_readStair_93 : decode cX7_readStair 93 = .ok (.if_icmp .ne 16, 3) := by decide +kernel
theorem dX7_readStair_96 : decode cX7_readStair 96 = .ok (.aload_n 0, 1) := by decide +kernel
theorem dX7_readStair_97 : decode cX7_readStair 97 = .ok (.getfield 141, 3) := by decide +kernel
theorem dX7_readStair_100 : decode cX7_readStair 100 = .ok (.bipush 6, 2) := by decide +kernel
theorem dX7_readStair_102 : decode cX7_readStair 102 = .ok (.if_icmp .ge 7, 3) := by decide +kernel
theorem dX7_readStair_105 : decode cX7_readStair 105 = .ok (.iconst 1, 1) := by decide +kernel
theorem dX7_readStair_106 : decode cX7_readStair 106 = .ok (.goto 4, 3) := by decide +kernel
theorem dX7_readStair_109 : decode cX7_readStair 109 = .ok (.iconst 0, 1) := by decide +kernel
theorem dX7_readStair_110 : decode cX7_readStair 110 = .ok (.istore 5, 2) := by decide +kernel
theorem dX7_readStair_112 : decode cX7_readStair 112 = .ok (.iload 5, 2) := by decide +kernel
theorem dX7_readStair_114 : decode cX7_readStair 114 = .ok (.ifCond .ne 8, 3) := by decide +kernel
theorem dX7_readStair_117 : decode cX7_readStair 117 = .ok (.aload_n 0, 1) := by decide +kernel
theorem dX7_readStair_118 : decode cX7_readStair 118 = .ok (.getfield 127, 3) := by decide +kernel
theorem dX7_readStair_121 : decode cX7_readStair 121 = .ok (.ireturn, 1) := by decide +kernel
theorem dX7_readStair_122 : decode cX7_readStair 122 = .ok (.aload_n 0, 1) := by decide +kernel
theorem dX7_readStair_123 : decode cX7_readStair 123 = .ok (.iload 4, 2) := by decide +kernel
theorem dX7_readStair_125 : decode cX7_readStair 125 = .ok (.putfield 144, 3) := by decide +kernel
theorem dX7_readStair_128 : decode cX7_readStair 128 = .ok (.aload_n 0, 1) := by decide +kernel
theorem dX7_readStair_129 : decode cX7_readStair 129 = .ok (.dup, 1) := by decide +kernel
theorem dX7_readStair_130 : decode cX7_readStair 130 = .ok (.getfield 127, 3) := by decide +kernel
theorem dX7_readStair_133 : decode cX7_readStair 133 = .ok (.iconst 1, 1) := by decide +kernel
theorem dX7_readStair_134 : decode cX7_readStair 134 = .ok (.iadd, 1) := by decide +kernel
theorem dX7_readStair_135 : decode cX7_readStair 135 = .ok (.putfield 127, 3) := by decide +kernel
theorem dX7_readStair_138 : decode cX7_readStair 138 = .ok (.goto (-121), 3) := by decide +kernel
theorem dX7_readStair_141 : decode cX7_readStair 141 = .ok (.bipush (-9), 2) := by decide +kernel
theorem dX7_readStair_143 : decode cX7_readStair 143 = .ok (.ireturn, 1) := by decide +kernel
theorem dX7_layItem_0 : decode cX7_layItem 0 = .ok (.aload_n 0, 1) := by decide +kernel
theorem dX7_layItem_1 : decode cX7_layItem 1 = .ok (.getfield 16, 3) := by decide +kernel
theorem dX7_layItem_4 : decode cX7_layItem 4 = .ok (.iload_n 2, 1) := by decide +kernel
theorem dX7_layItem_5 : decode cX7_layItem 5 = .ok (.iaload, 1) := by decide +kernel
theorem dX7_layItem_6 : decode cX7_layItem 6 = .ok (.iconst 1, 1) := by decide +kernel
theorem dX7_layItem_7 : decode cX7_layItem 7 = .ok (.if_icmp .ne 23, 3) := by decide +kernel
theorem dX7_layItem_10 : decode cX7_layItem 10 = .ok (.aload_n 0, 1) := by decide +kernel
theorem dX7_layItem_11 : decode cX7_layItem 11 = .ok (.iload_n 1, 1) := by decide +kernel
theorem dX7_layItem_12 : decode cX7_layItem 12 = .ok (.aload_n 0, 1) := by decide +kernel
theorem dX7_layItem_13 : decode cX7_layItem 13 = .ok (.getfield 19, 3) := by decide +kernel
theorem dX7_layItem_16 : decode cX7_layItem 16 = .ok (.iload_n 2, 1) := by decide +kernel
theorem dX7_layItem_17 : decode cX7_layItem 17 = .ok (.iaload, 1) := by decide +kernel
theorem dX7_layItem_18 : decode cX7_layItem 18 = .ok (.aload_n 0, 1) := by decide +kernel
theorem dX7_layItem_19 : decode cX7_layItem 19 = .ok (.getfield 22, 3) := by decide +kernel
theorem dX7_layItem_22 : decode cX7_layItem 22 = .ok (.iload_n 2, 1) := by decide +kernel
theorem dX7_layItem_23 : decode cX7_layItem 23 = .ok (.iaload, 1) := by decide +kernel
theorem dX7_layItem_24 : decode cX7_layItem 24 = .ok (.invokevirtual 120, 3) := by decide +kernel
theorem dX7_layItem_27 : decode cX7_layItem 27 = .ok (.goto 34, 3) := by decide +kernel
theorem dX7_layItem_30 : decode cX7_layItem 30 = .ok (.aload_n 0, 1) := by decide +kernel
theorem dX7_layItem_31 : decode cX7_layItem 31 = .ok (.iload_n 1, 1) := by decide +kernel
theorem dX7_layItem_32 : decode cX7_layItem 32 = .ok (.aload_n 0, 1) := by decide +kernel
theorem dX7_layItem_33 : decode cX7_layItem 33 = .ok (.getfield 16, 3) := by decide +kernel
theorem dX7_layItem_36 : decode cX7_layItem 36 = .ok (.iload_n 2, 1) := by decide +kernel
theorem dX7_layItem_37 : decode cX7_layItem 37 = .ok (.iaload, 1) := by decide +kernel
theorem dX7_layItem_38 : decode cX7_layItem 38 = .ok (.iconst 2, 1) := by decide +kernel
theorem dX7_layItem_39 : decode cX7_layItem 39 = .ok (.if_icmp .ne 12, 3) := by decide +kernel
theorem dX7_layItem_42 : decode cX7_layItem 42 = .ok (.aload_n 0, 1) := by decide +kernel
theorem dX7_layItem_43 : decode cX7_layItem 43 = .ok (.getfield 19, 3) := by decide +kernel
theorem dX7_layItem_46 : decode cX7_layItem 46 = .ok (.iload_n 2, 1) := by decide +kernel
theorem dX7_layItem_47 : decode cX7_layItem 47 = .ok (.iaload, 1) := by decide +kernel
theorem dX7_layItem_48 : decode cX7_layItem 48 = .ok (.goto 4, 3) := by decide +kernel
theorem dX7_layItem_51 : decode cX7_layItem 51 = .ok (.iconst 0, 1) := by decide +kernel
theorem dX7_layItem_52 : decode cX7_layItem 52 = .ok (.aload_n 0, 1) := by decide +kernel
theorem dX7_layItem_53 : decode cX7_layItem 53 = .ok (.getfield 22, 3) := by decide +kernel
theorem dX7_layItem_56 : decode cX7_layItem 56 = .ok (.iload_n 2, 1) := by decide +kernel
theorem dX7_layItem_57 : decode cX7_layItem 57 = .ok (.iaload, 1) := by decide +kernel
theorem dX7_layItem_58 : decode cX7_layItem 58 = .ok (.invokevirtual 124, 3) := by decide +kernel
theorem dX7_layItem_61 : decode cX7_layItem 61 = .ok (.return_, 1) := by decide +kernel
theorem dX7_text_0 : decode cX7_text 0 = .ok (.iload_n 1, 1) := by decide +kernel
theorem dX7_text_1 : decode cX7_text 1 = .ok (.invokestatic 96, 3) := by decide +kernel
theorem dX7_text_4 : decode cX7_text 4 = .ok (.ifCond .eq 9, 3) := by decide +kernel
theorem dX7_text_7 : decode cX7_text 7 = .ok (.aload_n 0, 1) := by decide +kernel
theorem dX7_text_8 : decode cX7_text 8 = .ok (.iconst (-1), 1) := by decide +kernel
theorem dX7_text_9 : decode cX7_text 9 = .ok (.invokevirtual 71, 3) := by decide +kernel
theorem dX7_text_12 : decode cX7_text 12 = .ok (.ireturn, 1) := by decide +kernel
theorem dX7_text_13 : decode cX7_text 13 = .ok (.aload_n 0, 1) := by decide +kernel
theorem dX7_text_14 : decode cX7_text 14 = .ok (.iload_n 1, 1) := by decide +kernel
theorem dX7_text_15 : decode cX7_text 15 = .ok (.iload_n 2, 1) := by decide +kernel
theorem dX7_text_16 : decode cX7_text 16 = .ok (.iload_n 3, 1) := by decide +kernel
theorem dX7_text_17 : decode cX7_text 17 = .ok (.iload 4, 2) := by decide +kernel
theorem dX7_text_19 : decode cX7_text 19 = .ok (.i2l, 1) := by decide +kernel
theorem dX7_text_20 : decode cX7_text 20 = .ok (.invokevirtual 100, 3) := by decide +kernel
theorem dX7_text_23 : decode cX7_text 23 = .ok (.istore 5, 2) := by decide +kernel
theorem dX7_text_25 : decode cX7_text 25 = .ok (.iload 5, 2) := by decide +kernel
theorem dX7_text_27 : decode cX7_text 27 = .ok (.ifCond .ge 6, 3) := by decide +kernel
theorem dX7_text_30 : decode cX7_text 30 = .ok (.iload 5, 2) := by decide +kernel
theorem dX7_text_32 : decode cX7_text 32 = .ok (.ireturn, 1) := by decide +kernel
theorem dX7_text_33 : decode cX7_text 33 = .ok (.aload_n 0, 1) := by decide +kernel
theorem dX7_text_34 : decode cX7_text 34 = .ok (.bipush 60, 2) := by decide +kernel
theorem dX7_text_36 : decode cX7_text 36 = .ok (.iload_n 1, 1) := by decide +kernel
theorem dX7_text_37 : decode cX7_text 37 = .ok (.imul, 1) := by decide +kernel
theorem dX7_text_38 : decode cX7_text 38 = .ok (.iload_n 3, 1) := by decide +kernel
theorem dX7_text_39 : decode cX7_text 39 = .ok (.iadd, 1) := by decide +kernel
theorem dX7_text_40 : decode cX7_text 40 = .ok (.iload 4, 2) := by decide +kernel
theorem dX7_text_42 : decode cX7_text 42 = .ok (.invokevirtual 150, 3) := by decide +kernel
theorem dX7_text_45 : decode cX7_text 45 = .ok (.istore 6, 2) := by decide +kernel
theorem dX7_text_47 : decode cX7_text 47 = .ok (.iload 6, 2) := by decide +kernel
theorem dX7_text_49 : decode cX7_text 49 = .ok (.ifCond .lt 13, 3) := by decide +kernel
theorem dX7_text_52 : decode cX7_text 52 = .ok (.aload_n 0, 1) := by decide +kernel
theorem dX7_text_53 : decode cX7_text 53 = .ok (.bipush (-100), 2) := by decide +kernel
theorem dX7_text_55 : decode cX7_text 55 = .ok (.iload 6, 2) := by decide +kernel
theorem dX7_text_57 : decode cX7_text 57 = .ok (.isub, 1) := by decide +kernel
theorem dX7_text_58 : decode cX7_text 58 = .ok (.invokevirtual 71, 3) := by decide +kernel
theorem dX7_text_61 : decode cX7_text 61 = .ok (.ireturn, 1) := by decide +kernel
theorem dX7_text_62 : decode cX7_text 62 = .ok (.aload_n 0, 1) := by decide +kernel
theorem dX7_text_63 : decode cX7_text 63 = .ok (.getfield 82, 3) := by decide +kernel
theorem dX7_text_66 : decode cX7_text 66 = .ok (.bipush 24, 2) := by decide +kernel
theorem dX7_text_68 : decode cX7_text 68 = .ok (.if_icmp .ne 10, 3) := by decide +kernel
theorem dX7_text_71 : decode cX7_text 71 = .ok (.aload_n 0, 1) := by decide +kernel
theorem dX7_text_72 : decode cX7_text 72 = .ok (.bipush (-4), 2) := by decide +kernel
theorem dX7_text_74 : decode cX7_text 74 = .ok (.invokevirtual 71, 3) := by decide +kernel
theorem dX7_text_77 : decode cX7_text 77 = .ok (.ireturn, 1) := by decide +kernel
theorem dX7_text_78 : decode cX7_text 78 = .ok (.aload_n 0, 1) := by decide +kernel
theorem dX7_text_79 : decode cX7_text 79 = .ok (.aload_n 0, 1) := by decide +kernel
theorem dX7_text_80 : decode cX7_text 80 = .ok (.getfield 82, 3) := by decide +kernel
theorem dX7_text_83 : decode cX7_text 83 = .ok (.iconst 0, 1) := by decide +kernel
theorem dX7_text_84 : decode cX7_text 84 = .ok (.invokevirtual 153, 3) := by decide +kernel
theorem dX7_text_87 : decode cX7_text 87 = .ok (.iconst 1, 1) := by decide +kernel
theorem dX7_text_88 : decode cX7_text 88 = .ok (.istore 7, 2) := by decide +kernel
theorem dX7_text_90 : decode cX7_text 90 = .ok (.iload 7, 2) := by decide +kernel
theorem dX7_text_92 : decode cX7_text 92 = .ok (.aload_n 0, 1) := by decide +kernel
theorem dX7_text_93 : decode cX7_text 93 = .ok (.getfield 141, 3) := by decide +kernel
theorem dX7_text_96 : decode cX7_text 96 = .ok (.if_icmp .ge 45, 3) := by decide +kernel
theorem dX7_text_99 : decode cX7_text 99 = .ok (.aload_n 0, 1) := by decide +kernel
theorem dX7_text_100 : decode cX7_text 100 = .ok (.bipush 84, 2) := by decide +kernel
theorem dX7_text_102 : decode cX7_text 102 = .ok (.iload 7, 2) := by decide +kernel
theorem dX7_text_104 : decode cX7_text 104 = .ok (.invokevirtual 153, 3) := by decide +kernel
theorem dX7_text_107 : decode cX7_text 107 = .ok (.aload_n 0, 1) := by decide +kernel
theorem dX7_text_108 : decode cX7_text 108 = .ok (.aload_n 0, 1) := by decide +kernel
theorem dX7_text_109 : decode cX7_text 109 = .ok (.getfield 144, 3) := by decide +kernel
theorem dX7_text_112 : decode cX7_text 112 = .ok (.bipush 38, 2) := by decide +kernel
theorem dX7_text_114 : decode cX7_text 114 = .ok (.if_icmp .ne 7, 3) := by decide +kernel
theorem dX7_text_117 : decode cX7_text 117 = .ok (.iconst 0, 1) := by decide +kernel
theorem dX7_text_118 : decode cX7_text 118 = .ok (.goto 4, 3) := by decide +kernel
theorem dX7_text_121 : decode cX7_text 121 = .ok (.iconst 1, 1) := by decide +kernel
theorem dX7_text_122 : decode cX7_text 122 = .ok (.aload_n 0, 1) := by decide +kernel
theorem dX7_text_123 : decode cX7_text 123 = .ok (.getfield 82, 3) := by decide +kernel
theorem dX7_text_126 : decode cX7_text 126 = .ok (.bipush 84, 2) := by decide +kernel
theorem dX7_text_128 : decode cX7_text 128 = .ok (.aload_n 0, 1) := by decide +kernel
theorem dX7_text_129 : decode cX7_text 129 = .ok (.getfield 82, 3) := by decide +kernel
theorem dX7_text_132 : decode cX7_text 132 = .ok (.invokevirtual 157, 3) := by decide +kernel
theorem dX7_text_135 : decode cX7_text 135 = .ok (.iinc 7 1, 3) := by decide +kernel
theorem dX7_text_138 : decode cX7_text 138 = .ok (.goto (-48), 3) := by decide +kernel
theorem dX7_text_141 : decode cX7_text 141 = .ok (.aload_n 0, 1) := by decide +kernel
theorem dX7_text_142 : decode cX7_text 142 = .ok (.aload_n 0, 1) := by decide +kernel
theorem dX7_text_143 : decode cX7_text 143 = .ok (.aload_n 0, 1) := by decide +kernel
theorem dX7_text_144 : decode cX7_text 144 = .ok (.getfield 141, 3) := by decide +kernel
theorem dX7_text_147 : decode cX7_text 147 = .ok (.iconst 1, 1) := by decide +kernel
theorem dX7_text_148 : decode cX7_text 148 = .ok (.if_icmp .le 7, 3) := by decide +kernel
theorem dX7_text_151 : decode cX7_text 151 = .ok (.iconst 0, 1) := by decide +kernel
theorem dX7_text_152 : decode cX7_text 152 = .ok (.goto 9, 3) := by decide +kernel
theorem dX7_text_155 : decode cX7_text 155 = .ok (.aload_n 0, 1) := by decide +kernel
theorem dX7_text_156 : decode cX7_text 156 = .ok (.getfield 16, 3) := by decide +kernel
theorem dX7_text_159 : decode cX7_text 159 = .ok (.iconst 0, 1) := by decide +kernel
theorem dX7_text_160 : decode cX7_text 160 = .ok (.iaload, 1) := by decide +kernel
theorem dX7_text_161 : decode cX7_text 161 = .ok (.invokevirtual 115, 3) := by decide +kernel
theorem dX7_text_164 : decode cX7_text 164 = .ok (.invokevirtual 71, 3) := by decide +kernel
theorem dX7_text_167 : decode cX7_text 167 = .ok (.ireturn, 1) := by decide +kernel
theorem dX7_at_0 : decode cX7_at 0 = .ok (.aload_n 0, 1) := by decide +kernel
theorem dX7_at_1 : decode cX7_at 1 = .ok (.iload_n 1, 1) := by decide +kernel
theorem dX7_at_2 : decode cX7_at 2 = .ok (.invokevirtual 161, 3) := by decide +kernel
theorem dX7_at_5 : decode cX7_at 5 = .ok (.ifCond .eq 5, 3) := by decide +kernel
theorem dX7_at_8 : decode cX7_at 8 = .ok (.iconst (-1), 1) := by decide +kernel
theorem dX7_at_9 : decode cX7_at 9 = .ok (.ireturn, 1) := by decide +kernel
theorem dX7_at_10 : decode cX7_at 10 = .ok (.iload_n 2, 1) := by decide +kernel
theorem dX7_at_11 : decode cX7_at 11 = .ok (.i2l, 1) := by decide +kernel
theorem dX7_at_12 : decode cX7_at 12 = .ok (.lconst 0, 1) := by decide +kernel
theorem dX7_at_13 : decode cX7_at 13 = .ok (.ldc2_w 92, 3) := by decide +kernel
theorem dX7_at_16 : decode cX7_at 16 = .ok (.invokestatic 67, 3) := by decide +kernel
theorem dX7_at_19 : decode cX7_at 19 = .ok (.ifCond .eq 12, 3) := by decide +kernel
theorem dX7_at_22 : decode cX7_at 22 = .ok (.aload_n 0, 1) := by decide +kernel
theorem dX7_at_23 : decode cX7_at 23 = .ok (.iload_n 1, 1) := by decide +kernel
theorem dX7_at_24 : decode cX7_at 24 = .ok (.iload_n 2, 1) := by decide +kernel
theorem dX7_at_25 : decode cX7_at 25 = .ok (.invokevirtual 108, 3) := by decide +kernel
theorem dX7_at_28 : decode cX7_at 28 = .ok (.goto 5, 3) := by decide +kernel
theorem dX7_at_31 : decode cX7_at 31 = .ok (.bipush (-2), 2) := by decide +kernel
theorem dX7_at_33 : decode cX7_at 33 = .ok (.ireturn, 1) := by decide +kernel
theorem dX7_layBoth_0 : decode cX7_layBoth 0 = .ok (.iconst 0, 1) := by decide +kernel
theorem dX7_layBoth_1 : decode cX7_layBoth 1 = .ok (.istore 5, 2) := by decide +kernel
theorem dX7_layBoth_3 : decode cX7_layBoth 3 = .ok (.iconst 0, 1) := by decide +kernel
theorem dX7_layBoth_4 : decode cX7_layBoth 4 = .ok (.istore 6, 2) := by decide +kernel
theorem dX7_layBoth_6 : decode cX7_layBoth 6 = .ok (.iload 6, 2) := by decide +kernel
theorem dX7_layBoth_8 : decode cX7_layBoth 8 = .ok (.bipush 41, 2) := by decide +kernel
theorem dX7_layBoth_10 : decode cX7_layBoth 10 = .ok (.if_icmp .ge 172, 3) := by decide +kernel
theorem dX7_layBoth_13 : decode cX7_layBoth 13 = .ok (.iload_n 1, 1) := by decide +kernel
theorem dX7_layBoth_14 : decode cX7_layBoth 14 = .ok (.iconst 2, 1) := by decide +kernel
theorem dX7_layBoth_15 : decode cX7_layBoth 15 = .ok (.if_icmp .ge 55, 3) := by decide +kernel
theorem dX7_layBoth_18 : decode cX7_layBoth 18 = .ok (.aload_n 0, 1) := by decide +kernel
theorem dX7_layBoth_19 : decode cX7_layBoth 19 = .ok (.iload 4, 2) := by decide +kernel
theorem dX7_layBoth_21 : decode cX7_layBoth 21 = .ok (.iload 6, 2) := by decide +kernel
theorem dX7_layBoth_23 : decode cX7_layBoth 23 = .ok (.iload_n 1, 1) := by decide +kernel
theorem dX7_layBoth_24 : decode cX7_layBoth 24 = .ok (.ifCond .ne 24, 3) := by decide +kernel
theorem dX7_layBoth_27 : decode cX7_layBoth 27 = .ok (.aload_n 0, 1) := by decide +kernel
theorem dX7_layBoth_28 : decode cX7_layBoth 28 = .ok (.iload_n 2, 1) := by decide +kernel
theorem dX7_layBoth_29 : decode cX7_layBoth 29 = .ok (.iload 6, 2) := by decide +kernel
theorem dX7_layBoth_31 : decode cX7_layBoth 31 = .ok (.invokevirtual 108, 3) := by decide +kernel
theorem dX7_layBoth_34 : decode cX7_layBoth 34 = .ok (.aload_n 0, 1) := by decide +kernel
theorem dX7_layBoth_35 : decode cX7_layBoth 35 = .ok (.iload_n 3, 1) := by decide +kernel
theorem dX7_layBoth_36 : decode cX7_layBoth 36 = .ok (.iload 6, 2) := by decide +kernel
theorem dX7_layBoth_38 : decode cX7_layBoth 38 = .ok (.invokevirtual 108, 3) := by decide +kernel
theorem dX7_layBoth_41 : decode cX7_layBoth 41 = .ok (.invokestatic 112, 3) := by decide +kernel
theorem dX7_layBoth_44 : decode cX7_layBoth 44 = .ok (.i2l, 1) := by decide +kernel
theorem dX7_layBoth_45 : decode cX7_layBoth 45 = .ok (.goto 19, 3) := by decide +kernel
theorem dX7_layBoth_48 : decode cX7_layBoth 48 = .ok (.aload_n 0, 1) := by decide +kernel
theorem dX7_layBoth_49 : decode cX7_layBoth 49 = .ok (.iload_n 2, 1) := by decide +kernel
theorem dX7_layBoth_50 : decode cX7_layBoth 50 = .ok (.iload 6, 2) := by decide +kernel
theorem dX7_layBoth_52 : decode cX7_layBoth 52 = .ok (.invokevirtual 108, 3) := by decide +kernel
theorem dX7_layBoth_55 : decode cX7_layBoth 55 = .ok (.aload_n 0, 1) := by decide +kernel
theorem dX7_layBoth_56 : decode cX7_layBoth 56 = .ok (.iload_n 3, 1) := by decide +kernel
theorem dX7_layBoth_57 : decode cX7_layBoth 57 = .ok (.iload 6, 2) := by decide +kernel
theorem dX7_layBoth_59 : decode cX7_layBoth 59 = .ok (.invokevirtual 108, 3) := by decide +kernel
theorem dX7_layBoth_62 : decode cX7_layBoth 62 = .ok (.iadd, 1) := by decide +kernel
theorem dX7_layBoth_63 : decode cX7_layBoth 63 = .ok (.i2l, 1) := by decide +kernel
theorem dX7_layBoth_64 : decode cX7_layBoth 64 = .ok (.invokevirtual 88, 3) := by decide +kernel
theorem dX7_layBoth_67 : decode cX7_layBoth 67 = .ok (.goto 109, 3) := by decide +kernel
theorem dX7_layBoth_70 : decode cX7_layBoth 70 = .ok (.iload_n 1, 1) := by decide +kernel
theorem dX7_layBoth_71 : decode cX7_layBoth 71 = .ok (.iconst 2, 1) := by decide +kernel
theorem dX7_layBoth_72 : decode cX7_layBoth 72 = .ok (.if_icmp .ne 23, 3) := by decide +kernel
theorem dX7_layBoth_75 : decode cX7_layBoth 75 = .ok (.aload_n 0, 1) := by decide +kernel
theorem dX7_layBoth_76 : decode cX7_layBoth 76 = .ok (.iload 4, 2) := by decide +kernel
theorem dX7_layBoth_78 : decode cX7_layBoth 78 = .ok (.iload 6, 2) := by decide +kernel
theorem dX7_layBoth_80 : decode cX7_layBoth 80 = .ok (.aload_n 0, 1) := by decide +kernel
theorem dX7_layBoth_81 : decode cX7_layBoth 81 = .ok (.iload_n 2, 1) := by decide +kernel
theorem dX7_layBoth_82 : decode cX7_layBoth 82 = .ok (.iload_n 3, 1) := by decide +kernel
theorem dX7_layBoth_83 : decode cX7_layBoth 83 = .ok (.iload 6, 2) := by decide +kernel
theorem dX7_layBoth_85 : decode cX7_layBoth 85 = .ok (.invokevirtual 164, 3) := by decide +kernel
theorem dX7_layBoth_88 : decode cX7_layBoth 88 = .ok (.i2l, 1) := by decide +kernel
theorem dX7_layBoth_89 : decode cX7_layBoth 89 = .ok (.invokevirtual 88, 3) := by decide +kernel
theorem dX7_layBoth_92 : decode cX7_layBoth 92 = .ok (.goto 84, 3) := by decide +kernel
theorem dX7_layBoth_95 : decode cX7_layBoth 95 = .ok (.iload 5, 2) := by decide +kernel
theorem dX7_layBoth_97 : decode cX7_layBoth 97 = .ok (.iload_n 1, 1) := by decide +kernel
theorem dX7_layBoth_98 : decode cX7_layBoth 98 = .ok (.iconst 3, 1) := by decide +kernel
theorem dX7_layBoth_99 : decode cX7_layBoth 99 = .ok (.if_icmp .ne 14, 3) := by decide +kernel
theorem dX7_layBoth_102 : decode cX7_layBoth 102 = .ok (.aload_n 0, 1) := by decide +kernel
theorem dX7_layBoth_103 : decode cX7_layBoth 103 = .ok (.iload_n 2, 1) := by decide +kernel
theorem dX7_layBoth_104 : decode cX7_layBoth 104 = .ok (.iload_n 3, 1) := by decide +kernel
theorem dX7_layBoth_105 : decode cX7_layBoth 105 = .ok (.iload 6, 2) := by decide +kernel
theorem dX7_layBoth_107 : decode cX7_layBoth 107 = .ok (.invokevirtual 168, 3) := by decide +kernel
theorem dX7_layBoth_110 : decode cX7_layBoth 110 = .ok (.goto 18, 3) := by decide +kernel
theorem dX7_layBoth_113 : decode cX7_layBoth 113 = .ok (.aload_n 0, 1) := by decide +kernel
theorem dX7_layBoth_114 : decode cX7_layBoth 114 = .ok (.iload_n 2, 1) := by decide +kernel
theorem dX7_layBoth_115 : decode cX7_layBoth 115 = .ok (.iload 6, 2) := by decide +kernel
theorem dX7_layBoth_117 : decode cX7_layBoth 117 = .ok (.invokevirtual 108, 3) := by decide +kernel
theorem dX7_layBoth_120 : decode cX7_layBoth 120 = .ok (.aload_n 0, 1) := by decide +kernel
theorem dX7_layBoth_121 : decode cX7_layBoth 121 = .ok (.iload_n 3, 1) := by decide +kernel
theorem dX7_layBoth_122 : decode cX7_layBoth 122 = .ok (.iload 6, 2) := by decide +kernel
theorem dX7_layBoth_124 : decode cX7_layBoth 124 = .ok (.invokevirtual 108, 3) := by decide +kernel
theorem dX7_layBoth_127 : decode cX7_layBoth 127 = .ok (.isub, 1) := by decide +kernel
theorem dX7_layBoth_128 : decode cX7_layBoth 128 = .ok (.invokestatic 171, 3) := by decide +kernel
theorem dX7_layBoth_131 : decode cX7_layBoth 131 = .ok (.istore 5, 2) := by decide +kernel
theorem dX7_layBoth_133 : decode cX7_layBoth 133 = .ok (.aload_n 0, 1) := by decide +kernel
theorem dX7_layBoth_134 : decode cX7_layBoth 134 = .ok (.iload 4, 2) := by decide +kernel
theorem dX7_layBoth_136 : decode cX7_layBoth 136 = .ok (.iload 6, 2) := by decide +kernel
theorem dX7_layBoth_138 : decode cX7_layBoth 138 = .ok (.iload_n 1, 1) := by decide +kernel
theorem dX7_layBoth_139 : decode cX7_layBoth 139 = .ok (.iconst 3, 1) := by decide +kernel
theorem dX7_layBoth_140 : decode cX7_layBoth 140 = .ok (.if_icmp .ne 12, 3) := by decide +kernel
theorem dX7_layBoth_143 : decode cX7_layBoth 143 = .ok (.iload 6, 2) := by decide +kernel
theorem dX7_layBoth_145 : decode cX7_layBoth 145 = .ok (.ifCond .ne 7, 3) := by decide +kernel
theorem dX7_layBoth_148 : decode cX7_layBoth 148 = .ok (.lconst 0, 1) := by decide +kernel
theorem dX7_layBoth_149 : decode cX7_layBoth 149 = .ok (.goto 6, 3) := by decide +kernel
theorem dX7_layBoth_152 : decode cX7_layBoth 152 = .ok (.iload 5, 2) := by decide +kernel
theorem dX7_layBoth_154 : decode cX7_layBoth 154 = .ok (.i2l, 1) := by decide +kernel
theorem dX7_layBoth_155 : decode cX7_layBoth 155 = .ok (.invokevirtual 88, 3) := by decide +kernel
theorem dX7_layBoth_158 : decode cX7_layBoth 158 = .ok (.iload_n 1, 1) := by decide +kernel
theorem dX7_layBoth_159 : decode cX7_layBoth 159 = .ok (.iconst 3, 1) := by decide +kernel
theorem dX7_layBoth_160 : decode cX7_layBoth 160 = .ok (.if_icmp .ne 12, 3) := by decide +kernel
theorem dX7_layBoth_163 : decode cX7_layBoth 163 = .ok (.iload 6, 2) := by decide +kernel
theorem dX7_layBoth_165 : decode cX7_layBoth 165 = .ok (.ifCond .ne 7, 3) := by decide +kernel
theorem dX7_layBoth_168 : decode cX7_layBoth 168 = .ok (.iconst 0, 1) := by decide +kernel
theorem dX7_layBoth_169 : decode cX7_layBoth 169 = .ok (.goto 5, 3) := by decide +kernel
theorem dX7_layBoth_172 : decode cX7_layBoth 172 = .ok (.iload 5, 2) := by decide +kernel
theorem dX7_layBoth_174 : decode cX7_layBoth 174 = .ok (.istore 5, 2) := by decide +kernel
theorem dX7_layBoth_176 : decode cX7_layBoth 176 = .ok (.iinc 6 1, 3) := by decide +kernel
theorem dX7_layBoth_179 : decode cX7_layBoth 179 = .ok (.goto (-173), 3) := by decide +kernel
theorem dX7_layBoth_182 : decode cX7_layBoth 182 = .ok (.return_, 1) := by decide +kernel
theorem dX7_alongAt_0 : decode cX7_alongAt 0 = .ok (.aload_n 0, 1) := by decide +kernel
theorem dX7_alongAt_1 : decode cX7_alongAt 1 = .ok (.iload_n 1, 1) := by decide +kernel
theorem dX7_alongAt_2 : decode cX7_alongAt 2 = .ok (.iconst 0, 1) := by decide +kernel
theorem dX7_alongAt_3 : decode cX7_alongAt 3 = .ok (.invokevirtual 108, 3) := by decide +kernel
theorem dX7_alongAt_6 : decode cX7_alongAt 6 = .ok (.aload_n 0, 1) := by decide +kernel
theorem dX7_alongAt_7 : decode cX7_alongAt 7 = .ok (.iload_n 2, 1) := by decide +kernel
theorem dX7_alongAt_8 : decode cX7_alongAt 8 = .ok (.iload_n 3, 1) := by decide +kernel
theorem dX7_alongAt_9 : decode cX7_alongAt 9 = .ok (.invokevirtual 108, 3) := by decide +kernel
theorem dX7_alongAt_12 : decode cX7_alongAt 12 = .ok (.iadd, 1) := by decide +kernel
theorem dX7_alongAt_13 : decode cX7_alongAt 13 = .ok (.istore 4, 2) := by decide +kernel
theorem dX7_alongAt_15 : decode cX7_alongAt 15 = .ok (.iconst 1, 1) := by decide +kernel
theorem dX7_alongAt_16 : decode cX7_alongAt 16 = .ok (.istore 5, 2) := by decide +kernel
theorem dX7_alongAt_18 : decode cX7_alongAt 18 = .ok (.iload 5, 2) := by decide +kernel
theorem dX7_alongAt_20 : decode cX7_alongAt 20 = .ok (.iload_n 3, 1) := by decide +kernel
theorem dX7_alongAt_21 : decode cX7_alongAt 21 = .ok (.if_icmp .gt 33, 3) := by decide +kernel
theorem dX7_alongAt_24 : decode cX7_alongAt 24 = .ok (.iload 4, 2) := by decide +kernel
theorem dX7_alongAt_26 : decode cX7_alongAt 26 = .ok (.aload_n 0, 1) := by decide +kernel
theorem dX7_alongAt_27 : decode cX7_alongAt 27 = .ok (.iload_n 1, 1) := by decide +kernel
theorem dX7_alongAt_28 : decode cX7_alongAt 28 = .ok (.iload 5, 2) := by decide +kernel
theorem dX7_alongAt_30 : decode cX7_alongAt 30 = .ok (.invokevirtual 108, 3) := by decide +kernel
theorem dX7_alongAt_33 : decode cX7_alongAt 33 = .ok (.aload_n 0, 1) := by decide +kernel
theorem dX7_alongAt_34 : decode cX7_alongAt 34 = .ok (.iload_n 2, 1) := by decide +kernel
theorem dX7_alongAt_35 : decode cX7_alongAt 35 = .ok (.iload_n 3, 1) := by decide +kernel
theorem dX7_alongAt_36 : decode cX7_alongAt 36 = .ok (.iload 5, 2) := by decide +kernel
theorem dX7_alongAt_38 : decode cX7_alongAt 38 = .ok (.isub, 1) := by decide +kernel
theorem dX7_alongAt_39 : decode cX7_alongAt 39 = .ok (.invokevirtual 108, 3) := by decide +kernel
theorem dX7_alongAt_42 : decode cX7_alongAt 42 = .ok (.iadd, 1) := by decide +kernel
theorem dX7_alongAt_43 : decode cX7_alongAt 43 = .ok (.invokestatic 112, 3) := by decide +kernel
theorem dX7_alongAt_46 : decode cX7_alongAt 46 = .ok (.istore 4, 2) := by decide +kernel
theorem dX7_alongAt_48 : decode cX7_alongAt 48 = .ok (.iinc 5 1, 3) := by decide +kernel
theorem dX7_alongAt_51 : decode cX7_alongAt 51 = .ok (.goto (-33), 3) := by decide +kernel
theorem dX7_alongAt_54 : decode cX7_alongAt 54 = .ok (.iload 4, 2) := by decide +kernel
theorem dX7_alongAt_56 : decode cX7_alongAt 56 = .ok (.ireturn, 1) := by decide +kernel
theorem dX7_outAt_0 : decode cX7_outAt 0 = .ok (.iconst 0, 1) := by decide +kernel
theorem dX7_outAt_1 : decode cX7_outAt 1 = .ok (.istore 4, 2) := by decide +kernel
theorem dX7_outAt_3 : decode cX7_outAt 3 = .ok (.iconst 0, 1) := by decide +kernel
theorem dX7_outAt_4 : decode cX7_outAt 4 = .ok (.istore 5, 2) := by decide +kernel
theorem dX7_outAt_6 : decode cX7_outAt 6 = .ok (.iload 5, 2) := by decide +kernel
theorem dX7_outAt_8 : decode cX7_outAt 8 = .ok (.bipush 40, 2) := by decide +kernel
theorem dX7_outAt_10 : decode cX7_outAt 10 = .ok (.iload_n 3, 1) := by decide +kernel
theorem dX7_outAt_11 : decode cX7_outAt 11 = .ok (.isub, 1) := by decide +kernel
theorem dX7_outAt_12 : decode cX7_outAt 12 = .ok (.if_icmp .gt 33, 3) := by decide +kernel
theorem dX7_outAt_15 : decode cX7_outAt 15 = .ok (.iload 4, 2) := by decide +kernel
theorem dX7_outAt_17 : decode cX7_outAt 17 = .ok (.aload_n 0, 1) := by decide +kernel
theorem dX7_outAt_18 : decode cX7_outAt 18 = .ok (.iload_n 1, 1) := by decide +kernel
theorem dX7_outAt_19 : decode cX7_outAt 19 = .ok (.iload_n 3, 1) := by decide +kernel
theorem dX7_outAt_20 : decode cX7_outAt 20 = .ok (.iload 5, 2) := by decide +kernel
theorem dX7_outAt_22 : decode cX7_outAt 22 = .ok (.iadd, 1) := by decide +kernel
theorem dX7_outAt_23 : decode cX7_outAt 23 = .ok (.invokevirtual 108, 3) := by decide +kernel
theorem dX7_outAt_26 : decode cX7_outAt 26 = .ok (.aload_n 0, 1) := by decide +kernel
theorem dX7_outAt_27 : decode cX7_outAt 27 = .ok (.iload_n 2, 1) := by decide +kernel
theorem dX7_outAt_28 : decode cX7_outAt 28 = .ok (.iload 5, 2) := by decide +kernel
theorem dX7_outAt_30 : decode cX7_outAt 30 = .ok (.invokevirtual 108, 3) := by decide +kernel
theorem dX7_outAt_33 : decode cX7_outAt 33 = .ok (.isub, 1) := by decide +kernel
theorem dX7_outAt_34 : decode cX7_outAt 34 = .ok (.invokestatic 171, 3) := by decide +kernel
theorem dX7_outAt_37 : decode cX7_outAt 37 = .ok (.istore 4, 2) := by decide +kernel
theorem dX7_outAt_39 : decode cX7_outAt 39 = .ok (.iinc 5 1, 3) := by decide +kernel
theorem dX7_outAt_42 : decode cX7_outAt 42 = .ok (.goto (-36), 3) := by decide +kernel
theorem dX7_outAt_45 : decode cX7_outAt 45 = .ok (.iload 4, 2) := by decide +kernel
theorem dX7_outAt_47 : decode cX7_outAt 47 = .ok (.ireturn, 1) := by decide +kernel
theorem dX7_layMoved_0 : decode cX7_layMoved 0 = .ok (.iconst 0, 1) := by decide +kernel
theorem dX7_layMoved_1 : decode cX7_layMoved 1 = .ok (.istore 5, 2) := by decide +kernel
theorem dX7_layMoved_3 : decode cX7_layMoved 3 = .ok (.iload 5, 2) := by decide +kernel
theorem dX7_layMoved_5 : decode cX7_layMoved 5 = .ok (.bipush 41, 2) := by decide +kernel
theorem dX7_layMoved_7 : decode cX7_layMoved 7 = .ok (.if_icmp .ge 88, 3) := by decide +kernel
theorem dX7_layMoved_10 : decode cX7_layMoved 10 = .ok (.iload_n 1, 1) := by decide +kernel
theorem dX7_layMoved_11 : decode cX7_layMoved 11 = .ok (.ifCond .ne 17, 3) := by decide +kernel
theorem dX7_layMoved_14 : decode cX7_layMoved 14 = .ok (.iload 5, 2) := by decide +kernel
theorem dX7_layMoved_16 : decode cX7_layMoved 16 = .ok (.iload_n 3, 1) := by decide +kernel
theorem dX7_layMoved_17 : decode cX7_layMoved 17 = .ok (.if_icmp .ge 7, 3) := by decide +kernel
theorem dX7_layMoved_20 : decode cX7_layMoved 20 = .ok (.iconst 1, 1) := by decide +kernel
theorem dX7_layMoved_21 : decode cX7_layMoved 21 = .ok (.goto 17, 3) := by decide +kernel
theorem dX7_layMoved_24 : decode cX7_layMoved 24 = .ok (.iconst 0, 1) := by decide +kernel
theorem dX7_layMoved_25 : decode cX7_layMoved 25 = .ok (.goto 13, 3) := by decide +kernel
theorem dX7_layMoved_28 : decode cX7_layMoved 28 = .ok (.iload 5, 2) := by decide +kernel
theorem dX7_layMoved_30 : decode cX7_layMoved 30 = .ok (.ifCond .ne 7, 3) := by decide +kernel
theorem dX7_layMoved_33 : decode cX7_layMoved 33 = .ok (.iconst 1, 1) := by decide +kernel
theorem dX7_layMoved_34 : decode cX7_layMoved 34 = .ok (.goto 4, 3) := by decide +kernel
theorem dX7_layMoved_37 : decode cX7_layMoved 37 = .ok (.iconst 0, 1) := by decide +kernel
theorem dX7_layMoved_38 : decode cX7_layMoved 38 = .ok (.istore 6, 2) := by decide +kernel
theorem dX7_layMoved_40 : decode cX7_layMoved 40 = .ok (.aload_n 0, 1) := by decide +kernel
theorem dX7_layMoved_41 : decode cX7_layMoved 41 = .ok (.iload 4, 2) := by decide +kernel
theorem dX7_layMoved_43 : decode cX7_layMoved 43 = .ok (.iload 5, 2) := by decide +kernel
theorem dX7_layMoved_45 : decode cX7_layMoved 45 = .ok (.iload 6, 2) := by decide +kernel
theorem dX7_layMoved_47 : decode cX7_layMoved 47 = .ok (.ifCond .eq 7, 3) := by decide +kernel
theorem dX7_layMoved_50 : decode cX7_layMoved 50 = .ok (.lconst 0, 1) := by decide +kernel
theorem dX7_layMoved_51 : decode cX7_layMoved 51 = .ok (.goto 35, 3) := by decide +kernel
theorem dX7_layMoved_54 : decode cX7_layMoved 54 = .ok (.iload_n 1, 1) := by decide +kernel
theorem dX7_layMoved_55 : decode cX7_layMoved 55 = .ok (.ifCond .ne 16, 3) := by decide +kernel
theorem dX7_layMoved_58 : decode cX7_layMoved 58 = .ok (.aload_n 0, 1) := by decide +kernel
theorem dX7_layMoved_59 : decode cX7_layMoved 59 = .ok (.iload_n 2, 1) := by decide +kernel
theorem dX7_layMoved_60 : decode cX7_layMoved 60 = .ok (.iload 5, 2) := by decide +kernel
theorem dX7_layMoved_62 : decode cX7_layMoved 62 = .ok (.iload_n 3, 1) := by decide +kernel
theorem dX7_layMoved_63 : decode cX7_layMoved 63 = .ok (.isub, 1) := by decide +kernel
theorem dX7_layMoved_64 : decode cX7_layMoved 64 = .ok (.invokevirtual 108, 3) := by decide +kernel
theorem dX7_layMoved_67 : decode cX7_layMoved 67 = .ok (.i2l, 1) := by decide +kernel
theorem dX7_layMoved_68 : decode cX7_layMoved 68 = .ok (.goto 18, 3) := by decide +kernel
theorem dX7_layMoved_71 : decode cX7_layMoved 71 = .ok (.aload_n 0, 1) := by decide +kernel
theorem dX7_layMoved_72 : decode cX7_layMoved 72 = .ok (.iload_n 2, 1) := by decide +kernel
theorem dX7_layMoved_73 : decode cX7_layMoved 73 = .ok (.bipush 40, 2) := by decide +kernel
theorem dX7_layMoved_75 : decode cX7_layMoved 75 = .ok (.iload 5, 2) := by decide +kernel
theorem dX7_layMoved_77 : decode cX7_layMoved 77 = .ok (.iload_n 3, 1) := by decide +kernel
theorem dX7_layMoved_78 : decode cX7_layMoved 78 = .ok (.iadd, 1) := by decide +kernel
theorem dX7_layMoved_79 : decode cX7_layMoved 79 = .ok (.invokestatic 112, 3) := by decide +kernel
theorem dX7_layMoved_82 : decode cX7_layMoved 82 = .ok (.invokevirtual 108, 3) := by decide +kernel
theorem dX7_layMoved_85 : decode cX7_layMoved 85 = .ok (.i2l, 1) := by decide +kernel
theorem dX7_layMoved_86 : decode cX7_layMoved 86 = .ok (.invokevirtual 88, 3) := by decide +kernel
theorem dX7_layMoved_89 : decode cX7_layMoved 89 = .ok (.iinc 5 1, 3) := by decide +kernel
theorem dX7_layMoved_92 : decode cX7_layMoved 92 = .ok (.goto (-89), 3) := by decide +kernel
theorem dX7_layMoved_95 : decode cX7_layMoved 95 = .ok (.return_, 1) := by decide +kernel
theorem dX7_make_0 : decode cX7_make 0 = .ok (.aload_n 0, 1) := by decide +kernel
theorem dX7_make_1 : decode cX7_make 1 = .ok (.iload_n 2, 1) := by decide +kernel
theorem dX7_make_2 : decode cX7_make 2 = .ok (.invokevirtual 161, 3) := by decide +kernel
theorem dX7_make_5 : decode cX7_make 5 = .ok (.ifCond .ne 11, 3) := by decide +kernel
theorem dX7_make_8 : decode cX7_make 8 = .ok (.aload_n 0, 1) := by decide +kernel
theorem dX7_make_9 : decode cX7_make 9 = .ok (.iload_n 3, 1) := by decide +kernel
theorem dX7_make_10 : decode cX7_make 10 = .ok (.invokevirtual 161, 3) := by decide +kernel
theorem dX7_make_13 : decode cX7_make 13 = .ok (.ifCond .eq 5, 3) := by decide +kernel
theorem dX7_make_16 : decode cX7_make 16 = .ok (.iconst (-1), 1) := by decide +kernel
theorem dX7_make_17 : decode cX7_make 17 = .ok (.ireturn, 1) := by decide +kernel
theorem dX7_make_18 : decode cX7_make 18 = .ok (.iload_n 1, 1) := by decide +kernel
theorem dX7_make_19 : decode cX7_make 19 = .ok (.i2l, 1) := by decide +kernel
theorem dX7_make_20 : decode cX7_make 20 = .ok (.lconst 0, 1) := by decide +kernel
theorem dX7_make_21 : decode cX7_make 21 = .ok (.ldc2_w 174, 3) := by decide +kernel
theorem dX7_make_24 : decode cX7_make 24 = .ok (.invokestatic 67, 3) := by decide +kernel
theorem dX7_make_27 : decode cX7_make 27 = .ok (.ifCond .ne 6, 3) := by decide +kernel
theorem dX7_make_30 : decode cX7_make 30 = .ok (.bipush (-2), 2) := by decide +kernel
theorem dX7_make_32 : decode cX7_make 32 = .ok (.ireturn, 1) := by decide +kernel
theorem dX7_make_33 : decode cX7_make 33 = .ok (.aload_n 0, 1) := by decide +kernel
theorem dX7_make_34 : decode cX7_make 34 = .ok (.getfield 82, 3) := by decide +kernel
theorem dX7_make_37 : decode cX7_make 37 = .ok (.bipush 24, 2) := by decide +kernel
theorem dX7_make_39 : decode cX7_make 39 = .ok (.if_icmp .ne 6, 3) := by decide +kernel
theorem dX7_make_42 : decode cX7_make 42 = .ok (.bipush (-4), 2) := by decide +kernel
theorem dX7_make_44 : decode cX7_make 44 = .ok (.ireturn, 1) := by decide +kernel
theorem dX7_make_45 : decode cX7_make 45 = .ok (.aload_n 0, 1) := by decide +kernel
theorem dX7_make_46 : decode cX7_make 46 = .ok (.iload_n 1, 1) := by decide +kernel
theorem dX7_make_47 : decode cX7_make 47 = .ok (.iload_n 2, 1) := by decide +kernel
theorem dX7_make_48 : decode cX7_make 48 = .ok (.iload_n 3, 1) := by decide +kernel
theorem dX7_make_49 : decode cX7_make 49 = .ok (.aload_n 0, 1) := by decide +kernel
theorem dX7_make_50 : decode cX7_make 50 = .ok (.getfield 82, 3) := by decide +kernel
theorem dX7_make_53 : decode cX7_make 53 = .ok (.invokevirtual 157, 3) := by decide +kernel
theorem dX7_make_56 : decode cX7_make 56 = .ok (.aload_n 0, 1) := by decide +kernel
theorem dX7_make_57 : decode cX7_make 57 = .ok (.iconst 0, 1) := by decide +kernel
theorem dX7_make_58 : decode cX7_make 58 = .ok (.invokevirtual 115, 3) := by decide +kernel
theorem dX7_make_61 : decode cX7_make 61 = .ok (.ireturn, 1) := by decide +kernel
theorem dX7_move_0 : decode cX7_move 0 = .ok (.aload_n 0, 1) := by decide +kernel
theorem dX7_move_1 : decode cX7_move 1 = .ok (.iload_n 2, 1) := by decide +kernel
theorem dX7_move_2 : decode cX7_move 2 = .ok (.invokevirtual 161, 3) := by decide +kernel
theorem dX7_move_5 : decode cX7_move 5 = .ok (.ifCond .eq 5, 3) := by decide +kernel
theorem dX7_move_8 : decode cX7_move 8 = .ok (.iconst (-1), 1) := by decide +kernel
theorem dX7_move_9 : decode cX7_move 9 = .ok (.ireturn, 1) := by decide +kernel
theorem dX7_move_10 : decode cX7_move 10 = .ok (.iload_n 1, 1) := by decide +kernel
theorem dX7_move_11 : decode cX7_move 11 = .ok (.i2l, 1) := by decide +kernel
theorem dX7_move_12 : decode cX7_move 12 = .ok (.lconst 0, 1) := by decide +kernel
theorem dX7_move_13 : decode cX7_move 13 = .ok (.lconst 1, 1) := by decide +kernel
theorem dX7_move_14 : decode cX7_move 14 = .ok (.invokestatic 67, 3) := by decide +kernel
theorem dX7_move_17 : decode cX7_move 17 = .ok (.ifCond .eq 15, 3) := by decide +kernel
theorem dX7_move_20 : decode cX7_move 20 = .ok (.iload_n 3, 1) := by decide +kernel
theorem dX7_move_21 : decode cX7_move 21 = .ok (.i2l, 1) := by decide +kernel
theorem dX7_move_22 : decode cX7_move 22 = .ok (.lconst 0, 1) := by decide +kernel
theorem dX7_move_23 : decode cX7_move 23 = .ok (.ldc2_w 92, 3) := by decide +kernel
theorem dX7_move_26 : decode cX7_move 26 = .ok (.invokestatic 67, 3) := by decide +kernel
theorem dX7_move_29 : decode cX7_move 29 = .ok (.ifCond .ne 6, 3) := by decide +kernel
theorem dX7_move_32 : decode cX7_move 32 = .ok (.bipush (-2), 2) := by decide +kernel
theorem dX7_move_34 : decode cX7_move 34 = .ok (.ireturn, 1) := by decide +kernel
theorem dX7_move_35 : decode cX7_move 35 = .ok (.aload_n 0, 1) := by decide +kernel
theorem dX7_move_36 : decode cX7_move 36 = .ok (.getfield 82, 3) := by decide +kernel
theorem dX7_move_39 : decode cX7_move 39 = .ok (.bipush 24, 2) := by decide +kernel
theorem dX7_move_41 : decode cX7_move 41 = .ok (.if_icmp .ne 6, 3) := by decide +kernel
theorem dX7_move_44 : decode cX7_move 44 = .ok (.bipush (-4), 2) := by decide +kernel
theorem dX7_move_46 : decode cX7_move 46 = .ok (.ireturn, 1) := by decide +kernel
theorem dX7_move_47 : decode cX7_move 47 = .ok (.aload_n 0, 1) := by decide +kernel
theorem dX7_move_48 : decode cX7_move 48 = .ok (.iload_n 1, 1) := by decide +kernel
theorem dX7_move_49 : decode cX7_move 49 = .ok (.iload_n 2, 1) := by decide +kernel
theorem dX7_move_50 : decode cX7_move 50 = .ok (.iload_n 3, 1) := by decide +kernel
theorem dX7_move_51 : decode cX7_move 51 = .ok (.aload_n 0, 1) := by decide +kernel
theorem dX7_move_52 : decode cX7_move 52 = .ok (.getfield 82, 3) := by decide +kernel
theorem dX7_move_55 : decode cX7_move 55 = .ok (.invokevirtual 176, 3) := by decide +kernel
theorem dX7_move_58 : decode cX7_move 58 = .ok (.aload_n 0, 1) := by decide +kernel
theorem dX7_move_59 : decode cX7_move 59 = .ok (.iconst 0, 1) := by decide +kernel
theorem dX7_move_60 : decode cX7_move 60 = .ok (.invokevirtual 115, 3) := by decide +kernel
theorem dX7_move_63 : decode cX7_move 63 = .ok (.ireturn, 1) := by decide +kernel
theorem dX7_laterBy_0 : decode cX7_laterBy 0 = .ok (.iconst 0, 1) := by decide +kernel
theorem dX7_laterBy_1 : decode cX7_laterBy 1 = .ok (.istore 4, 2) := by decide +kernel
theorem dX7_laterBy_3 : decode cX7_laterBy 3 = .ok (.iload_n 3, 1) := by decide +kernel
theorem dX7_laterBy_4 : decode cX7_laterBy 4 = .ok (.iload 4, 2) := by decide +kernel
theorem dX7_laterBy_6 : decode cX7_laterBy 6 = .ok (.iadd, 1) := by decide +kernel
theorem dX7_laterBy_7 : decode cX7_laterBy 7 = .ok (.bipush 41, 2) := by decide +kernel
theorem dX7_laterBy_9 : decode cX7_laterBy 9 = .ok (.if_icmp .ge 30, 3) := by decide +kernel
theorem dX7_laterBy_12 : decode cX7_laterBy 12 = .ok (.aload_n 0, 1) := by decide +kernel
theorem dX7_laterBy_13 : decode cX7_laterBy 13 = .ok (.iload_n 2, 1) := by decide +kernel
theorem dX7_laterBy_14 : decode cX7_laterBy 14 = .ok (.iload_n 3, 1) := by decide +kernel
theorem dX7_laterBy_15 : decode cX7_laterBy 15 = .ok (.iload 4, 2) := by decide +kernel
theorem dX7_laterBy_17 : decode cX7_laterBy 17 = .ok (.iadd, 1) := by decide +kernel
theorem dX7_laterBy_18 : decode cX7_laterBy 18 = .ok (.invokevirtual 108, 3) := by decide +kernel
theorem dX7_laterBy_21 : decode cX7_laterBy 21 = .ok (.aload_n 0, 1) := by decide +kernel
theorem dX7_laterBy_22 : decode cX7_laterBy 22 = .ok (.iload_n 1, 1) := by decide +kernel
theorem dX7_laterBy_23 : decode cX7_laterBy 23 = .ok (.iload_n 3, 1) := by decide +kernel
theorem dX7_laterBy_24 : decode cX7_laterBy 24 = .ok (.invokevirtual 108, 3) := by decide +kernel
theorem dX7_laterBy_27 : decode cX7_laterBy 27 = .ok (.if_icmp .lt 6, 3) := by decide +kernel
theorem dX7_laterBy_30 : decode cX7_laterBy 30 = .ok (.iload 4, 2) := by decide +kernel
theorem dX7_laterBy_32 : decode cX7_laterBy 32 = .ok (.ireturn, 1) := by decide +kernel
theorem dX7_laterBy_33 : decode cX7_laterBy 33 = .ok (.iinc 4 1, 3) := by decide +kernel
theorem dX7_laterBy_36 : decode cX7_laterBy 36 = .ok (.goto (-33), 3) := by decide +kernel
theorem dX7_laterBy_39 : decode cX7_laterBy 39 = .ok (.bipush (-9), 2) := by decide +kernel
theorem dX7_laterBy_41 : decode cX7_laterBy 41 = .ok (.ireturn, 1) := by decide +kernel
theorem dX7_waitOf_0 : decode cX7_waitOf 0 = .ok (.iconst 0, 1) := by decide +kernel
theorem dX7_waitOf_1 : decode cX7_waitOf 1 = .ok (.istore 4, 2) := by decide +kernel
theorem dX7_waitOf_3 : decode cX7_waitOf 3 = .ok (.iconst 0, 1) := by decide +kernel
theorem dX7_waitOf_4 : decode cX7_waitOf 4 = .ok (.istore 5, 2) := by decide +kernel
theorem dX7_waitOf_6 : decode cX7_waitOf 6 = .ok (.iload 5, 2) := by decide +kernel
theorem dX7_waitOf_8 : decode cX7_waitOf 8 = .ok (.iload_n 3, 1) := by decide +kernel
theorem dX7_waitOf_9 : decode cX7_waitOf 9 = .ok (.if_icmp .gt 36, 3) := by decide +kernel
theorem dX7_waitOf_12 : decode cX7_waitOf 12 = .ok (.aload_n 0, 1) := by decide +kernel
theorem dX7_waitOf_13 : decode cX7_waitOf 13 = .ok (.iload_n 1, 1) := by decide +kernel
theorem dX7_waitOf_14 : decode cX7_waitOf 14 = .ok (.iload_n 2, 1) := by decide +kernel
theorem dX7_waitOf_15 : decode cX7_waitOf 15 = .ok (.iload 5, 2) := by decide +kernel
theorem dX7_waitOf_17 : decode cX7_waitOf 17 = .ok (.invokevirtual 179, 3) := by decide +kernel
theorem dX7_waitOf_20 : decode cX7_waitOf 20 = .ok (.istore 6, 2) := by decide +kernel
theorem dX7_waitOf_22 : decode cX7_waitOf 22 = .ok (.iload 6, 2) := by decide +kernel
theorem dX7_waitOf_24 : decode cX7_waitOf 24 = .ok (.ifCond .ge 6, 3) := by decide +kernel
theorem dX7_waitOf_27 : decode cX7_waitOf 27 = .ok (.bipush (-9), 2) := by decide +kernel
theorem dX7_waitOf_29 : decode cX7_waitOf 29 = .ok (.ireturn, 1) := by decide +kernel
theorem dX7_waitOf_30 : decode cX7_waitOf 30 = .ok (.iload 4, 2) := by decide +kernel
theorem dX7_waitOf_32 : decode cX7_waitOf 32 = .ok (.iload 6, 2) := by decide +kernel
theorem dX7_waitOf_34 : decode cX7_waitOf 34 = .ok (.invokestatic 171, 3) := by decide +kernel
theorem dX7_waitOf_37 : decode cX7_waitOf 37 = .ok (.istore 4, 2) := by decide +kernel
theorem dX7_waitOf_39 : decode cX7_waitOf 39 = .ok (.iinc 5 1, 3) := by decide +kernel
theorem dX7_waitOf_42 : decode cX7_waitOf 42 = .ok (.goto (-36), 3) := by decide +kernel
theorem dX7_waitOf_45 : decode cX7_waitOf 45 = .ok (.iload 4, 2) := by decide +kernel
theorem dX7_waitOf_47 : decode cX7_waitOf 47 = .ok (.ireturn, 1) := by decide +kernel
theorem dX7_heapOf_0 : decode cX7_heapOf 0 = .ok (.iconst 0, 1) := by decide +kernel
theorem dX7_heapOf_1 : decode cX7_heapOf 1 = .ok (.istore_n 3, 1) := by decide +kernel
theorem dX7_heapOf_2 : decode cX7_heapOf 2 = .ok (.iconst 0, 1) := by decide +kernel
theorem dX7_heapOf_3 : decode cX7_heapOf 3 = .ok (.istore 4, 2) := by decide +kernel
theorem dX7_heapOf_5 : decode cX7_heapOf 5 = .ok (.iload 4, 2) := by decide +kernel
theorem dX7_heapOf_7 : decode cX7_heapOf 7 = .ok (.bipush 41, 2) := by decide +kernel
theorem dX7_heapOf_9 : decode cX7_heapOf 9 = .ok (.if_icmp .ge 29, 3) := by decide +kernel
theorem dX7_heapOf_12 : decode cX7_heapOf 12 = .ok (.iload_n 3, 1) := by decide +kernel
theorem dX7_heapOf_13 : decode cX7_heapOf 13 = .ok (.aload_n 0, 1) := by decide +kernel
theorem dX7_heapOf_14 : decode cX7_heapOf 14 = .ok (.iload_n 1, 1) := by decide +kernel
theorem dX7_heapOf_15 : decode cX7_heapOf 15 = .ok (.iload 4, 2) := by decide +kernel
theorem dX7_heapOf_17 : decode cX7_heapOf 17 = .ok (.invokevirtual 108, 3) := by decide +kernel
theorem dX7_heapOf_20 : decode cX7_heapOf 20 = .ok (.aload_n 0, 1) := by decide +kernel
theorem dX7_heapOf_21 : decode cX7_heapOf 21 = .ok (.iload_n 2, 1) := by decide +kernel
theorem dX7_heapOf_22 : decode cX7_heapOf 22 = .ok (.iload 4, 2) := by decide +kernel
theorem dX7_heapOf_24 : decode cX7_heapOf 24 = .ok (.invokevirtual 108, 3) := by decide +kernel
theorem dX7_heapOf_27 : decode cX7_heapOf 27 = .ok (.isub, 1) := by decide +kernel
theorem dX7_heapOf_28 : decode cX7_heapOf 28 = .ok (.invokestatic 171, 3) := by decide +kernel
theorem dX7_heapOf_31 : decode cX7_heapOf 31 = .ok (.istore_n 3, 1) := by decide +kernel
theorem dX7_heapOf_32 : decode cX7_heapOf 32 = .ok (.iinc 4 1, 3) := by decide +kernel
theorem dX7_heapOf_35 : decode cX7_heapOf 35 = .ok (.goto (-30), 3) := by decide +kernel
theorem dX7_heapOf_38 : decode cX7_heapOf 38 = .ok (.iload_n 3, 1) := by decide +kernel
theorem dX7_heapOf_39 : decode cX7_heapOf 39 = .ok (.ireturn, 1) := by decide +kernel
theorem dX7_delay_0 : decode cX7_delay 0 = .ok (.aload_n 0, 1) := by decide +kernel
theorem dX7_delay_1 : decode cX7_delay 1 = .ok (.iload_n 1, 1) := by decide +kernel
theorem dX7_delay_2 : decode cX7_delay 2 = .ok (.invokevirtual 161, 3) := by decide +kernel
theorem dX7_delay_5 : decode cX7_delay 5 = .ok (.ifCond .ne 11, 3) := by decide +kernel
theorem dX7_delay_8 : decode cX7_delay 8 = .ok (.aload_n 0, 1) := by decide +kernel
theorem dX7_delay_9 : decode cX7_delay 9 = .ok (.iload_n 2, 1) := by decide +kernel
theorem dX7_delay_10 : decode cX7_delay 10 = .ok (.invokevirtual 161, 3) := by decide +kernel
theorem dX7_delay_13 : decode cX7_delay 13 = .ok (.ifCond .eq 7, 3) := by decide +kernel
theorem dX7_delay_16 : decode cX7_delay 16 = .ok (.iconst (-1), 1) := by decide +kernel
theorem dX7_delay_17 : decode cX7_delay 17 = .ok (.goto 11, 3) := by decide +kernel
theorem dX7_delay_20 : decode cX7_delay 20 = .ok (.aload_n 0, 1) := by decide +kernel
theorem dX7_delay_21 : decode cX7_delay 21 = .ok (.iload_n 1, 1) := by decide +kernel
theorem dX7_delay_22 : decode cX7_delay 22 = .ok (.iload_n 2, 1) := by decide +kernel
theorem dX7_delay_23 : decode cX7_delay 23 = .ok (.bipush 20, 2) := by decide +kernel
theorem dX7_delay_25 : decode cX7_delay 25 = .ok (.invokevirtual 182, 3) := by decide +kernel
theorem dX7_delay_28 : decode cX7_delay 28 = .ok (.ireturn, 1) := by decide +kernel
theorem dX7_heap_0 : decode cX7_heap 0 = .ok (.aload_n 0, 1) := by decide +kernel
theorem dX7_heap_1 : decode cX7_heap 1 = .ok (.iload_n 1, 1) := by decide +kernel
theorem dX7_heap_2 : decode cX7_heap 2 = .ok (.invokevirtual 161, 3) := by decide +kernel
theorem dX7_heap_5 : decode cX7_heap 5 = .ok (.ifCond .ne 11, 3) := by decide +kernel
theorem dX7_heap_8 : decode cX7_heap 8 = .ok (.aload_n 0, 1) := by decide +kernel
theorem dX7_heap_9 : decode cX7_heap 9 = .ok (.iload_n 2, 1) := by decide +kernel
theorem dX7_heap_10 : decode cX7_heap 10 = .ok (.invokevirtual 161, 3) := by decide +kernel
theorem dX7_heap_13 : decode cX7_heap 13 = .ok (.ifCond .eq 7, 3) := by decide +kernel
theorem dX7_heap_16 : decode cX7_heap 16 = .ok (.iconst (-1), 1) := by decide +kernel
theorem dX7_heap_17 : decode cX7_heap 17 = .ok (.goto 9, 3) := by decide +kernel
theorem dX7_heap_20 : decode cX7_heap 20 = .ok (.aload_n 0, 1) := by decide +kernel
theorem dX7_heap_21 : decode cX7_heap 21 = .ok (.iload_n 1, 1) := by decide +kernel
theorem dX7_heap_22 : decode cX7_heap 22 = .ok (.iload_n 2, 1) := by decide +kernel
theorem dX7_heap_23 : decode cX7_heap 23 = .ok (.invokevirtual 185, 3) := by decide +kernel
theorem dX7_heap_26 : decode cX7_heap 26 = .ok (.ireturn, 1) := by decide +kernel
theorem dX7_within_0 : decode cX7_within 0 = .ok (.aload_n 0, 1) := by decide +kernel
theorem dX7_within_1 : decode cX7_within 1 = .ok (.iload_n 1, 1) := by decide +kernel
theorem dX7_within_2 : decode cX7_within 2 = .ok (.invokevirtual 161, 3) := by decide +kernel
theorem dX7_within_5 : decode cX7_within 5 = .ok (.ifCond .ne 11, 3) := by decide +kernel
theorem dX7_within_8 : decode cX7_within 8 = .ok (.aload_n 0, 1) := by decide +kernel
theorem dX7_within_9 : decode cX7_within 9 = .ok (.iload_n 2, 1) := by decide +kernel
theorem dX7_within_10 : decode cX7_within 10 = .ok (.invokevirtual 161, 3) := by decide +kernel
theorem dX7_within_13 : decode cX7_within 13 = .ok (.ifCond .eq 5, 3) := by decide +kernel
theorem dX7_within_16 : decode cX7_within 16 = .ok (.iconst (-1), 1) := by decide +kernel
theorem dX7_within_17 : decode cX7_within 17 = .ok (.ireturn, 1) := by decide +kernel
theorem dX7_within_18 : decode cX7_within 18 = .ok (.aload_n 0, 1) := by decide +kernel
theorem dX7_within_19 : decode cX7_within 19 = .ok (.iload_n 1, 1) := by decide +kernel
theorem dX7_within_20 : decode cX7_within 20 = .ok (.iload_n 2, 1) := by decide +kernel
theorem dX7_within_21 : decode cX7_within 21 = .ok (.invokevirtual 185, 3) := by decide +kernel
theorem dX7_within_24 : decode cX7_within 24 = .ok (.ifCond .ne 7, 3) := by decide +kernel
theorem dX7_within_27 : decode cX7_within 27 = .ok (.iconst 1, 1) := by decide +kernel
theorem dX7_within_28 : decode cX7_within 28 = .ok (.goto 4, 3) := by decide +kernel
theorem dX7_within_31 : decode cX7_within 31 = .ok (.iconst 0, 1) := by decide +kernel
theorem dX7_within_32 : decode cX7_within 32 = .ok (.ireturn, 1) := by decide +kernel
theorem dX7_noNode_0 : decode cX7_noNode 0 = .ok (.iload_n 0, 1) := by decide +kernel
theorem dX7_noNode_1 : decode cX7_noNode 1 = .ok (.i2l, 1) := by decide +kernel
theorem dX7_noNode_2 : decode cX7_noNode 2 = .ok (.lconst 0, 1) := by decide +kernel
theorem dX7_noNode_3 : decode cX7_noNode 3 = .ok (.ldc2_w 188, 3) := by decide +kernel
theorem dX7_noNode_6 : decode cX7_noNode 6 = .ok (.invokestatic 67, 3) := by decide +kernel
theorem dX7_noNode_9 : decode cX7_noNode 9 = .ok (.ifCond .ne 7, 3) := by decide +kernel
theorem dX7_noNode_12 : decode cX7_noNode 12 = .ok (.iconst 1, 1) := by decide +kernel
theorem dX7_noNode_13 : decode cX7_noNode 13 = .ok (.goto 4, 3) := by decide +kernel
theorem dX7_noNode_16 : decode cX7_noNode 16 = .ok (.iconst 0, 1) := by decide +kernel
theorem dX7_noNode_17 : decode cX7_noNode 17 = .ok (.ireturn, 1) := by decide +kernel
theorem dX7_noFlow_0 : decode cX7_noFlow 0 = .ok (.iload_n 1, 1) := by decide +kernel
theorem dX7_noFlow_1 : decode cX7_noFlow 1 = .ok (.i2l, 1) := by decide +kernel
theorem dX7_noFlow_2 : decode cX7_noFlow 2 = .ok (.lconst 0, 1) := by decide +kernel
theorem dX7_noFlow_3 : decode cX7_noFlow 3 = .ok (.aload_n 0, 1) := by decide +kernel
theorem dX7_noFlow_4 : decode cX7_noFlow 4 = .ok (.getfield 190, 3) := by decide +kernel
theorem dX7_noFlow_7 : decode cX7_noFlow 7 = .ok (.i2l, 1) := by decide +kernel
theorem dX7_noFlow_8 : decode cX7_noFlow 8 = .ok (.lconst 1, 1) := by decide +kernel
theorem dX7_noFlow_9 : decode cX7_noFlow 9 = .ok (.lsub, 1) := by decide +kernel
theorem dX7_noFlow_10 : decode cX7_noFlow 10 = .ok (.invokestatic 67, 3) := by decide +kernel
theorem dX7_noFlow_13 : decode cX7_noFlow 13 = .ok (.ifCond .ne 7, 3) := by decide +kernel
theorem dX7_noFlow_16 : decode cX7_noFlow 16 = .ok (.iconst 1, 1) := by decide +kernel
theorem dX7_noFlow_17 : decode cX7_noFlow 17 = .ok (.goto 4, 3) := by decide +kernel
theorem dX7_noFlow_20 : decode cX7_noFlow 20 = .ok (.iconst 0, 1) := by decide +kernel
theorem dX7_noFlow_21 : decode cX7_noFlow 21 = .ok (.ireturn, 1) := by decide +kernel
theorem dX7_serve_0 : decode cX7_serve 0 = .ok (.iload_n 1, 1) := by decide +kernel
theorem dX7_serve_1 : decode cX7_serve 1 = .ok (.invokestatic 193, 3) := by decide +kernel
theorem dX7_serve_4 : decode cX7_serve 4 = .ok (.ifCond .ne 17, 3) := by decide +kernel
theorem dX7_serve_7 : decode cX7_serve 7 = .ok (.iload_n 2, 1) := by decide +kernel
theorem dX7_serve_8 : decode cX7_serve 8 = .ok (.bipush (-9), 2) := by decide +kernel
theorem dX7_serve_10 : decode cX7_serve 10 = .ok (.if_icmp .eq 13, 3) := by decide +kernel
theorem dX7_serve_13 : decode cX7_serve 13 = .ok (.aload_n 0, 1) := by decide +kernel
theorem dX7_serve_14 : decode cX7_serve 14 = .ok (.iload_n 2, 1) := by decide +kernel
theorem dX7_serve_15 : decode cX7_serve 15 = .ok (.invokevirtual 161, 3) := by decide +kernel
theorem dX7_serve_18 : decode cX7_serve 18 = .ok (.ifCond .eq 5, 3) := by decide +kernel
theorem dX7_serve_21 : decode cX7_serve 21 = .ok (.iconst (-1), 1) := by decide +kernel
theorem dX7_serve_22 : decode cX7_serve 22 = .ok (.ireturn, 1) := by decide +kernel
theorem dX7_serve_23 : decode cX7_serve 23 = .ok (.aload_n 0, 1) := by decide +kernel
theorem dX7_serve_24 : decode cX7_serve 24 = .ok (.getfield 25, 3) := by decide +kernel
theorem dX7_serve_27 : decode cX7_serve 27 = .ok (.iload_n 1, 1) := by decide +kernel
theorem dX7_serve_28 : decode cX7_serve 28 = .ok (.iaload, 1) := by decide +kernel
theorem dX7_serve_29 : decode cX7_serve 29 = .ok (.istore_n 3, 1) := by decide +kernel
theorem dX7_serve_30 : decode cX7_serve 30 = .ok (.aload_n 0, 1) := by decide +kernel
theorem dX7_serve_31 : decode cX7_serve 31 = .ok (.getfield 25, 3) := by decide +kernel
theorem dX7_serve_34 : decode cX7_serve 34 = .ok (.iload_n 1, 1) := by decide +kernel
theorem dX7_serve_35 : decode cX7_serve 35 = .ok (.iload_n 2, 1) := by decide +kernel
theorem dX7_serve_36 : decode cX7_serve 36 = .ok (.iastore, 1) := by decide +kernel
theorem dX7_serve_37 : decode cX7_serve 37 = .ok (.iload_n 3, 1) := by decide +kernel
theorem dX7_serve_38 : decode cX7_serve 38 = .ok (.ireturn, 1) := by decide +kernel
theorem dX7_wayFault_0 : decode cX7_wayFault 0 = .ok (.iload_n 2, 1) := by decide +kernel
theorem dX7_wayFault_1 : decode cX7_wayFault 1 = .ok (.i2l, 1) := by decide +kernel
theorem dX7_wayFault_2 : decode cX7_wayFault 2 = .ok (.lconst 1, 1) := by decide +kernel
theorem dX7_wayFault_3 : decode cX7_wayFault 3 = .ok (.ldc2_w 174, 3) := by decide +kernel
theorem dX7_wayFault_6 : decode cX7_wayFault 6 = .ok (.invokestatic 67, 3) := by decide +kernel
theorem dX7_wayFault_9 : decode cX7_wayFault 9 = .ok (.ifCond .ne 6, 3) := by decide +kernel
theorem dX7_wayFault_12 : decode cX7_wayFault 12 = .ok (.bipush (-2), 2) := by decide +kernel
theorem dX7_wayFault_14 : decode cX7_wayFault 14 = .ok (.ireturn, 1) := by decide +kernel
theorem dX7_wayFault_15 : decode cX7_wayFault 15 = .ok (.iconst 0, 1) := by decide +kernel
theorem dX7_wayFault_16 : decode cX7_wayFault 16 = .ok (.istore_n 3, 1) := by decide +kernel
theorem dX7_wayFault_17 : decode cX7_wayFault 17 = .ok (.iload_n 3, 1) := by decide +kernel
theorem dX7_wayFault_18 : decode cX7_wayFault 18 = .ok (.iload_n 2, 1) := by decide +kernel
theorem dX7_wayFault_19 : decode cX7_wayFault 19 = .ok (.if_icmp .ge 25, 3) := by decide +kernel
theorem dX7_wayFault_22 : decode cX7_wayFault 22 = .ok (.aload_n 0, 1) := by decide +kernel
theorem dX7_wayFault_23 : decode cX7_wayFault 23 = .ok (.getfield 49, 3) := by decide +kernel
theorem dX7_wayFault_26 : decode cX7_wayFault 26 = .ok (.iload_n 1, 1) := by decide +kernel
theorem dX7_wayFault_27 : decode cX7_wayFault 27 = .ok (.iload_n 3, 1) := by decide +kernel
theorem dX7_wayFault_28 : decode cX7_wayFault 28 = .ok (.iadd, 1) := by decide +kernel
theorem dX7_wayFault_29 : decode cX7_wayFault 29 = .ok (.iaload, 1) := by decide +kernel
theorem dX7_wayFault_30 : decode cX7_wayFault 30 = .ok (.invokestatic 193, 3) := by decide +kernel
theorem dX7_wayFault_33 : decode cX7_wayFault 33 = .ok (.ifCond .eq 5, 3) := by decide +kernel
theorem dX7_wayFault_36 : decode cX7_wayFault 36 = .ok (.iconst (-1), 1) := by decide +kernel
theorem dX7_wayFault_37 : decode cX7_wayFault 37 = .ok (.ireturn, 1) := by decide +kernel
theorem dX7_wayFault_38 : decode cX7_wayFault 38 = .ok (.iinc 3 1, 3) := by decide +kernel
theorem dX7_wayFault_41 : decode cX7_wayFault 41 = .ok (.goto (-24), 3) := by decide +kernel
theorem dX7_wayFault_44 : decode cX7_wayFault 44 = .ok (.iconst 0, 1) := by decide +kernel
theorem dX7_wayFault_45 : decode cX7_wayFault 45 = .ok (.istore_n 3, 1) := by decide +kernel
theorem dX7_wayFault_46 : decode cX7_wayFault 46 = .ok (.iload_n 3, 1) := by decide +kernel
theorem dX7_wayFault_47 : decode cX7_wayFault 47 = .ok (.iload_n 2, 1) := by decide +kernel
theorem dX7_wayFault_48 : decode cX7_wayFault 48 = .ok (.if_icmp .ge 47, 3) := by decide +kernel
theorem dX7_wayFault_51 : decode cX7_wayFault 51 = .ok (.iconst 0, 1) := by decide +kernel
theorem dX7_wayFault_52 : decode cX7_wayFault 52 = .ok (.istore 4, 2) := by decide +kernel
theorem dX7_wayFault_54 : decode cX7_wayFault 54 = .ok (.iload 4, 2) := by decide +kernel
theorem dX7_wayFault_56 : decode cX7_wayFault 56 = .ok (.iload_n 3, 1) := by decide +kernel
theorem dX7_wayFault_57 : decode cX7_wayFault 57 = .ok (.if_icmp .ge 32, 3) := by decide +kernel
theorem dX7_wayFault_60 : decode cX7_wayFault 60 = .ok (.aload_n 0, 1) := by decide +kernel
theorem dX7_wayFault_61 : decode cX7_wayFault 61 = .ok (.getfield 49, 3) := by decide +kernel
theorem dX7_wayFault_64 : decode cX7_wayFault 64 = .ok (.iload_n 1, 1) := by decide +kernel
theorem dX7_wayFault_65 : decode cX7_wayFault 65 = .ok (.iload_n 3, 1) := by decide +kernel
theorem dX7_wayFault_66 : decode cX7_wayFault 66 = .ok (.iadd, 1) := by decide +kernel
theorem dX7_wayFault_67 : decode cX7_wayFault 67 = .ok (.iaload, 1) := by decide +kernel
theorem dX7_wayFault_68 : decode cX7_wayFault 68 = .ok (.aload_n 0, 1) := by decide +kernel
theorem dX7_wayFault_69 : decode cX7_wayFault 69 = .ok (.getfield 49, 3) := by decide +kernel
theorem dX7_wayFault_72 : decode cX7_wayFault 72 = .ok (.iload_n 1, 1) := by decide +kernel
theorem dX7_wayFault_73 : decode cX7_wayFault 73 = .ok (.iload 4, 2) := by decide +kernel
theorem dX7_wayFault_75 : decode cX7_wayFault 75 = .ok (.iadd, 1) := by decide +kernel
theorem dX7_wayFault_76 : decode cX7_wayFault 76 = .ok (.iaload, 1) := by decide +kernel
theorem dX7_wayFault_77 : decode cX7_wayFault 77 = .ok (.if_icmp .ne 6, 3) := by decide +kernel
theorem dX7_wayFault_80 : decode cX7_wayFault 80 = .ok (.bipush (-3), 2) := by decide +kernel
theorem dX7_wayFault_82 : decode cX7_wayFault 82 = .ok (.ireturn, 1) := by decide +kernel
theorem dX7_wayFault_83 : decode cX7_wayFault 83 = .ok (.iinc 4 1, 3) := by decide +kernel
theorem dX7_wayFault_86 : decode cX7_wayFault 86 = .ok (.goto (-32), 3) := by decide +kernel
theorem dX7_wayFault_89 : decode cX7_wayFault 89 = .ok (.iinc 3 1, 3) := by decide +kernel
theorem dX7_wayFault_92 : decode cX7_wayFault 92 = .ok (.goto (-46), 3) := by decide +kernel
theorem dX7_wayFault_95 : decode cX7_wayFault 95 = .ok (.iconst 0, 1) := by decide +kernel
theorem dX7_wayFault_96 : decode cX7_wayFault 96 = .ok (.ireturn, 1) := by decide +kernel
theorem dX7_flow_0 : decode cX7_flow 0 = .ok (.aload_n 0, 1) := by decide +kernel
theorem dX7_flow_1 : decode cX7_flow 1 = .ok (.iload_n 1, 1) := by decide +kernel
theorem dX7_flow_2 : decode cX7_flow 2 = .ok (.invokevirtual 161, 3) := by decide +kernel
theorem dX7_flow_5 : decode cX7_flow 5 = .ok (.ifCond .ne 10, 3) := by decide +kernel
theorem dX7_flow_8 : decode cX7_flow 8 = .ok (.iload_n 2, 1) := by decide +kernel
theorem dX7_flow_9 : decode cX7_flow 9 = .ok (.invokestatic 96, 3) := by decide +kernel
theorem dX7_flow_12 : decode cX7_flow 12 = .ok (.ifCond .eq 9, 3) := by decide +kernel
theorem dX7_flow_15 : decode cX7_flow 15 = .ok (.aload_n 0, 1) := by decide +kernel
theorem dX7_flow_16 : decode cX7_flow 16 = .ok (.iconst (-1), 1) := by decide +kernel
theorem dX7_flow_17 : decode cX7_flow 17 = .ok (.invokevirtual 71, 3) := by decide +kernel
theorem dX7_flow_20 : decode cX7_flow 20 = .ok (.ireturn, 1) := by decide +kernel
theorem dX7_flow_21 : decode cX7_flow 21 = .ok (.aload_n 0, 1) := by decide +kernel
theorem dX7_flow_22 : decode cX7_flow 22 = .ok (.iload_n 2, 1) := by decide +kernel
theorem dX7_flow_23 : decode cX7_flow 23 = .ok (.iload_n 3, 1) := by decide +kernel
theorem dX7_flow_24 : decode cX7_flow 24 = .ok (.iload 4, 2) := by decide +kernel
theorem dX7_flow_26 : decode cX7_flow 26 = .ok (.iload 5, 2) := by decide +kernel
theorem dX7_flow_28 : decode cX7_flow 28 = .ok (.i2l, 1) := by decide +kernel
theorem dX7_flow_29 : decode cX7_flow 29 = .ok (.invokevirtual 100, 3) := by decide +kernel
theorem dX7_flow_32 : decode cX7_flow 32 = .ok (.istore 6, 2) := by decide +kernel
theorem dX7_flow_34 : decode cX7_flow 34 = .ok (.iload 6, 2) := by decide +kernel
theorem dX7_flow_36 : decode cX7_flow 36 = .ok (.ifCond .ge 6, 3) := by decide +kernel
theorem dX7_flow_39 : decode cX7_flow 39 = .ok (.iload 6, 2) := by decide +kernel
theorem dX7_flow_41 : decode cX7_flow 41 = .ok (.ireturn, 1) := by decide +kernel
theorem dX7_flow_42 : decode cX7_flow 42 = .ok (.bipush 60, 2) := by decide +kernel
theorem dX7_flow_44 : decode cX7_flow 44 = .ok (.iload_n 2, 1) := by decide +kernel
theorem dX7_flow_45 : decode cX7_flow 45 = .ok (.imul, 1) := by decide +kernel
theorem dX7_flow_46 : decode cX7_flow 46 = .ok (.iload 4, 2) := by decide +kernel
theorem dX7_flow_48 : decode cX7_flow 48 = .ok (.iadd, 1) := by decide +kernel
theorem dX7_flow_49 : decode cX7_flow 49 = .ok (.istore 7, 2) := by decide +kernel
theorem dX7_flow_51 : decode cX7_flow 51 = .ok (.aload_n 0, 1) := by decide +kernel
theorem dX7_flow_52 : decode cX7_flow 52 = .ok (.iload 7, 2) := by decide +kernel
theorem dX7_flow_54 : decode cX7_flow 54 = .ok (.iload 5, 2) := by decide +kernel
theorem dX7_flow_56 : decode cX7_flow 56 = .ok (.invokevirtual 196, 3) := by decide +kernel
theorem dX7_flow_59 : decode cX7_flow 59 = .ok (.ifCond .ge 16, 3) := by decide +kernel
theorem dX7_flow_62 : decode cX7_flow 62 = .ok (.aload_n 0, 1) := by decide +kernel
theorem dX7_flow_63 : decode cX7_flow 63 = .ok (.aload_n 0, 1) := by decide +kernel
theorem dX7_flow_64 : decode cX7_flow 64 = .ok (.iload 7, 2) := by decide +kernel
theorem dX7_flow_66 : decode cX7_flow 66 = .ok (.iload 5, 2) := by decide +kernel
theorem dX7_flow_68 : decode cX7_flow 68 = .ok (.invokevirtual 196, 3) := by decide +kernel
theorem dX7_flow_71 : decode cX7_flow 71 = .ok (.invokevirtual 71, 3) := by decide +kernel
theorem dX7_flow_74 : decode cX7_flow 74 = .ok (.ireturn, 1) := by decide +kernel
theorem dX7_flow_75 : decode cX7_flow 75 = .ok (.aload_n 0, 1) := by decide +kernel
theorem dX7_flow_76 : decode cX7_flow 76 = .ok (.getfield 190, 3) := by decide +kernel
theorem dX7_flow_79 : decode cX7_flow 79 = .ok (.iconst 5, 1) := by decide +kernel
theorem dX7_flow_80 : decode cX7_flow 80 = .ok (.if_icmp .ne 10, 3) := by decide +kernel
theorem dX7_flow_83 : decode cX7_flow 83 = .ok (.aload_n 0, 1) := by decide +kernel
theorem dX7_flow_84 : decode cX7_flow 84 = .ok (.bipush (-4), 2) := by decide +kernel
theorem dX7_flow_86 : decode cX7_flow 86 = .ok (.invokevirtual 71, 3) := by decide +kernel
theorem dX7_flow_89 : decode cX7_flow 89 = .ok (.ireturn, 1) := by decide +kernel
theorem dX7_flow_90 : decode cX7_flow 90 = .ok (.aload_n 0, 1) := by decide +kernel
theorem dX7_flow_91 : decode cX7_flow 91 = .ok (.getfield 28, 3) := by decide +kernel
theorem dX7_flow_94 : decode cX7_flow 94 = .ok (.aload_n 0, 1) := by decide +kernel
theorem dX7_flow_95 : decode cX7_flow 95 = .ok (.getfield 190, 3) := by decide +kernel
theorem dX7_flow_98 : decode cX7_flow 98 = .ok (.iload_n 1, 1) := by decide +kernel
theorem dX7_flow_99 : decode cX7_flow 99 = .ok (.iastore, 1) := by decide +kernel
theorem dX7_flow_100 : decode cX7_flow 100 = .ok (.aload_n 0, 1) := by decide +kernel
theorem dX7_flow_101 : decode cX7_flow 101 = .ok (.getfield 31, 3) := by decide +kernel
theorem dX7_flow_104 : decode cX7_flow 104 = .ok (.aload_n 0, 1) := by decide +kernel
theorem dX7_flow_105 : decode cX7_flow 105 = .ok (.getfield 190, 3) := by decide +kernel
theorem dX7_flow_108 : decode cX7_flow 108 = .ok (.iload 5, 2) := by decide +kernel
theorem dX7_flow_110 : decode cX7_flow 110 = .ok (.iastore, 1) := by decide +kernel
theorem dX7_flow_111 : decode cX7_flow 111 = .ok (.iconst 0, 1) := by decide +kernel
theorem dX7_flow_112 : decode cX7_flow 112 = .ok (.istore 8, 2) := by decide +kernel
theorem dX7_flow_114 : decode cX7_flow 114 = .ok (.iload 8, 2) := by decide +kernel
theorem dX7_flow_116 : decode cX7_flow 116 = .ok (.iload 5, 2) := by decide +kernel
theorem dX7_flow_118 : decode cX7_flow 118 = .ok (.if_icmp .ge 33, 3) := by decide +kernel
theorem dX7_flow_121 : decode cX7_flow 121 = .ok (.aload_n 0, 1) := by decide +kernel
theorem dX7_flow_122 : decode cX7_flow 122 = .ok (.getfield 34, 3) := by decide +kernel
theorem dX7_flow_125 : decode cX7_flow 125 = .ok (.iconst 4, 1) := by decide +kernel
theorem dX7_flow_126 : decode cX7_flow 126 = .ok (.aload_n 0, 1) := by decide +kernel
theorem dX7_flow_127 : decode cX7_flow 127 = .ok (.getfield 190, 3) := by decide +kernel
theorem dX7_flow_130 : decode cX7_flow 130 = .ok (.imul, 1) := by decide +kernel
theorem dX7_flow_131 : decode cX7_flow 131 = .ok (.iload 8, 2) := by decide +kernel
theorem dX7_flow_133 : decode cX7_flow 133 = .ok (.iadd, 1) := by decide +kernel
theorem dX7_flow_134 : decode cX7_flow 134 = .ok (.aload_n 0, 1) := by decide +kernel
theorem dX7_flow_135 : decode cX7_flow 135 = .ok (.getfield 49, 3) := by decide +kernel
theorem dX7_flow_138 : decode cX7_flow 138 = .ok (.iload 7, 2) := by decide +kernel
theorem dX7_flow_140 : decode cX7_flow 140 = .ok (.iload 8, 2) := by decide +kernel
theorem dX7_flow_142 : decode cX7_flow 142 = .ok (.iadd, 1) := by decide +kernel
theorem dX7_flow_143 : decode cX7_flow 143 = .ok (.iaload, 1) := by decide +kernel
theorem dX7_flow_144 : decode cX7_flow 144 = .ok (.iastore, 1) := by decide +kernel
theorem dX7_flow_145 : decode cX7_flow 145 = .ok (.iinc 8 1, 3) := by decide +kernel
theorem dX7_flow_148 : decode cX7_flow 148 = .ok (.goto (-34), 3) := by decide +kernel
theorem dX7_flow_151 : decode cX7_flow 151 = .ok (.aload_n 0, 1) := by decide +kernel
theorem dX7_flow_152 : decode cX7_flow 152 = .ok (.dup, 1) := by decide +kernel
theorem dX7_flow_153 : decode cX7_flow 153 = .ok (.getfield 190, 3) := by decide +kernel
theorem dX7_flow_156 : decode cX7_flow 156 = .ok (.iconst 1, 1) := by decide +kernel
theorem dX7_flow_157 : decode cX7_flow 157 = .ok (.iadd, 1) := by decide +kernel
theorem dX7_flow_158 : decode cX7_flow 158 = .ok (.putfield 190, 3) := by decide +kernel
theorem dX7_flow_161 : decode cX7_flow 161 = .ok (.aload_n 0, 1) := by decide +kernel
theorem dX7_flow_162 : decode cX7_flow 162 = .ok (.aload_n 0, 1) := by decide +kernel
theorem dX7_flow_163 : decode cX7_flow 163 = .ok (.getfield 190, 3) := by decide +kernel
theorem dX7_flow_166 : decode cX7_flow 166 = .ok (.iconst 1, 1) := by decide +kernel
theorem dX7_flow_167 : decode cX7_flow 167 = .ok (.isub, 1) := by decide +kernel
theorem dX7_flow_168 : decode cX7_flow 168 = .ok (.invokevirtual 71, 3) := by decide +kernel
theorem dX7_flow_171 : decode cX7_flow 171 = .ok (.ireturn, 1) := by decide +kernel
theorem dX7_ofFlow_0 : decode cX7_ofFlow 0 = .ok (.aload_n 0, 1) := by decide +kernel
theorem dX7_ofFlow_1 : decode cX7_ofFlow 1 = .ok (.iload_n 1, 1) := by decide +kernel
theorem dX7_ofFlow_2 : decode cX7_ofFlow 2 = .ok (.invokevirtual 199, 3) := by decide +kernel
theorem dX7_ofFlow_5 : decode cX7_ofFlow 5 = .ok (.ifCond .eq 5, 3) := by decide +kernel
theorem dX7_ofFlow_8 : decode cX7_ofFlow 8 = .ok (.iconst (-1), 1) := by decide +kernel
theorem dX7_ofFlow_9 : decode cX7_ofFlow 9 = .ok (.ireturn, 1) := by decide +kernel
theorem dX7_ofFlow_10 : decode cX7_ofFlow 10 = .ok (.iload_n 2, 1) := by decide +kernel
theorem dX7_ofFlow_11 : decode cX7_ofFlow 11 = .ok (.ifCond .eq 8, 3) := by decide +kernel
theorem dX7_ofFlow_14 : decode cX7_ofFlow 14 = .ok (.iload_n 2, 1) := by decide +kernel
theorem dX7_ofFlow_15 : decode cX7_ofFlow 15 = .ok (.iconst 1, 1) := by decide +kernel
theorem dX7_ofFlow_16 : decode cX7_ofFlow 16 = .ok (.if_icmp .ne 23, 3) := by decide +kernel
theorem dX7_ofFlow_19 : decode cX7_ofFlow 19 = .ok (.iload_n 2, 1) := by decide +kernel
theorem dX7_ofFlow_20 : decode cX7_ofFlow 20 = .ok (.ifCond .ne 12, 3) := by decide +kernel
theorem dX7_ofFlow_23 : decode cX7_ofFlow 23 = .ok (.aload_n 0, 1) := by decide +kernel
theorem dX7_ofFlow_24 : decode cX7_ofFlow 24 = .ok (.getfield 28, 3) := by decide +kernel
theorem dX7_ofFlow_27 : decode cX7_ofFlow 27 = .ok (.iload_n 1, 1) := by decide +kernel
theorem dX7_ofFlow_28 : decode cX7_ofFlow 28 = .ok (.iaload, 1) := by decide +kernel
theorem dX7_ofFlow_29 : decode cX7_ofFlow 29 = .ok (.goto 9, 3) := by decide +kernel
theorem dX7_ofFlow_32 : decode cX7_ofFlow 32 = .ok (.aload_n 0, 1) := by decide +kernel
theorem dX7_ofFlow_33 : decode cX7_ofFlow 33 = .ok (.getfield 31, 3) := by decide +kernel
theorem dX7_ofFlow_36 : decode cX7_ofFlow 36 = .ok (.iload_n 1, 1) := by decide +kernel
theorem dX7_ofFlow_37 : decode cX7_ofFlow 37 = .ok (.iaload, 1) := by decide +kernel
theorem dX7_ofFlow_38 : decode cX7_ofFlow 38 = .ok (.ireturn, 1) := by decide +kernel
theorem dX7_ofFlow_39 : decode cX7_ofFlow 39 = .ok (.iload_n 2, 1) := by decide +kernel
theorem dX7_ofFlow_40 : decode cX7_ofFlow 40 = .ok (.i2l, 1) := by decide +kernel
theorem dX7_ofFlow_41 : decode cX7_ofFlow 41 = .ok (.ldc2_w 202, 3) := by decide +kernel
theorem dX7_ofFlow_44 : decode cX7_ofFlow 44 = .ok (.ldc2_w 204, 3) := by decide +kernel
theorem dX7_ofFlow_47 : decode cX7_ofFlow 47 = .ok (.aload_n 0, 1) := by decide +kernel
theorem dX7_ofFlow_48 : decode cX7_ofFlow 48 = .ok (.getfield 31, 3) := by decide +kernel
theorem dX7_ofFlow_51 : decode cX7_ofFlow 51 = .ok (.iload_n 1, 1) := by decide +kernel
theorem dX7_ofFlow_52 : decode cX7_ofFlow 52 = .ok (.iaload, 1) := by decide +kernel
