theorem dX7_ofFlow_53 : decode cX7_ofFlow 53 = .ok (.i2l, 1) := by decide +kernel
theorem dX7_ofFlow_54 : decode cX7_ofFlow 54 = .ok (.ladd, 1) := by decide +kernel
theorem dX7_ofFlow_55 : decode cX7_ofFlow 55 = .ok (.invokestatic 67, 3) := by decide +kernel
theorem dX7_ofFlow_58 : decode cX7_ofFlow 58 = .ok (.ifCond .eq 19, 3) := by decide +kernel
theorem dX7_ofFlow_61 : decode cX7_ofFlow 61 = .ok (.aload_n 0, 1) := by decide +kernel
theorem dX7_ofFlow_62 : decode cX7_ofFlow 62 = .ok (.getfield 34, 3) := by decide +kernel
theorem dX7_ofFlow_65 : decode cX7_ofFlow 65 = .ok (.iconst 4, 1) := by decide +kernel
theorem dX7_ofFlow_66 : decode cX7_ofFlow 66 = .ok (.iload_n 1, 1) := by decide +kernel
theorem dX7_ofFlow_67 : decode cX7_ofFlow 67 = .ok (.imul, 1) := by decide +kernel
theorem dX7_ofFlow_68 : decode cX7_ofFlow 68 = .ok (.iload_n 2, 1) := by decide +kernel
theorem dX7_ofFlow_69 : decode cX7_ofFlow 69 = .ok (.iadd, 1) := by decide +kernel
theorem dX7_ofFlow_70 : decode cX7_ofFlow 70 = .ok (.bipush 10, 2) := by decide +kernel
theorem dX7_ofFlow_72 : decode cX7_ofFlow 72 = .ok (.isub, 1) := by decide +kernel
theorem dX7_ofFlow_73 : decode cX7_ofFlow 73 = .ok (.iaload, 1) := by decide +kernel
theorem dX7_ofFlow_74 : decode cX7_ofFlow 74 = .ok (.goto 5, 3) := by decide +kernel
theorem dX7_ofFlow_77 : decode cX7_ofFlow 77 = .ok (.bipush (-2), 2) := by decide +kernel
theorem dX7_ofFlow_79 : decode cX7_ofFlow 79 = .ok (.ireturn, 1) := by decide +kernel
theorem dX7_rule_0 : decode cX7_rule 0 = .ok (.iload_n 1, 1) := by decide +kernel
theorem dX7_rule_1 : decode cX7_rule 1 = .ok (.i2l, 1) := by decide +kernel
theorem dX7_rule_2 : decode cX7_rule 2 = .ok (.lconst 0, 1) := by decide +kernel
theorem dX7_rule_3 : decode cX7_rule 3 = .ok (.ldc2_w 65, 3) := by decide +kernel
theorem dX7_rule_6 : decode cX7_rule 6 = .ok (.invokestatic 67, 3) := by decide +kernel
theorem dX7_rule_9 : decode cX7_rule 9 = .ok (.ifCond .ne 6, 3) := by decide +kernel
theorem dX7_rule_12 : decode cX7_rule 12 = .ok (.bipush (-2), 2) := by decide +kernel
theorem dX7_rule_14 : decode cX7_rule 14 = .ok (.ireturn, 1) := by decide +kernel
theorem dX7_rule_15 : decode cX7_rule 15 = .ok (.aload_n 0, 1) := by decide +kernel
theorem dX7_rule_16 : decode cX7_rule 16 = .ok (.getfield 206, 3) := by decide +kernel
theorem dX7_rule_19 : decode cX7_rule 19 = .ok (.istore_n 2, 1) := by decide +kernel
theorem dX7_rule_20 : decode cX7_rule 20 = .ok (.aload_n 0, 1) := by decide +kernel
theorem dX7_rule_21 : decode cX7_rule 21 = .ok (.iload_n 1, 1) := by decide +kernel
theorem dX7_rule_22 : decode cX7_rule 22 = .ok (.putfield 206, 3) := by decide +kernel
theorem dX7_rule_25 : decode cX7_rule 25 = .ok (.iload_n 2, 1) := by decide +kernel
theorem dX7_rule_26 : decode cX7_rule 26 = .ok (.ireturn, 1) := by decide +kernel
theorem dX7_layRounds_0 : decode cX7_layRounds 0 = .ok (.iconst 0, 1) := by decide +kernel
theorem dX7_layRounds_1 : decode cX7_layRounds 1 = .ok (.istore_n 1, 1) := by decide +kernel
theorem dX7_layRounds_2 : decode cX7_layRounds 2 = .ok (.iload_n 1, 1) := by decide +kernel
theorem dX7_layRounds_3 : decode cX7_layRounds 3 = .ok (.bipush 6, 2) := by decide +kernel
theorem dX7_layRounds_5 : decode cX7_layRounds 5 = .ok (.if_icmp .ge 16, 3) := by decide +kernel
theorem dX7_layRounds_8 : decode cX7_layRounds 8 = .ok (.aload_n 0, 1) := by decide +kernel
theorem dX7_layRounds_9 : decode cX7_layRounds 9 = .ok (.getfield 37, 3) := by decide +kernel
theorem dX7_layRounds_12 : decode cX7_layRounds 12 = .ok (.iload_n 1, 1) := by decide +kernel
theorem dX7_layRounds_13 : decode cX7_layRounds 13 = .ok (.iconst 0, 1) := by decide +kernel
theorem dX7_layRounds_14 : decode cX7_layRounds 14 = .ok (.iastore, 1) := by decide +kernel
theorem dX7_layRounds_15 : decode cX7_layRounds 15 = .ok (.iinc 1 1, 3) := by decide +kernel
theorem dX7_layRounds_18 : decode cX7_layRounds 18 = .ok (.goto (-16), 3) := by decide +kernel
theorem dX7_layRounds_21 : decode cX7_layRounds 21 = .ok (.iconst 1, 1) := by decide +kernel
theorem dX7_layRounds_22 : decode cX7_layRounds 22 = .ok (.istore_n 1, 1) := by decide +kernel
theorem dX7_layRounds_23 : decode cX7_layRounds 23 = .ok (.iconst 0, 1) := by decide +kernel
theorem dX7_layRounds_24 : decode cX7_layRounds 24 = .ok (.istore_n 2, 1) := by decide +kernel
theorem dX7_layRounds_25 : decode cX7_layRounds 25 = .ok (.iload_n 2, 1) := by decide +kernel
theorem dX7_layRounds_26 : decode cX7_layRounds 26 = .ok (.bipush 7, 2) := by decide +kernel
theorem dX7_layRounds_28 : decode cX7_layRounds 28 = .ok (.if_icmp .ge 132, 3) := by decide +kernel
theorem dX7_layRounds_31 : decode cX7_layRounds 31 = .ok (.iload_n 1, 1) := by decide +kernel
theorem dX7_layRounds_32 : decode cX7_layRounds 32 = .ok (.ifCond .eq 128, 3) := by decide +kernel
theorem dX7_layRounds_35 : decode cX7_layRounds 35 = .ok (.iconst 0, 1) := by decide +kernel
theorem dX7_layRounds_36 : decode cX7_layRounds 36 = .ok (.istore_n 1, 1) := by decide +kernel
theorem dX7_layRounds_37 : decode cX7_layRounds 37 = .ok (.iconst 0, 1) := by decide +kernel
theorem dX7_layRounds_38 : decode cX7_layRounds 38 = .ok (.istore_n 3, 1) := by decide +kernel
theorem dX7_layRounds_39 : decode cX7_layRounds 39 = .ok (.iload_n 3, 1) := by decide +kernel
theorem dX7_layRounds_40 : decode cX7_layRounds 40 = .ok (.aload_n 0, 1) := by decide +kernel
theorem dX7_layRounds_41 : decode cX7_layRounds 41 = .ok (.getfield 190, 3) := by decide +kernel
theorem dX7_layRounds_44 : decode cX7_layRounds 44 = .ok (.if_icmp .ge 110, 3) := by decide +kernel
theorem dX7_layRounds_47 : decode cX7_layRounds 47 = .ok (.iconst 1, 1) := by decide +kernel
theorem dX7_layRounds_48 : decode cX7_layRounds 48 = .ok (.istore 4, 2) := by decide +kernel
theorem dX7_layRounds_50 : decode cX7_layRounds 50 = .ok (.iload 4, 2) := by decide +kernel
theorem dX7_layRounds_52 : decode cX7_layRounds 52 = .ok (.aload_n 0, 1) := by decide +kernel
theorem dX7_layRounds_53 : decode cX7_layRounds 53 = .ok (.getfield 31, 3) := by decide +kernel
theorem dX7_layRounds_56 : decode cX7_layRounds 56 = .ok (.iload_n 3, 1) := by decide +kernel
theorem dX7_layRounds_57 : decode cX7_layRounds 57 = .ok (.iaload, 1) := by decide +kernel
theorem dX7_layRounds_58 : decode cX7_layRounds 58 = .ok (.if_icmp .ge 90, 3) := by decide +kernel
theorem dX7_layRounds_61 : decode cX7_layRounds 61 = .ok (.aload_n 0, 1) := by decide +kernel
theorem dX7_layRounds_62 : decode cX7_layRounds 62 = .ok (.getfield 34, 3) := by decide +kernel
theorem dX7_layRounds_65 : decode cX7_layRounds 65 = .ok (.iconst 4, 1) := by decide +kernel
theorem dX7_layRounds_66 : decode cX7_layRounds 66 = .ok (.iload_n 3, 1) := by decide +kernel
theorem dX7_layRounds_67 : decode cX7_layRounds 67 = .ok (.imul, 1) := by decide +kernel
theorem dX7_layRounds_68 : decode cX7_layRounds 68 = .ok (.iload 4, 2) := by decide +kernel
theorem dX7_layRounds_70 : decode cX7_layRounds 70 = .ok (.iadd, 1) := by decide +kernel
theorem dX7_layRounds_71 : decode cX7_layRounds 71 = .ok (.iconst 1, 1) := by decide +kernel
theorem dX7_layRounds_72 : decode cX7_layRounds 72 = .ok (.isub, 1) := by decide +kernel
theorem dX7_layRounds_73 : decode cX7_layRounds 73 = .ok (.iaload, 1) := by decide +kernel
theorem dX7_layRounds_74 : decode cX7_layRounds 74 = .ok (.istore 5, 2) := by decide +kernel
theorem dX7_layRounds_76 : decode cX7_layRounds 76 = .ok (.aload_n 0, 1) := by decide +kernel
theorem dX7_layRounds_77 : decode cX7_layRounds 77 = .ok (.getfield 34, 3) := by decide +kernel
theorem dX7_layRounds_80 : decode cX7_layRounds 80 = .ok (.iconst 4, 1) := by decide +kernel
theorem dX7_layRounds_81 : decode cX7_layRounds 81 = .ok (.iload_n 3, 1) := by decide +kernel
theorem dX7_layRounds_82 : decode cX7_layRounds 82 = .ok (.imul, 1) := by decide +kernel
theorem dX7_layRounds_83 : decode cX7_layRounds 83 = .ok (.iload 4, 2) := by decide +kernel
theorem dX7_layRounds_85 : decode cX7_layRounds 85 = .ok (.iadd, 1) := by decide +kernel
theorem dX7_layRounds_86 : decode cX7_layRounds 86 = .ok (.iaload, 1) := by decide +kernel
theorem dX7_layRounds_87 : decode cX7_layRounds 87 = .ok (.istore 6, 2) := by decide +kernel
theorem dX7_layRounds_89 : decode cX7_layRounds 89 = .ok (.iload_n 1, 1) := by decide +kernel
theorem dX7_layRounds_90 : decode cX7_layRounds 90 = .ok (.ifCond .ne 20, 3) := by decide +kernel
theorem dX7_layRounds_93 : decode cX7_layRounds 93 = .ok (.aload_n 0, 1) := by decide +kernel
theorem dX7_layRounds_94 : decode cX7_layRounds 94 = .ok (.getfield 37, 3) := by decide +kernel
theorem dX7_layRounds_97 : decode cX7_layRounds 97 = .ok (.iload 6, 2) := by decide +kernel
theorem dX7_layRounds_99 : decode cX7_layRounds 99 = .ok (.iaload, 1) := by decide +kernel
theorem dX7_layRounds_100 : decode cX7_layRounds 100 = .ok (.aload_n 0, 1) := by decide +kernel
theorem dX7_layRounds_101 : decode cX7_layRounds 101 = .ok (.getfield 37, 3) := by decide +kernel
theorem dX7_layRounds_104 : decode cX7_layRounds 104 = .ok (.iload 5, 2) := by decide +kernel
theorem dX7_layRounds_106 : decode cX7_layRounds 106 = .ok (.iaload, 1) := by decide +kernel
theorem dX7_layRounds_107 : decode cX7_layRounds 107 = .ok (.if_icmp .gt 7, 3) := by decide +kernel
theorem dX7_layRounds_110 : decode cX7_layRounds 110 = .ok (.iconst 1, 1) := by decide +kernel
theorem dX7_layRounds_111 : decode cX7_layRounds 111 = .ok (.goto 4, 3) := by decide +kernel
theorem dX7_layRounds_114 : decode cX7_layRounds 114 = .ok (.iconst 0, 1) := by decide +kernel
theorem dX7_layRounds_115 : decode cX7_layRounds 115 = .ok (.istore_n 1, 1) := by decide +kernel
theorem dX7_layRounds_116 : decode cX7_layRounds 116 = .ok (.aload_n 0, 1) := by decide +kernel
theorem dX7_layRounds_117 : decode cX7_layRounds 117 = .ok (.getfield 37, 3) := by decide +kernel
theorem dX7_layRounds_120 : decode cX7_layRounds 120 = .ok (.iload 6, 2) := by decide +kernel
theorem dX7_layRounds_122 : decode cX7_layRounds 122 = .ok (.aload_n 0, 1) := by decide +kernel
theorem dX7_layRounds_123 : decode cX7_layRounds 123 = .ok (.getfield 37, 3) := by decide +kernel
theorem dX7_layRounds_126 : decode cX7_layRounds 126 = .ok (.iload 6, 2) := by decide +kernel
theorem dX7_layRounds_128 : decode cX7_layRounds 128 = .ok (.iaload, 1) := by decide +kernel
theorem dX7_layRounds_129 : decode cX7_layRounds 129 = .ok (.aload_n 0, 1) := by decide +kernel
theorem dX7_layRounds_130 : decode cX7_layRounds 130 = .ok (.getfield 37, 3) := by decide +kernel
theorem dX7_layRounds_133 : decode cX7_layRounds 133 = .ok (.iload 5, 2) := by decide +kernel
theorem dX7_layRounds_135 : decode cX7_layRounds 135 = .ok (.iaload, 1) := by decide +kernel
theorem dX7_layRounds_136 : decode cX7_layRounds 136 = .ok (.iconst 1, 1) := by decide +kernel
theorem dX7_layRounds_137 : decode cX7_layRounds 137 = .ok (.iadd, 1) := by decide +kernel
theorem dX7_layRounds_138 : decode cX7_layRounds 138 = .ok (.invokestatic 171, 3) := by decide +kernel
theorem dX7_layRounds_141 : decode cX7_layRounds 141 = .ok (.iastore, 1) := by decide +kernel
theorem dX7_layRounds_142 : decode cX7_layRounds 142 = .ok (.iinc 4 1, 3) := by decide +kernel
theorem dX7_layRounds_145 : decode cX7_layRounds 145 = .ok (.goto (-95), 3) := by decide +kernel
theorem dX7_layRounds_148 : decode cX7_layRounds 148 = .ok (.iinc 3 1, 3) := by decide +kernel
theorem dX7_layRounds_151 : decode cX7_layRounds 151 = .ok (.goto (-112), 3) := by decide +kernel
theorem dX7_layRounds_154 : decode cX7_layRounds 154 = .ok (.iinc 2 1, 3) := by decide +kernel
theorem dX7_layRounds_157 : decode cX7_layRounds 157 = .ok (.goto (-132), 3) := by decide +kernel
theorem dX7_layRounds_160 : decode cX7_layRounds 160 = .ok (.iload_n 1, 1) := by decide +kernel
theorem dX7_layRounds_161 : decode cX7_layRounds 161 = .ok (.ifCond .ne 7, 3) := by decide +kernel
theorem dX7_layRounds_164 : decode cX7_layRounds 164 = .ok (.iconst 1, 1) := by decide +kernel
theorem dX7_layRounds_165 : decode cX7_layRounds 165 = .ok (.goto 4, 3) := by decide +kernel
theorem dX7_layRounds_168 : decode cX7_layRounds 168 = .ok (.iconst 0, 1) := by decide +kernel
theorem dX7_layRounds_169 : decode cX7_layRounds 169 = .ok (.ireturn, 1) := by decide +kernel
theorem dX7_ring_0 : decode cX7_ring 0 = .ok (.aload_n 0, 1) := by decide +kernel
theorem dX7_ring_1 : decode cX7_ring 1 = .ok (.invokevirtual 209, 3) := by decide +kernel
theorem dX7_ring_4 : decode cX7_ring 4 = .ok (.ifCond .eq 7, 3) := by decide +kernel
theorem dX7_ring_7 : decode cX7_ring 7 = .ok (.iconst 0, 1) := by decide +kernel
theorem dX7_ring_8 : decode cX7_ring 8 = .ok (.goto 4, 3) := by decide +kernel
theorem dX7_ring_11 : decode cX7_ring 11 = .ok (.iconst 1, 1) := by decide +kernel
theorem dX7_ring_12 : decode cX7_ring 12 = .ok (.ireturn, 1) := by decide +kernel
theorem dX7_areServed_0 : decode cX7_areServed 0 = .ok (.iconst 1, 1) := by decide +kernel
theorem dX7_areServed_1 : decode cX7_areServed 1 = .ok (.istore_n 1, 1) := by decide +kernel
theorem dX7_areServed_2 : decode cX7_areServed 2 = .ok (.iconst 0, 1) := by decide +kernel
theorem dX7_areServed_3 : decode cX7_areServed 3 = .ok (.istore_n 2, 1) := by decide +kernel
theorem dX7_areServed_4 : decode cX7_areServed 4 = .ok (.iload_n 2, 1) := by decide +kernel
theorem dX7_areServed_5 : decode cX7_areServed 5 = .ok (.aload_n 0, 1) := by decide +kernel
theorem dX7_areServed_6 : decode cX7_areServed 6 = .ok (.getfield 190, 3) := by decide +kernel
theorem dX7_areServed_9 : decode cX7_areServed 9 = .ok (.if_icmp .ge 55, 3) := by decide +kernel
theorem dX7_areServed_12 : decode cX7_areServed 12 = .ok (.iconst 0, 1) := by decide +kernel
theorem dX7_areServed_13 : decode cX7_areServed 13 = .ok (.istore_n 3, 1) := by decide +kernel
theorem dX7_areServed_14 : decode cX7_areServed 14 = .ok (.iload_n 3, 1) := by decide +kernel
theorem dX7_areServed_15 : decode cX7_areServed 15 = .ok (.aload_n 0, 1) := by decide +kernel
theorem dX7_areServed_16 : decode cX7_areServed 16 = .ok (.getfield 31, 3) := by decide +kernel
theorem dX7_areServed_19 : decode cX7_areServed 19 = .ok (.iload_n 2, 1) := by decide +kernel
theorem dX7_areServed_20 : decode cX7_areServed 20 = .ok (.iaload, 1) := by decide +kernel
theorem dX7_areServed_21 : decode cX7_areServed 21 = .ok (.if_icmp .ge 37, 3) := by decide +kernel
theorem dX7_areServed_24 : decode cX7_areServed 24 = .ok (.iload_n 1, 1) := by decide +kernel
theorem dX7_areServed_25 : decode cX7_areServed 25 = .ok (.ifCond .eq 25, 3) := by decide +kernel
theorem dX7_areServed_28 : decode cX7_areServed 28 = .ok (.aload_n 0, 1) := by decide +kernel
theorem dX7_areServed_29 : decode cX7_areServed 29 = .ok (.getfield 25, 3) := by decide +kernel
theorem dX7_areServed_32 : decode cX7_areServed 32 = .ok (.aload_n 0, 1) := by decide +kernel
theorem dX7_areServed_33 : decode cX7_areServed 33 = .ok (.getfield 34, 3) := by decide +kernel
theorem dX7_areServed_36 : decode cX7_areServed 36 = .ok (.iconst 4, 1) := by decide +kernel
theorem dX7_areServed_37 : decode cX7_areServed 37 = .ok (.iload_n 2, 1) := by decide +kernel
theorem dX7_areServed_38 : decode cX7_areServed 38 = .ok (.imul, 1) := by decide +kernel
theorem dX7_areServed_39 : decode cX7_areServed 39 = .ok (.iload_n 3, 1) := by decide +kernel
theorem dX7_areServed_40 : decode cX7_areServed 40 = .ok (.iadd, 1) := by decide +kernel
theorem dX7_areServed_41 : decode cX7_areServed 41 = .ok (.iaload, 1) := by decide +kernel
theorem dX7_areServed_42 : decode cX7_areServed 42 = .ok (.iaload, 1) := by decide +kernel
theorem dX7_areServed_43 : decode cX7_areServed 43 = .ok (.ifCond .lt 7, 3) := by decide +kernel
theorem dX7_areServed_46 : decode cX7_areServed 46 = .ok (.iconst 1, 1) := by decide +kernel
theorem dX7_areServed_47 : decode cX7_areServed 47 = .ok (.goto 4, 3) := by decide +kernel
theorem dX7_areServed_50 : decode cX7_areServed 50 = .ok (.iconst 0, 1) := by decide +kernel
theorem dX7_areServed_51 : decode cX7_areServed 51 = .ok (.istore_n 1, 1) := by decide +kernel
theorem dX7_areServed_52 : decode cX7_areServed 52 = .ok (.iinc 3 1, 3) := by decide +kernel
theorem dX7_areServed_55 : decode cX7_areServed 55 = .ok (.goto (-41), 3) := by decide +kernel
theorem dX7_areServed_58 : decode cX7_areServed 58 = .ok (.iinc 2 1, 3) := by decide +kernel
theorem dX7_areServed_61 : decode cX7_areServed 61 = .ok (.goto (-57), 3) := by decide +kernel
theorem dX7_areServed_64 : decode cX7_areServed 64 = .ok (.iload_n 1, 1) := by decide +kernel
theorem dX7_areServed_65 : decode cX7_areServed 65 = .ok (.ireturn, 1) := by decide +kernel
theorem dX7_placeOf_0 : decode cX7_placeOf 0 = .ok (.iconst 0, 1) := by decide +kernel
theorem dX7_placeOf_1 : decode cX7_placeOf 1 = .ok (.istore_n 3, 1) := by decide +kernel
theorem dX7_placeOf_2 : decode cX7_placeOf 2 = .ok (.iload_n 3, 1) := by decide +kernel
theorem dX7_placeOf_3 : decode cX7_placeOf 3 = .ok (.aload_n 0, 1) := by decide +kernel
theorem dX7_placeOf_4 : decode cX7_placeOf 4 = .ok (.getfield 31, 3) := by decide +kernel
theorem dX7_placeOf_7 : decode cX7_placeOf 7 = .ok (.iload_n 1, 1) := by decide +kernel
theorem dX7_placeOf_8 : decode cX7_placeOf 8 = .ok (.iaload, 1) := by decide +kernel
theorem dX7_placeOf_9 : decode cX7_placeOf 9 = .ok (.if_icmp .ge 25, 3) := by decide +kernel
theorem dX7_placeOf_12 : decode cX7_placeOf 12 = .ok (.aload_n 0, 1) := by decide +kernel
theorem dX7_placeOf_13 : decode cX7_placeOf 13 = .ok (.getfield 34, 3) := by decide +kernel
theorem dX7_placeOf_16 : decode cX7_placeOf 16 = .ok (.iconst 4, 1) := by decide +kernel
theorem dX7_placeOf_17 : decode cX7_placeOf 17 = .ok (.iload_n 1, 1) := by decide +kernel
theorem dX7_placeOf_18 : decode cX7_placeOf 18 = .ok (.imul, 1) := by decide +kernel
theorem dX7_placeOf_19 : decode cX7_placeOf 19 = .ok (.iload_n 3, 1) := by decide +kernel
theorem dX7_placeOf_20 : decode cX7_placeOf 20 = .ok (.iadd, 1) := by decide +kernel
theorem dX7_placeOf_21 : decode cX7_placeOf 21 = .ok (.iaload, 1) := by decide +kernel
theorem dX7_placeOf_22 : decode cX7_placeOf 22 = .ok (.iload_n 2, 1) := by decide +kernel
theorem dX7_placeOf_23 : decode cX7_placeOf 23 = .ok (.if_icmp .ne 5, 3) := by decide +kernel
theorem dX7_placeOf_26 : decode cX7_placeOf 26 = .ok (.iload_n 3, 1) := by decide +kernel
theorem dX7_placeOf_27 : decode cX7_placeOf 27 = .ok (.ireturn, 1) := by decide +kernel
theorem dX7_placeOf_28 : decode cX7_placeOf 28 = .ok (.iinc 3 1, 3) := by decide +kernel
theorem dX7_placeOf_31 : decode cX7_placeOf 31 = .ok (.goto (-29), 3) := by decide +kernel
theorem dX7_placeOf_34 : decode cX7_placeOf 34 = .ok (.bipush (-9), 2) := by decide +kernel
theorem dX7_placeOf_36 : decode cX7_placeOf 36 = .ok (.ireturn, 1) := by decide +kernel
theorem dX7_layZero_0 : decode cX7_layZero 0 = .ok (.iconst 0, 1) := by decide +kernel
theorem dX7_layZero_1 : decode cX7_layZero 1 = .ok (.istore_n 2, 1) := by decide +kernel
theorem dX7_layZero_2 : decode cX7_layZero 2 = .ok (.iload_n 2, 1) := by decide +kernel
theorem dX7_layZero_3 : decode cX7_layZero 3 = .ok (.bipush 41, 2) := by decide +kernel
theorem dX7_layZero_5 : decode cX7_layZero 5 = .ok (.if_icmp .ge 16, 3) := by decide +kernel
theorem dX7_layZero_8 : decode cX7_layZero 8 = .ok (.aload_n 0, 1) := by decide +kernel
theorem dX7_layZero_9 : decode cX7_layZero 9 = .ok (.iload_n 1, 1) := by decide +kernel
theorem dX7_layZero_10 : decode cX7_layZero 10 = .ok (.iload_n 2, 1) := by decide +kernel
theorem dX7_layZero_11 : decode cX7_layZero 11 = .ok (.lconst 0, 1) := by decide +kernel
theorem dX7_layZero_12 : decode cX7_layZero 12 = .ok (.invokevirtual 88, 3) := by decide +kernel
theorem dX7_layZero_15 : decode cX7_layZero 15 = .ok (.iinc 2 1, 3) := by decide +kernel
theorem dX7_layZero_18 : decode cX7_layZero 18 = .ok (.goto (-16), 3) := by decide +kernel
theorem dX7_layZero_21 : decode cX7_layZero 21 = .ok (.return_, 1) := by decide +kernel
theorem dX7_laySum_0 : decode cX7_laySum 0 = .ok (.aload_n 0, 1) := by decide +kernel
theorem dX7_laySum_1 : decode cX7_laySum 1 = .ok (.iload 4, 2) := by decide +kernel
theorem dX7_laySum_3 : decode cX7_laySum 3 = .ok (.invokevirtual 213, 3) := by decide +kernel
theorem dX7_laySum_6 : decode cX7_laySum 6 = .ok (.iconst 0, 1) := by decide +kernel
theorem dX7_laySum_7 : decode cX7_laySum 7 = .ok (.istore 5, 2) := by decide +kernel
theorem dX7_laySum_9 : decode cX7_laySum 9 = .ok (.iload 5, 2) := by decide +kernel
theorem dX7_laySum_11 : decode cX7_laySum 11 = .ok (.iload_n 2, 1) := by decide +kernel
theorem dX7_laySum_12 : decode cX7_laySum 12 = .ok (.if_icmp .ge 48, 3) := by decide +kernel
theorem dX7_laySum_15 : decode cX7_laySum 15 = .ok (.aload_n 0, 1) := by decide +kernel
theorem dX7_laySum_16 : decode cX7_laySum 16 = .ok (.iload 5, 2) := by decide +kernel
theorem dX7_laySum_18 : decode cX7_laySum 18 = .ok (.iload_n 1, 1) := by decide +kernel
theorem dX7_laySum_19 : decode cX7_laySum 19 = .ok (.invokevirtual 217, 3) := by decide +kernel
theorem dX7_laySum_22 : decode cX7_laySum 22 = .ok (.istore 6, 2) := by decide +kernel
theorem dX7_laySum_24 : decode cX7_laySum 24 = .ok (.iload 6, 2) := by decide +kernel
theorem dX7_laySum_26 : decode cX7_laySum 26 = .ok (.ifCond .lt 28, 3) := by decide +kernel
theorem dX7_laySum_29 : decode cX7_laySum 29 = .ok (.iload 5, 2) := by decide +kernel
theorem dX7_laySum_31 : decode cX7_laySum 31 = .ok (.iload_n 3, 1) := by decide +kernel
theorem dX7_laySum_32 : decode cX7_laySum 32 = .ok (.if_icmp .eq 22, 3) := by decide +kernel
theorem dX7_laySum_35 : decode cX7_laySum 35 = .ok (.aload_n 0, 1) := by decide +kernel
theorem dX7_laySum_36 : decode cX7_laySum 36 = .ok (.iconst 1, 1) := by decide +kernel
theorem dX7_laySum_37 : decode cX7_laySum 37 = .ok (.iload 4, 2) := by decide +kernel
theorem dX7_laySum_39 : decode cX7_laySum 39 = .ok (.bipush 24, 2) := by decide +kernel
theorem dX7_laySum_41 : decode cX7_laySum 41 = .ok (.iconst 4, 1) := by decide +kernel
theorem dX7_laySum_42 : decode cX7_laySum 42 = .ok (.iload 5, 2) := by decide +kernel
theorem dX7_laySum_44 : decode cX7_laySum 44 = .ok (.imul, 1) := by decide +kernel
theorem dX7_laySum_45 : decode cX7_laySum 45 = .ok (.iadd, 1) := by decide +kernel
theorem dX7_laySum_46 : decode cX7_laySum 46 = .ok (.iload 6, 2) := by decide +kernel
theorem dX7_laySum_48 : decode cX7_laySum 48 = .ok (.iadd, 1) := by decide +kernel
theorem dX7_laySum_49 : decode cX7_laySum 49 = .ok (.iload 4, 2) := by decide +kernel
theorem dX7_laySum_51 : decode cX7_laySum 51 = .ok (.invokevirtual 157, 3) := by decide +kernel
theorem dX7_laySum_54 : decode cX7_laySum 54 = .ok (.iinc 5 1, 3) := by decide +kernel
theorem dX7_laySum_57 : decode cX7_laySum 57 = .ok (.goto (-48), 3) := by decide +kernel
theorem dX7_laySum_60 : decode cX7_laySum 60 = .ok (.return_, 1) := by decide +kernel
theorem dX7_layThere_0 : decode cX7_layThere 0 = .ok (.aload_n 0, 1) := by decide +kernel
theorem dX7_layThere_1 : decode cX7_layThere 1 = .ok (.getfield 34, 3) := by decide +kernel
theorem dX7_layThere_4 : decode cX7_layThere 4 = .ok (.iconst 4, 1) := by decide +kernel
theorem dX7_layThere_5 : decode cX7_layThere 5 = .ok (.iload_n 1, 1) := by decide +kernel
theorem dX7_layThere_6 : decode cX7_layThere 6 = .ok (.imul, 1) := by decide +kernel
theorem dX7_layThere_7 : decode cX7_layThere 7 = .ok (.iload_n 2, 1) := by decide +kernel
theorem dX7_layThere_8 : decode cX7_layThere 8 = .ok (.iadd, 1) := by decide +kernel
theorem dX7_layThere_9 : decode cX7_layThere 9 = .ok (.iaload, 1) := by decide +kernel
theorem dX7_layThere_10 : decode cX7_layThere 10 = .ok (.istore_n 3, 1) := by decide +kernel
theorem dX7_layThere_11 : decode cX7_layThere 11 = .ok (.iconst 4, 1) := by decide +kernel
theorem dX7_layThere_12 : decode cX7_layThere 12 = .ok (.iload_n 1, 1) := by decide +kernel
theorem dX7_layThere_13 : decode cX7_layThere 13 = .ok (.imul, 1) := by decide +kernel
theorem dX7_layThere_14 : decode cX7_layThere 14 = .ok (.iload_n 2, 1) := by decide +kernel
theorem dX7_layThere_15 : decode cX7_layThere 15 = .ok (.iadd, 1) := by decide +kernel
theorem dX7_layThere_16 : decode cX7_layThere 16 = .ok (.istore 4, 2) := by decide +kernel
theorem dX7_layThere_18 : decode cX7_layThere 18 = .ok (.aload_n 0, 1) := by decide +kernel
theorem dX7_layThere_19 : decode cX7_layThere 19 = .ok (.getfield 206, 3) := by decide +kernel
theorem dX7_layThere_22 : decode cX7_layThere 22 = .ok (.iconst 2, 1) := by decide +kernel
theorem dX7_layThere_23 : decode cX7_layThere 23 = .ok (.if_icmp .ne 56, 3) := by decide +kernel
theorem dX7_layThere_26 : decode cX7_layThere 26 = .ok (.aload_n 0, 1) := by decide +kernel
theorem dX7_layThere_27 : decode cX7_layThere 27 = .ok (.iload_n 3, 1) := by decide +kernel
theorem dX7_layThere_28 : decode cX7_layThere 28 = .ok (.aload_n 0, 1) := by decide +kernel
theorem dX7_layThere_29 : decode cX7_layThere 29 = .ok (.getfield 190, 3) := by decide +kernel
theorem dX7_layThere_32 : decode cX7_layThere 32 = .ok (.bipush (-9), 2) := by decide +kernel
theorem dX7_layThere_34 : decode cX7_layThere 34 = .ok (.bipush 84, 2) := by decide +kernel
theorem dX7_layThere_36 : decode cX7_layThere 36 = .ok (.invokevirtual 220, 3) := by decide +kernel
theorem dX7_layThere_39 : decode cX7_layThere 39 = .ok (.aload_n 0, 1) := by decide +kernel
theorem dX7_layThere_40 : decode cX7_layThere 40 = .ok (.iconst 0, 1) := by decide +kernel
theorem dX7_layThere_41 : decode cX7_layThere 41 = .ok (.aload_n 0, 1) := by decide +kernel
theorem dX7_layThere_42 : decode cX7_layThere 42 = .ok (.getfield 25, 3) := by decide +kernel
theorem dX7_layThere_45 : decode cX7_layThere 45 = .ok (.iload_n 3, 1) := by decide +kernel
theorem dX7_layThere_46 : decode cX7_layThere 46 = .ok (.iaload, 1) := by decide +kernel
theorem dX7_layThere_47 : decode cX7_layThere 47 = .ok (.iconst 0, 1) := by decide +kernel
theorem dX7_layThere_48 : decode cX7_layThere 48 = .ok (.bipush 44, 2) := by decide +kernel
theorem dX7_layThere_50 : decode cX7_layThere 50 = .ok (.iload 4, 2) := by decide +kernel
theorem dX7_layThere_52 : decode cX7_layThere 52 = .ok (.iadd, 1) := by decide +kernel
theorem dX7_layThere_53 : decode cX7_layThere 53 = .ok (.invokevirtual 176, 3) := by decide +kernel
theorem dX7_layThere_56 : decode cX7_layThere 56 = .ok (.aload_n 0, 1) := by decide +kernel
theorem dX7_layThere_57 : decode cX7_layThere 57 = .ok (.getfield 40, 3) := by decide +kernel
theorem dX7_layThere_60 : decode cX7_layThere 60 = .ok (.iload 4, 2) := by decide +kernel
theorem dX7_layThere_62 : decode cX7_layThere 62 = .ok (.aload_n 0, 1) := by decide +kernel
theorem dX7_layThere_63 : decode cX7_layThere 63 = .ok (.bipush 84, 2) := by decide +kernel
theorem dX7_layThere_65 : decode cX7_layThere 65 = .ok (.bipush 44, 2) := by decide +kernel
theorem dX7_layThere_67 : decode cX7_layThere 67 = .ok (.iload 4, 2) := by decide +kernel
theorem dX7_layThere_69 : decode cX7_layThere 69 = .ok (.iadd, 1) := by decide +kernel
theorem dX7_layThere_70 : decode cX7_layThere 70 = .ok (.bipush 20, 2) := by decide +kernel
theorem dX7_layThere_72 : decode cX7_layThere 72 = .ok (.invokevirtual 182, 3) := by decide +kernel
theorem dX7_layThere_75 : decode cX7_layThere 75 = .ok (.iastore, 1) := by decide +kernel
theorem dX7_layThere_76 : decode cX7_layThere 76 = .ok (.goto 67, 3) := by decide +kernel
theorem dX7_layThere_79 : decode cX7_layThere 79 = .ok (.aload_n 0, 1) := by decide +kernel
theorem dX7_layThere_80 : decode cX7_layThere 80 = .ok (.iload_n 3, 1) := by decide +kernel
theorem dX7_layThere_81 : decode cX7_layThere 81 = .ok (.aload_n 0, 1) := by decide +kernel
theorem dX7_layThere_82 : decode cX7_layThere 82 = .ok (.getfield 206, 3) := by decide +kernel
theorem dX7_layThere_85 : decode cX7_layThere 85 = .ok (.ifCond .ne 7, 3) := by decide +kernel
theorem dX7_layThere_88 : decode cX7_layThere 88 = .ok (.iload_n 1, 1) := by decide +kernel
theorem dX7_layThere_89 : decode cX7_layThere 89 = .ok (.goto 7, 3) := by decide +kernel
theorem dX7_layThere_92 : decode cX7_layThere 92 = .ok (.aload_n 0, 1) := by decide +kernel
theorem dX7_layThere_93 : decode cX7_layThere 93 = .ok (.getfield 190, 3) := by decide +kernel
theorem dX7_layThere_96 : decode cX7_layThere 96 = .ok (.iload_n 1, 1) := by decide +kernel
theorem dX7_layThere_97 : decode cX7_layThere 97 = .ok (.bipush 84, 2) := by decide +kernel
theorem dX7_layThere_99 : decode cX7_layThere 99 = .ok (.invokevirtual 220, 3) := by decide +kernel
theorem dX7_layThere_102 : decode cX7_layThere 102 = .ok (.aload_n 0, 1) := by decide +kernel
theorem dX7_layThere_103 : decode cX7_layThere 103 = .ok (.iconst 4, 1) := by decide +kernel
theorem dX7_layThere_104 : decode cX7_layThere 104 = .ok (.aload_n 0, 1) := by decide +kernel
theorem dX7_layThere_105 : decode cX7_layThere 105 = .ok (.getfield 25, 3) := by decide +kernel
theorem dX7_layThere_108 : decode cX7_layThere 108 = .ok (.iload_n 3, 1) := by decide +kernel
theorem dX7_layThere_109 : decode cX7_layThere 109 = .ok (.iaload, 1) := by decide +kernel
theorem dX7_layThere_110 : decode cX7_layThere 110 = .ok (.bipush 84, 2) := by decide +kernel
theorem dX7_layThere_112 : decode cX7_layThere 112 = .ok (.bipush 44, 2) := by decide +kernel
theorem dX7_layThere_114 : decode cX7_layThere 114 = .ok (.iload 4, 2) := by decide +kernel
theorem dX7_layThere_116 : decode cX7_layThere 116 = .ok (.iadd, 1) := by decide +kernel
theorem dX7_layThere_117 : decode cX7_layThere 117 = .ok (.invokevirtual 157, 3) := by decide +kernel
theorem dX7_layThere_120 : decode cX7_layThere 120 = .ok (.aload_n 0, 1) := by decide +kernel
theorem dX7_layThere_121 : decode cX7_layThere 121 = .ok (.getfield 40, 3) := by decide +kernel
theorem dX7_layThere_124 : decode cX7_layThere 124 = .ok (.iload 4, 2) := by decide +kernel
theorem dX7_layThere_126 : decode cX7_layThere 126 = .ok (.aload_n 0, 1) := by decide +kernel
theorem dX7_layThere_127 : decode cX7_layThere 127 = .ok (.bipush 24, 2) := by decide +kernel
theorem dX7_layThere_129 : decode cX7_layThere 129 = .ok (.iload 4, 2) := by decide +kernel
theorem dX7_layThere_131 : decode cX7_layThere 131 = .ok (.iadd, 1) := by decide +kernel
theorem dX7_layThere_132 : decode cX7_layThere 132 = .ok (.bipush 44, 2) := by decide +kernel
theorem dX7_layThere_134 : decode cX7_layThere 134 = .ok (.iload 4, 2) := by decide +kernel
theorem dX7_layThere_136 : decode cX7_layThere 136 = .ok (.iadd, 1) := by decide +kernel
theorem dX7_layThere_137 : decode cX7_layThere 137 = .ok (.bipush 20, 2) := by decide +kernel
theorem dX7_layThere_139 : decode cX7_layThere 139 = .ok (.invokevirtual 182, 3) := by decide +kernel
theorem dX7_layThere_142 : decode cX7_layThere 142 = .ok (.iastore, 1) := by decide +kernel
theorem dX7_layThere_143 : decode cX7_layThere 143 = .ok (.aload_n 0, 1) := by decide +kernel
theorem dX7_layThere_144 : decode cX7_layThere 144 = .ok (.getfield 40, 3) := by decide +kernel
theorem dX7_layThere_147 : decode cX7_layThere 147 = .ok (.iload 4, 2) := by decide +kernel
theorem dX7_layThere_149 : decode cX7_layThere 149 = .ok (.iaload, 1) := by decide +kernel
theorem dX7_layThere_150 : decode cX7_layThere 150 = .ok (.ifCond .ge 5, 3) := by decide +kernel
theorem dX7_layThere_153 : decode cX7_layThere 153 = .ok (.iconst 0, 1) := by decide +kernel
theorem dX7_layThere_154 : decode cX7_layThere 154 = .ok (.ireturn, 1) := by decide +kernel
theorem dX7_layThere_155 : decode cX7_layThere 155 = .ok (.aload_n 0, 1) := by decide +kernel
theorem dX7_layThere_156 : decode cX7_layThere 156 = .ok (.getfield 206, 3) := by decide +kernel
theorem dX7_layThere_159 : decode cX7_layThere 159 = .ok (.iconst 2, 1) := by decide +kernel
theorem dX7_layThere_160 : decode cX7_layThere 160 = .ok (.if_icmp .ne 28, 3) := by decide +kernel
theorem dX7_layThere_163 : decode cX7_layThere 163 = .ok (.aload_n 0, 1) := by decide +kernel
theorem dX7_layThere_164 : decode cX7_layThere 164 = .ok (.iconst 1, 1) := by decide +kernel
theorem dX7_layThere_165 : decode cX7_layThere 165 = .ok (.bipush 24, 2) := by decide +kernel
theorem dX7_layThere_167 : decode cX7_layThere 167 = .ok (.iload 4, 2) := by decide +kernel
theorem dX7_layThere_169 : decode cX7_layThere 169 = .ok (.iadd, 1) := by decide +kernel
theorem dX7_layThere_170 : decode cX7_layThere 170 = .ok (.aload_n 0, 1) := by decide +kernel
theorem dX7_layThere_171 : decode cX7_layThere 171 = .ok (.getfield 40, 3) := by decide +kernel
theorem dX7_layThere_174 : decode cX7_layThere 174 = .ok (.iload 4, 2) := by decide +kernel
theorem dX7_layThere_176 : decode cX7_layThere 176 = .ok (.iaload, 1) := by decide +kernel
theorem dX7_layThere_177 : decode cX7_layThere 177 = .ok (.bipush 64, 2) := by decide +kernel
theorem dX7_layThere_179 : decode cX7_layThere 179 = .ok (.iload 4, 2) := by decide +kernel
theorem dX7_layThere_181 : decode cX7_layThere 181 = .ok (.iadd, 1) := by decide +kernel
theorem dX7_layThere_182 : decode cX7_layThere 182 = .ok (.invokevirtual 176, 3) := by decide +kernel
theorem dX7_layThere_185 : decode cX7_layThere 185 = .ok (.goto 23, 3) := by decide +kernel
theorem dX7_layThere_188 : decode cX7_layThere 188 = .ok (.aload_n 0, 1) := by decide +kernel
theorem dX7_layThere_189 : decode cX7_layThere 189 = .ok (.iconst 3, 1) := by decide +kernel
theorem dX7_layThere_190 : decode cX7_layThere 190 = .ok (.bipush 24, 2) := by decide +kernel
theorem dX7_layThere_192 : decode cX7_layThere 192 = .ok (.iload 4, 2) := by decide +kernel
theorem dX7_layThere_194 : decode cX7_layThere 194 = .ok (.iadd, 1) := by decide +kernel
theorem dX7_layThere_195 : decode cX7_layThere 195 = .ok (.bipush 44, 2) := by decide +kernel
theorem dX7_layThere_197 : decode cX7_layThere 197 = .ok (.iload 4, 2) := by decide +kernel
theorem dX7_layThere_199 : decode cX7_layThere 199 = .ok (.iadd, 1) := by decide +kernel
theorem dX7_layThere_200 : decode cX7_layThere 200 = .ok (.bipush 64, 2) := by decide +kernel
theorem dX7_layThere_202 : decode cX7_layThere 202 = .ok (.iload 4, 2) := by decide +kernel
theorem dX7_layThere_204 : decode cX7_layThere 204 = .ok (.iadd, 1) := by decide +kernel
theorem dX7_layThere_205 : decode cX7_layThere 205 = .ok (.invokevirtual 157, 3) := by decide +kernel
theorem dX7_layThere_208 : decode cX7_layThere 208 = .ok (.iconst 1, 1) := by decide +kernel
theorem dX7_layThere_209 : decode cX7_layThere 209 = .ok (.ireturn, 1) := by decide +kernel
theorem dX7_layComing_0 : decode cX7_layComing 0 = .ok (.iconst 0, 1) := by decide +kernel
theorem dX7_layComing_1 : decode cX7_layComing 1 = .ok (.istore_n 2, 1) := by decide +kernel
theorem dX7_layComing_2 : decode cX7_layComing 2 = .ok (.iload_n 2, 1) := by decide +kernel
theorem dX7_layComing_3 : decode cX7_layComing 3 = .ok (.aload_n 0, 1) := by decide +kernel
theorem dX7_layComing_4 : decode cX7_layComing 4 = .ok (.getfield 190, 3) := by decide +kernel
theorem dX7_layComing_7 : decode cX7_layComing 7 = .ok (.if_icmp .ge 57, 3) := by decide +kernel
theorem dX7_layComing_10 : decode cX7_layComing 10 = .ok (.aload_n 0, 1) := by decide +kernel
theorem dX7_layComing_11 : decode cX7_layComing 11 = .ok (.iload_n 2, 1) := by decide +kernel
theorem dX7_layComing_12 : decode cX7_layComing 12 = .ok (.iload_n 1, 1) := by decide +kernel
theorem dX7_layComing_13 : decode cX7_layComing 13 = .ok (.invokevirtual 217, 3) := by decide +kernel
theorem dX7_layComing_16 : decode cX7_layComing 16 = .ok (.istore_n 3, 1) := by decide +kernel
theorem dX7_layComing_17 : decode cX7_layComing 17 = .ok (.iload_n 3, 1) := by decide +kernel
theorem dX7_layComing_18 : decode cX7_layComing 18 = .ok (.ifCond .lt 40, 3) := by decide +kernel
theorem dX7_layComing_21 : decode cX7_layComing 21 = .ok (.aload_n 0, 1) := by decide +kernel
theorem dX7_layComing_22 : decode cX7_layComing 22 = .ok (.iconst 0, 1) := by decide +kernel
theorem dX7_layComing_23 : decode cX7_layComing 23 = .ok (.iload_n 3, 1) := by decide +kernel
theorem dX7_layComing_24 : decode cX7_layComing 24 = .ok (.ifCond .ne 12, 3) := by decide +kernel
theorem dX7_layComing_27 : decode cX7_layComing 27 = .ok (.aload_n 0, 1) := by decide +kernel
theorem dX7_layComing_28 : decode cX7_layComing 28 = .ok (.getfield 28, 3) := by decide +kernel
theorem dX7_layComing_31 : decode cX7_layComing 31 = .ok (.iload_n 2, 1) := by decide +kernel
theorem dX7_layComing_32 : decode cX7_layComing 32 = .ok (.iaload, 1) := by decide +kernel
theorem dX7_layComing_33 : decode cX7_layComing 33 = .ok (.goto 13, 3) := by decide +kernel
theorem dX7_layComing_36 : decode cX7_layComing 36 = .ok (.bipush 64, 2) := by decide +kernel
theorem dX7_layComing_38 : decode cX7_layComing 38 = .ok (.iconst 4, 1) := by decide +kernel
theorem dX7_layComing_39 : decode cX7_layComing 39 = .ok (.iload_n 2, 1) := by decide +kernel
theorem dX7_layComing_40 : decode cX7_layComing 40 = .ok (.imul, 1) := by decide +kernel
theorem dX7_layComing_41 : decode cX7_layComing 41 = .ok (.iadd, 1) := by decide +kernel
theorem dX7_layComing_42 : decode cX7_layComing 42 = .ok (.iload_n 3, 1) := by decide +kernel
theorem dX7_layComing_43 : decode cX7_layComing 43 = .ok (.iadd, 1) := by decide +kernel
theorem dX7_layComing_44 : decode cX7_layComing 44 = .ok (.iconst 1, 1) := by decide +kernel
theorem dX7_layComing_45 : decode cX7_layComing 45 = .ok (.isub, 1) := by decide +kernel
theorem dX7_layComing_46 : decode cX7_layComing 46 = .ok (.iconst 0, 1) := by decide +kernel
theorem dX7_layComing_47 : decode cX7_layComing 47 = .ok (.bipush 24, 2) := by decide +kernel
theorem dX7_layComing_49 : decode cX7_layComing 49 = .ok (.iconst 4, 1) := by decide +kernel
theorem dX7_layComing_50 : decode cX7_layComing 50 = .ok (.iload_n 2, 1) := by decide +kernel
theorem dX7_layComing_51 : decode cX7_layComing 51 = .ok (.imul, 1) := by decide +kernel
theorem dX7_layComing_52 : decode cX7_layComing 52 = .ok (.iadd, 1) := by decide +kernel
theorem dX7_layComing_53 : decode cX7_layComing 53 = .ok (.iload_n 3, 1) := by decide +kernel
theorem dX7_layComing_54 : decode cX7_layComing 54 = .ok (.iadd, 1) := by decide +kernel
theorem dX7_layComing_55 : decode cX7_layComing 55 = .ok (.invokevirtual 176, 3) := by decide +kernel
theorem dX7_layComing_58 : decode cX7_layComing 58 = .ok (.iinc 2 1, 3) := by decide +kernel
theorem dX7_layComing_61 : decode cX7_layComing 61 = .ok (.goto (-59), 3) := by decide +kernel
theorem dX7_layComing_64 : decode cX7_layComing 64 = .ok (.return_, 1) := by decide +kernel
theorem dX7_layAll_0 : decode cX7_layAll 0 = .ok (.aload_n 0, 1) := by decide +kernel
theorem dX7_layAll_1 : decode cX7_layAll 1 = .ok (.invokevirtual 209, 3) := by decide +kernel
theorem dX7_layAll_4 : decode cX7_layAll 4 = .ok (.ifCond .eq 14, 3) := by decide +kernel
theorem dX7_layAll_7 : decode cX7_layAll 7 = .ok (.aload_n 0, 1) := by decide +kernel
theorem dX7_layAll_8 : decode cX7_layAll 8 = .ok (.invokevirtual 223, 3) := by decide +kernel
theorem dX7_layAll_11 : decode cX7_layAll 11 = .ok (.ifCond .eq 7, 3) := by decide +kernel
theorem dX7_layAll_14 : decode cX7_layAll 14 = .ok (.iconst 1, 1) := by decide +kernel
theorem dX7_layAll_15 : decode cX7_layAll 15 = .ok (.goto 4, 3) := by decide +kernel
theorem dX7_layAll_18 : decode cX7_layAll 18 = .ok (.iconst 0, 1) := by decide +kernel
theorem dX7_layAll_19 : decode cX7_layAll 19 = .ok (.istore_n 1, 1) := by decide +kernel
theorem dX7_layAll_20 : decode cX7_layAll 20 = .ok (.iconst 0, 1) := by decide +kernel
theorem dX7_layAll_21 : decode cX7_layAll 21 = .ok (.istore_n 2, 1) := by decide +kernel
theorem dX7_layAll_22 : decode cX7_layAll 22 = .ok (.iload_n 2, 1) := by decide +kernel
theorem dX7_layAll_23 : decode cX7_layAll 23 = .ok (.bipush 6, 2) := by decide +kernel
theorem dX7_layAll_25 : decode cX7_layAll 25 = .ok (.if_icmp .ge 95, 3) := by decide +kernel
theorem dX7_layAll_28 : decode cX7_layAll 28 = .ok (.iconst 0, 1) := by decide +kernel
theorem dX7_layAll_29 : decode cX7_layAll 29 = .ok (.istore_n 3, 1) := by decide +kernel
theorem dX7_layAll_30 : decode cX7_layAll 30 = .ok (.iload_n 3, 1) := by decide +kernel
theorem dX7_layAll_31 : decode cX7_layAll 31 = .ok (.bipush 6, 2) := by decide +kernel
theorem dX7_layAll_33 : decode cX7_layAll 33 = .ok (.if_icmp .ge 81, 3) := by decide +kernel
theorem dX7_layAll_36 : decode cX7_layAll 36 = .ok (.iload_n 1, 1) := by decide +kernel
theorem dX7_layAll_37 : decode cX7_layAll 37 = .ok (.ifCond .eq 71, 3) := by decide +kernel
theorem dX7_layAll_40 : decode cX7_layAll 40 = .ok (.aload_n 0, 1) := by decide +kernel
theorem dX7_layAll_41 : decode cX7_layAll 41 = .ok (.getfield 37, 3) := by decide +kernel
theorem dX7_layAll_44 : decode cX7_layAll 44 = .ok (.iload_n 3, 1) := by decide +kernel
theorem dX7_layAll_45 : decode cX7_layAll 45 = .ok (.iaload, 1) := by decide +kernel
theorem dX7_layAll_46 : decode cX7_layAll 46 = .ok (.iload_n 2, 1) := by decide +kernel
theorem dX7_layAll_47 : decode cX7_layAll 47 = .ok (.if_icmp .ne 61, 3) := by decide +kernel
theorem dX7_layAll_50 : decode cX7_layAll 50 = .ok (.aload_n 0, 1) := by decide +kernel
theorem dX7_layAll_51 : decode cX7_layAll 51 = .ok (.iload_n 3, 1) := by decide +kernel
theorem dX7_layAll_52 : decode cX7_layAll 52 = .ok (.invokevirtual 226, 3) := by decide +kernel
theorem dX7_layAll_55 : decode cX7_layAll 55 = .ok (.iconst 0, 1) := by decide +kernel
theorem dX7_layAll_56 : decode cX7_layAll 56 = .ok (.istore 4, 2) := by decide +kernel
theorem dX7_layAll_58 : decode cX7_layAll 58 = .ok (.iload 4, 2) := by decide +kernel
theorem dX7_layAll_60 : decode cX7_layAll 60 = .ok (.aload_n 0, 1) := by decide +kernel
theorem dX7_layAll_61 : decode cX7_layAll 61 = .ok (.getfield 190, 3) := by decide +kernel
theorem dX7_layAll_64 : decode cX7_layAll 64 = .ok (.if_icmp .ge 44, 3) := by decide +kernel
theorem dX7_layAll_67 : decode cX7_layAll 67 = .ok (.aload_n 0, 1) := by decide +kernel
theorem dX7_layAll_68 : decode cX7_layAll 68 = .ok (.iload 4, 2) := by decide +kernel
theorem dX7_layAll_70 : decode cX7_layAll 70 = .ok (.iload_n 3, 1) := by decide +kernel
theorem dX7_layAll_71 : decode cX7_layAll 71 = .ok (.invokevirtual 217, 3) := by decide +kernel
theorem dX7_layAll_74 : decode cX7_layAll 74 = .ok (.istore 5, 2) := by decide +kernel
theorem dX7_layAll_76 : decode cX7_layAll 76 = .ok (.iload_n 1, 1) := by decide +kernel
theorem dX7_layAll_77 : decode cX7_layAll 77 = .ok (.ifCond .eq 23, 3) := by decide +kernel
theorem dX7_layAll_80 : decode cX7_layAll 80 = .ok (.iload 5, 2) := by decide +kernel
theorem dX7_layAll_82 : decode cX7_layAll 82 = .ok (.ifCond .lt 14, 3) := by decide +kernel
theorem dX7_layAll_85 : decode cX7_layAll 85 = .ok (.aload_n 0, 1) := by decide +kernel
theorem dX7_layAll_86 : decode cX7_layAll 86 = .ok (.iload 4, 2) := by decide +kernel
theorem dX7_layAll_88 : decode cX7_layAll 88 = .ok (.iload 5, 2) := by decide +kernel
theorem dX7_layAll_90 : decode cX7_layAll 90 = .ok (.invokevirtual 229, 3) := by decide +kernel
theorem dX7_layAll_93 : decode cX7_layAll 93 = .ok (.ifCond .eq 7, 3) := by decide +kernel
theorem dX7_layAll_96 : decode cX7_layAll 96 = .ok (.iconst 1, 1) := by decide +kernel
theorem dX7_layAll_97 : decode cX7_layAll 97 = .ok (.goto 4, 3) := by decide +kernel
theorem dX7_layAll_100 : decode cX7_layAll 100 = .ok (.iconst 0, 1) := by decide +kernel
theorem dX7_layAll_101 : decode cX7_layAll 101 = .ok (.istore_n 1, 1) := by decide +kernel
theorem dX7_layAll_102 : decode cX7_layAll 102 = .ok (.iinc 4 1, 3) := by decide +kernel
theorem dX7_layAll_105 : decode cX7_layAll 105 = .ok (.goto (-47), 3) := by decide +kernel
theorem dX7_layAll_108 : decode cX7_layAll 108 = .ok (.iinc 3 1, 3) := by decide +kernel
theorem dX7_layAll_111 : decode cX7_layAll 111 = .ok (.goto (-81), 3) := by decide +kernel
theorem dX7_layAll_114 : decode cX7_layAll 114 = .ok (.iinc 2 1, 3) := by decide +kernel
theorem dX7_layAll_117 : decode cX7_layAll 117 = .ok (.goto (-95), 3) := by decide +kernel
theorem dX7_layAll_120 : decode cX7_layAll 120 = .ok (.iload_n 1, 1) := by decide +kernel
theorem dX7_layAll_121 : decode cX7_layAll 121 = .ok (.ireturn, 1) := by decide +kernel
theorem dX7_noStep_0 : decode cX7_noStep 0 = .ok (.aload_n 0, 1) := by decide +kernel
theorem dX7_noStep_1 : decode cX7_noStep 1 = .ok (.iload_n 1, 1) := by decide +kernel
theorem dX7_noStep_2 : decode cX7_noStep 2 = .ok (.invokevirtual 199, 3) := by decide +kernel
theorem dX7_noStep_5 : decode cX7_noStep 5 = .ok (.ifCond .ne 21, 3) := by decide +kernel
theorem dX7_noStep_8 : decode cX7_noStep 8 = .ok (.iload_n 2, 1) := by decide +kernel
theorem dX7_noStep_9 : decode cX7_noStep 9 = .ok (.i2l, 1) := by decide +kernel
theorem dX7_noStep_10 : decode cX7_noStep 10 = .ok (.lconst 0, 1) := by decide +kernel
theorem dX7_noStep_11 : decode cX7_noStep 11 = .ok (.aload_n 0, 1) := by decide +kernel
theorem dX7_noStep_12 : decode cX7_noStep 12 = .ok (.getfield 31, 3) := by decide +kernel
theorem dX7_noStep_15 : decode cX7_noStep 15 = .ok (.iload_n 1, 1) := by decide +kernel
theorem dX7_noStep_16 : decode cX7_noStep 16 = .ok (.iaload, 1) := by decide +kernel
theorem dX7_noStep_17 : decode cX7_noStep 17 = .ok (.i2l, 1) := by decide +kernel
theorem dX7_noStep_18 : decode cX7_noStep 18 = .ok (.lconst 1, 1) := by decide +kernel
theorem dX7_noStep_19 : decode cX7_noStep 19 = .ok (.lsub, 1) := by decide +kernel
theorem dX7_noStep_20 : decode cX7_noStep 20 = .ok (.invokestatic 67, 3) := by decide +kernel
theorem dX7_noStep_23 : decode cX7_noStep 23 = .ok (.ifCond .ne 7, 3) := by decide +kernel
theorem dX7_noStep_26 : decode cX7_noStep 26 = .ok (.iconst 1, 1) := by decide +kernel
theorem dX7_noStep_27 : decode cX7_noStep 27 = .ok (.goto 4, 3) := by decide +kernel
theorem dX7_noStep_30 : decode cX7_noStep 30 = .ok (.iconst 0, 1) := by decide +kernel
theorem dX7_noStep_31 : decode cX7_noStep 31 = .ok (.ireturn, 1) := by decide +kernel
theorem dX7_latest_0 : decode cX7_latest 0 = .ok (.aload_n 0, 1) := by decide +kernel
theorem dX7_latest_1 : decode cX7_latest 1 = .ok (.iload_n 1, 1) := by decide +kernel
theorem dX7_latest_2 : decode cX7_latest 2 = .ok (.iload_n 2, 1) := by decide +kernel
theorem dX7_latest_3 : decode cX7_latest 3 = .ok (.invokevirtual 232, 3) := by decide +kernel
theorem dX7_latest_6 : decode cX7_latest 6 = .ok (.ifCond .eq 5, 3) := by decide +kernel
theorem dX7_latest_9 : decode cX7_latest 9 = .ok (.iconst (-1), 1) := by decide +kernel
theorem dX7_latest_10 : decode cX7_latest 10 = .ok (.ireturn, 1) := by decide +kernel
theorem dX7_latest_11 : decode cX7_latest 11 = .ok (.aload_n 0, 1) := by decide +kernel
theorem dX7_latest_12 : decode cX7_latest 12 = .ok (.invokevirtual 235, 3) := by decide +kernel
theorem dX7_latest_15 : decode cX7_latest 15 = .ok (.ifCond .eq 16, 3) := by decide +kernel
theorem dX7_latest_18 : decode cX7_latest 18 = .ok (.aload_n 0, 1) := by decide +kernel
theorem dX7_latest_19 : decode cX7_latest 19 = .ok (.getfield 40, 3) := by decide +kernel
theorem dX7_latest_22 : decode cX7_latest 22 = .ok (.iconst 4, 1) := by decide +kernel
theorem dX7_latest_23 : decode cX7_latest 23 = .ok (.iload_n 1, 1) := by decide +kernel
theorem dX7_latest_24 : decode cX7_latest 24 = .ok (.imul, 1) := by decide +kernel
theorem dX7_latest_25 : decode cX7_latest 25 = .ok (.iload_n 2, 1) := by decide +kernel
theorem dX7_latest_26 : decode cX7_latest 26 = .ok (.iadd, 1) := by decide +kernel
theorem dX7_latest_27 : decode cX7_latest 27 = .ok (.iaload, 1) := by decide +kernel
theorem dX7_latest_28 : decode cX7_latest 28 = .ok (.goto 5, 3) := by decide +kernel
theorem dX7_latest_31 : decode cX7_latest 31 = .ok (.bipush (-3), 2) := by decide +kernel
theorem dX7_latest_33 : decode cX7_latest 33 = .ok (.ireturn, 1) := by decide +kernel
theorem dX7_there_0 : decode cX7_there 0 = .ok (.aload_n 0, 1) := by decide +kernel
theorem dX7_there_1 : decode cX7_there 1 = .ok (.iload_n 1, 1) := by decide +kernel
theorem dX7_there_2 : decode cX7_there 2 = .ok (.iload_n 2, 1) := by decide +kernel
theorem dX7_there_3 : decode cX7_there 3 = .ok (.invokevirtual 232, 3) := by decide +kernel
theorem dX7_there_6 : decode cX7_there 6 = .ok (.ifCond .eq 5, 3) := by decide +kernel
theorem dX7_there_9 : decode cX7_there 9 = .ok (.iconst (-1), 1) := by decide +kernel
theorem dX7_there_10 : decode cX7_there 10 = .ok (.ireturn, 1) := by decide +kernel
theorem dX7_there_11 : decode cX7_there 11 = .ok (.iload_n 3, 1) := by decide +kernel
theorem dX7_there_12 : decode cX7_there 12 = .ok (.i2l, 1) := by decide +kernel
theorem dX7_there_13 : decode cX7_there 13 = .ok (.lconst 0, 1) := by decide +kernel
theorem dX7_there_14 : decode cX7_there 14 = .ok (.ldc2_w 65, 3) := by decide +kernel
theorem dX7_there_17 : decode cX7_there 17 = .ok (.invokestatic 67, 3) := by decide +kernel
theorem dX7_there_20 : decode cX7_there 20 = .ok (.ifCond .eq 16, 3) := by decide +kernel
theorem dX7_there_23 : decode cX7_there 23 = .ok (.iload 4, 2) := by decide +kernel
theorem dX7_there_25 : decode cX7_there 25 = .ok (.i2l, 1) := by decide +kernel
theorem dX7_there_26 : decode cX7_there 26 = .ok (.lconst 0, 1) := by decide +kernel
theorem dX7_there_27 : decode cX7_there 27 = .ok (.ldc2_w 92, 3) := by decide +kernel
theorem dX7_there_30 : decode cX7_there 30 = .ok (.invokestatic 67, 3) := by decide +kernel
theorem dX7_there_33 : decode cX7_there 33 = .ok (.ifCond .ne 6, 3) := by decide +kernel
theorem dX7_there_36 : decode cX7_there 36 = .ok (.bipush (-2), 2) := by decide +kernel
theorem dX7_there_38 : decode cX7_there 38 = .ok (.ireturn, 1) := by decide +kernel
theorem dX7_there_39 : decode cX7_there 39 = .ok (.aload_n 0, 1) := by decide +kernel
theorem dX7_there_40 : decode cX7_there 40 = .ok (.invokevirtual 235, 3) := by decide +kernel
theorem dX7_there_43 : decode cX7_there 43 = .ok (.ifCond .ne 6, 3) := by decide +kernel
theorem dX7_there_46 : decode cX7_there 46 = .ok (.bipush (-3), 2) := by decide +kernel
theorem dX7_there_48 : decode cX7_there 48 = .ok (.ireturn, 1) := by decide +kernel
theorem dX7_there_49 : decode cX7_there 49 = .ok (.aload_n 0, 1) := by decide +kernel
theorem dX7_there_50 : decode cX7_there 50 = .ok (.iload_n 3, 1) := by decide +kernel
theorem dX7_there_51 : decode cX7_there 51 = .ok (.ifCond .ne 8, 3) := by decide +kernel
theorem dX7_there_54 : decode cX7_there 54 = .ok (.bipush 24, 2) := by decide +kernel
theorem dX7_there_56 : decode cX7_there 56 = .ok (.goto 15, 3) := by decide +kernel
theorem dX7_there_59 : decode cX7_there 59 = .ok (.iload_n 3, 1) := by decide +kernel
theorem dX7_there_60 : decode cX7_there 60 = .ok (.iconst 1, 1) := by decide +kernel
theorem dX7_there_61 : decode cX7_there 61 = .ok (.if_icmp .ne 8, 3) := by decide +kernel
theorem dX7_there_64 : decode cX7_there 64 = .ok (.bipush 44, 2) := by decide +kernel
theorem dX7_there_66 : decode cX7_there 66 = .ok (.goto 5, 3) := by decide +kernel
theorem dX7_there_69 : decode cX7_there 69 = .ok (.bipush 64, 2) := by decide +kernel
theorem dX7_there_71 : decode cX7_there 71 = .ok (.iconst 4, 1) := by decide +kernel
theorem dX7_there_72 : decode cX7_there 72 = .ok (.iload_n 1, 1) := by decide +kernel
theorem dX7_there_73 : decode cX7_there 73 = .ok (.imul, 1) := by decide +kernel
theorem dX7_there_74 : decode cX7_there 74 = .ok (.iadd, 1) := by decide +kernel
theorem dX7_there_75 : decode cX7_there 75 = .ok (.iload_n 2, 1) := by decide +kernel
theorem dX7_there_76 : decode cX7_there 76 = .ok (.iadd, 1) := by decide +kernel
theorem dX7_there_77 : decode cX7_there 77 = .ok (.iload 4, 2) := by decide +kernel
theorem dX7_there_79 : decode cX7_there 79 = .ok (.invokevirtual 108, 3) := by decide +kernel
theorem dX7_there_82 : decode cX7_there 82 = .ok (.ireturn, 1) := by decide +kernel
theorem dX7_heapAt_0 : decode cX7_heapAt 0 = .ok (.iload_n 1, 1) := by decide +kernel
theorem dX7_heapAt_1 : decode cX7_heapAt 1 = .ok (.invokestatic 193, 3) := by decide +kernel
theorem dX7_heapAt_4 : decode cX7_heapAt 4 = .ok (.ifCond .eq 5, 3) := by decide +kernel
theorem dX7_heapAt_7 : decode cX7_heapAt 7 = .ok (.iconst (-1), 1) := by decide +kernel
theorem dX7_heapAt_8 : decode cX7_heapAt 8 = .ok (.ireturn, 1) := by decide +kernel
theorem dX7_heapAt_9 : decode cX7_heapAt 9 = .ok (.aload_n 0, 1) := by decide +kernel
theorem dX7_heapAt_10 : decode cX7_heapAt 10 = .ok (.getfield 25, 3) := by decide +kernel
theorem dX7_heapAt_13 : decode cX7_heapAt 13 = .ok (.iload_n 1, 1) := by decide +kernel
theorem dX7_heapAt_14 : decode cX7_heapAt 14 = .ok (.iaload, 1) := by decide +kernel
theorem dX7_heapAt_15 : decode cX7_heapAt 15 = .ok (.ifCond .lt 10, 3) := by decide +kernel
theorem dX7_heapAt_18 : decode cX7_heapAt 18 = .ok (.aload_n 0, 1) := by decide +kernel
theorem dX7_heapAt_19 : decode cX7_heapAt 19 = .ok (.invokevirtual 235, 3) := by decide +kernel
theorem dX7_heapAt_22 : decode cX7_heapAt 22 = .ok (.ifCond .ne 6, 3) := by decide +kernel
theorem dX7_heapAt_25 : decode cX7_heapAt 25 = .ok (.bipush (-3), 2) := by decide +kernel
theorem dX7_heapAt_27 : decode cX7_heapAt 27 = .ok (.ireturn, 1) := by decide +kernel
theorem dX7_heapAt_28 : decode cX7_heapAt 28 = .ok (.aload_n 0, 1) := by decide +kernel
theorem dX7_heapAt_29 : decode cX7_heapAt 29 = .ok (.iload_n 1, 1) := by decide +kernel
theorem dX7_heapAt_30 : decode cX7_heapAt 30 = .ok (.aload_n 0, 1) := by decide +kernel
theorem dX7_heapAt_31 : decode cX7_heapAt 31 = .ok (.getfield 190, 3) := by decide +kernel
theorem dX7_heapAt_34 : decode cX7_heapAt 34 = .ok (.bipush (-9), 2) := by decide +kernel
theorem dX7_heapAt_36 : decode cX7_heapAt 36 = .ok (.bipush 84, 2) := by decide +kernel
theorem dX7_heapAt_38 : decode cX7_heapAt 38 = .ok (.invokevirtual 220, 3) := by decide +kernel
theorem dX7_heapAt_41 : decode cX7_heapAt 41 = .ok (.aload_n 0, 1) := by decide +kernel
theorem dX7_heapAt_42 : decode cX7_heapAt 42 = .ok (.bipush 84, 2) := by decide +kernel
theorem dX7_heapAt_44 : decode cX7_heapAt 44 = .ok (.aload_n 0, 1) := by decide +kernel
theorem dX7_heapAt_45 : decode cX7_heapAt 45 = .ok (.getfield 25, 3) := by decide +kernel
theorem dX7_heapAt_48 : decode cX7_heapAt 48 = .ok (.iload_n 1, 1) := by decide +kernel
theorem dX7_heapAt_49 : decode cX7_heapAt 49 = .ok (.iaload, 1) := by decide +kernel
theorem dX7_heapAt_50 : decode cX7_heapAt 50 = .ok (.invokevirtual 185, 3) := by decide +kernel
theorem dX7_heapAt_53 : decode cX7_heapAt 53 = .ok (.ireturn, 1) := by decide +kernel
theorem dX7_bound_0 : decode cX7_bound 0 = .ok (.aload_n 0, 1) := by decide +kernel
theorem dX7_bound_1 : decode cX7_bound 1 = .ok (.iload_n 1, 1) := by decide +kernel
theorem dX7_bound_2 : decode cX7_bound 2 = .ok (.invokevirtual 199, 3) := by decide +kernel
theorem dX7_bound_5 : decode cX7_bound 5 = .ok (.ifCond .eq 5, 3) := by decide +kernel
theorem dX7_bound_8 : decode cX7_bound 8 = .ok (.iconst (-1), 1) := by decide +kernel
theorem dX7_bound_9 : decode cX7_bound 9 = .ok (.ireturn, 1) := by decide +kernel
theorem dX7_bound_10 : decode cX7_bound 10 = .ok (.iload_n 2, 1) := by decide +kernel
theorem dX7_bound_11 : decode cX7_bound 11 = .ok (.i2l, 1) := by decide +kernel
theorem dX7_bound_12 : decode cX7_bound 12 = .ok (.lconst 0, 1) := by decide +kernel
theorem dX7_bound_13 : decode cX7_bound 13 = .ok (.lconst 1, 1) := by decide +kernel
theorem dX7_bound_14 : decode cX7_bound 14 = .ok (.invokestatic 67, 3) := by decide +kernel
theorem dX7_bound_17 : decode cX7_bound 17 = .ok (.ifCond .ne 6, 3) := by decide +kernel
theorem dX7_bound_20 : decode cX7_bound 20 = .ok (.bipush (-2), 2) := by decide +kernel
theorem dX7_bound_22 : decode cX7_bound 22 = .ok (.ireturn, 1) := by decide +kernel
theorem dX7_bound_23 : decode cX7_bound 23 = .ok (.iload_n 2, 1) := by decide +kernel
theorem dX7_bound_24 : decode cX7_bound 24 = .ok (.iconst 1, 1) := by decide +kernel
theorem dX7_bound_25 : decode cX7_bound 25 = .ok (.if_icmp .ne 11, 3) := by decide +kernel
theorem dX7_bound_28 : decode cX7_bound 28 = .ok (.aload_n 0, 1) := by decide +kernel
theorem dX7_bound_29 : decode cX7_bound 29 = .ok (.getfield 206, 3) := by decide +kernel
theorem dX7_bound_32 : decode cX7_bound 32 = .ok (.iconst 2, 1) := by decide +kernel
theorem dX7_bound_33 : decode cX7_bound 33 = .ok (.if_icmp .eq 10, 3) := by decide +kernel
theorem dX7_bound_36 : decode cX7_bound 36 = .ok (.aload_n 0, 1) := by decide +kernel
theorem dX7_bound_37 : decode cX7_bound 37 = .ok (.invokevirtual 235, 3) := by decide +kernel
theorem dX7_bound_40 : decode cX7_bound 40 = .ok (.ifCond .ne 6, 3) := by decide +kernel
theorem dX7_bound_43 : decode cX7_bound 43 = .ok (.bipush (-3), 2) := by decide +kernel
theorem dX7_bound_45 : decode cX7_bound 45 = .ok (.ireturn, 1) := by decide +kernel
theorem dX7_bound_46 : decode cX7_bound 46 = .ok (.iconst 0, 1) := by decide +kernel
theorem dX7_bound_47 : decode cX7_bound 47 = .ok (.istore_n 3, 1) := by decide +kernel
theorem dX7_bound_48 : decode cX7_bound 48 = .ok (.aload_n 0, 1) := by decide +kernel
theorem dX7_bound_49 : decode cX7_bound 49 = .ok (.iconst 0, 1) := by decide +kernel
theorem dX7_bound_50 : decode cX7_bound 50 = .ok (.bipush 44, 2) := by decide +kernel
theorem dX7_bound_52 : decode cX7_bound 52 = .ok (.iconst 4, 1) := by decide +kernel
theorem dX7_bound_53 : decode cX7_bound 53 = .ok (.iload_n 1, 1) := by decide +kernel
theorem dX7_bound_54 : decode cX7_bound 54 = .ok (.imul, 1) := by decide +kernel
theorem dX7_bound_55 : decode cX7_bound 55 = .ok (.iadd, 1) := by decide +kernel
theorem dX7_bound_56 : decode cX7_bound 56 = .ok (.iconst 0, 1) := by decide +kernel
theorem dX7_bound_57 : decode cX7_bound 57 = .ok (.bipush 85, 2) := by decide +kernel
theorem dX7_bound_59 : decode cX7_bound 59 = .ok (.invokevirtual 176, 3) := by decide +kernel
theorem dX7_bound_62 : decode cX7_bound 62 = .ok (.iconst 0, 1) := by decide +kernel
theorem dX7_bound_63 : decode cX7_bound 63 = .ok (.istore 4, 2) := by decide +kernel
theorem dX7_bound_65 : decode cX7_bound 65 = .ok (.iload 4, 2) := by decide +kernel
theorem dX7_bound_67 : decode cX7_bound 67 = .ok (.aload_n 0, 1) := by decide +kernel
theorem dX7_bound_68 : decode cX7_bound 68 = .ok (.getfield 31, 3) := by decide +kernel
theorem dX7_bound_71 : decode cX7_bound 71 = .ok (.iload_n 1, 1) := by decide +kernel
theorem dX7_bound_72 : decode cX7_bound 72 = .ok (.iaload, 1) := by decide +kernel
theorem dX7_bound_73 : decode cX7_bound 73 = .ok (.if_icmp .ge 56, 3) := by decide +kernel
theorem dX7_bound_76 : decode cX7_bound 76 = .ok (.iload_n 3, 1) := by decide +kernel
theorem dX7_bound_77 : decode cX7_bound 77 = .ok (.aload_n 0, 1) := by decide +kernel
theorem dX7_bound_78 : decode cX7_bound 78 = .ok (.getfield 40, 3) := by decide +kernel
theorem dX7_bound_81 : decode cX7_bound 81 = .ok (.iconst 4, 1) := by decide +kernel
theorem dX7_bound_82 : decode cX7_bound 82 = .ok (.iload_n 1, 1) := by decide +kernel
theorem dX7_bound_83 : decode cX7_bound 83 = .ok (.imul, 1) := by decide +kernel
theorem dX7_bound_84 : decode cX7_bound 84 = .ok (.iload 4, 2) := by decide +kernel
theorem dX7_bound_86 : decode cX7_bound 86 = .ok (.iadd, 1) := by decide +kernel
theorem dX7_bound_87 : decode cX7_bound 87 = .ok (.iaload, 1) := by decide +kernel
theorem dX7_bound_88 : decode cX7_bound 88 = .ok (.iadd, 1) := by decide +kernel
theorem dX7_bound_89 : decode cX7_bound 89 = .ok (.istore_n 3, 1) := by decide +kernel
theorem dX7_bound_90 : decode cX7_bound 90 = .ok (.iload 4, 2) := by decide +kernel
theorem dX7_bound_92 : decode cX7_bound 92 = .ok (.ifCond .le 31, 3) := by decide +kernel
theorem dX7_bound_95 : decode cX7_bound 95 = .ok (.aload_n 0, 1) := by decide +kernel
theorem dX7_bound_96 : decode cX7_bound 96 = .ok (.iconst 2, 1) := by decide +kernel
theorem dX7_bound_97 : decode cX7_bound 97 = .ok (.bipush 85, 2) := by decide +kernel
theorem dX7_bound_99 : decode cX7_bound 99 = .ok (.bipush 44, 2) := by decide +kernel
theorem dX7_bound_101 : decode cX7_bound 101 = .ok (.iconst 4, 1) := by decide +kernel
theorem dX7_bound_102 : decode cX7_bound 102 = .ok (.iload_n 1, 1) := by decide +kernel
theorem dX7_bound_103 : decode cX7_bound 103 = .ok (.imul, 1) := by decide +kernel
theorem dX7_bound_104 : decode cX7_bound 104 = .ok (.iadd, 1) := by decide +kernel
theorem dX7_bound_105 : decode cX7_bound 105 = .ok (.iload 4, 2) := by decide +kernel
theorem dX7_bound_107 : decode cX7_bound 107 = .ok (.iadd, 1) := by decide +kernel
theorem dX7_bound_108 : decode cX7_bound 108 = .ok (.bipush 86, 2) := by decide +kernel
theorem dX7_bound_110 : decode cX7_bound 110 = .ok (.invokevirtual 157, 3) := by decide +kernel
theorem dX7_bound_113 : decode cX7_bound 113 = .ok (.aload_n 0, 1) := by decide +kernel
theorem dX7_bound_114 : decode cX7_bound 114 = .ok (.iconst 0, 1) := by decide +kernel
theorem dX7_bound_115 : decode cX7_bound 115 = .ok (.bipush 86, 2) := by decide +kernel
theorem dX7_bound_117 : decode cX7_bound 117 = .ok (.iconst 0, 1) := by decide +kernel
theorem dX7_bound_118 : decode cX7_bound 118 = .ok (.bipush 85, 2) := by decide +kernel
theorem dX7_bound_120 : decode cX7_bound 120 = .ok (.invokevirtual 176, 3) := by decide +kernel
theorem dX7_bound_123 : decode cX7_bound 123 = .ok (.iinc 4 1, 3) := by decide +kernel
theorem dX7_bound_126 : decode cX7_bound 126 = .ok (.goto (-61), 3) := by decide +kernel
theorem dX7_bound_129 : decode cX7_bound 129 = .ok (.iload_n 2, 1) := by decide +kernel
theorem dX7_bound_130 : decode cX7_bound 130 = .ok (.ifCond .ne 7, 3) := by decide +kernel
theorem dX7_bound_133 : decode cX7_bound 133 = .ok (.iload_n 3, 1) := by decide +kernel
theorem dX7_bound_134 : decode cX7_bound 134 = .ok (.goto 17, 3) := by decide +kernel
theorem dX7_bound_137 : decode cX7_bound 137 = .ok (.aload_n 0, 1) := by decide +kernel
theorem dX7_bound_138 : decode cX7_bound 138 = .ok (.aload_n 0, 1) := by decide +kernel
theorem dX7_bound_139 : decode cX7_bound 139 = .ok (.getfield 28, 3) := by decide +kernel
theorem dX7_bound_142 : decode cX7_bound 142 = .ok (.iload_n 1, 1) := by decide +kernel
theorem dX7_bound_143 : decode cX7_bound 143 = .ok (.iaload, 1) := by decide +kernel
theorem dX7_bound_144 : decode cX7_bound 144 = .ok (.bipush 85, 2) := by decide +kernel
theorem dX7_bound_146 : decode cX7_bound 146 = .ok (.bipush 20, 2) := by decide +kernel
theorem dX7_bound_148 : decode cX7_bound 148 = .ok (.invokevirtual 182, 3) := by decide +kernel
theorem dX7_bound_151 : decode cX7_bound 151 = .ok (.ireturn, 1) := by decide +kernel
theorem dX7_see_0 : decode cX7_see 0 = .ok (.iload_n 1, 1) := by decide +kernel
theorem dX7_see_1 : decode cX7_see 1 = .ok (.invokestatic 96, 3) := by decide +kernel
theorem dX7_see_4 : decode cX7_see 4 = .ok (.ifCond .eq 9, 3) := by decide +kernel
theorem dX7_see_7 : decode cX7_see 7 = .ok (.aload_n 0, 1) := by decide +kernel
theorem dX7_see_8 : decode cX7_see 8 = .ok (.iconst (-1), 1) := by decide +kernel
theorem dX7_see_9 : decode cX7_see 9 = .ok (.invokevirtual 71, 3) := by decide +kernel
theorem dX7_see_12 : decode cX7_see 12 = .ok (.ireturn, 1) := by decide +kernel
theorem dX7_see_13 : decode cX7_see 13 = .ok (.aload_n 0, 1) := by decide +kernel
theorem dX7_see_14 : decode cX7_see 14 = .ok (.iload_n 1, 1) := by decide +kernel
theorem dX7_see_15 : decode cX7_see 15 = .ok (.iload_n 2, 1) := by decide +kernel
theorem dX7_see_16 : decode cX7_see 16 = .ok (.iload_n 3, 1) := by decide +kernel
theorem dX7_see_17 : decode cX7_see 17 = .ok (.iload 4, 2) := by decide +kernel
theorem dX7_see_19 : decode cX7_see 19 = .ok (.i2l, 1) := by decide +kernel
theorem dX7_see_20 : decode cX7_see 20 = .ok (.invokevirtual 100, 3) := by decide +kernel
theorem dX7_see_23 : decode cX7_see 23 = .ok (.istore 5, 2) := by decide +kernel
theorem dX7_see_25 : decode cX7_see 25 = .ok (.iload 5, 2) := by decide +kernel
theorem dX7_see_27 : decode cX7_see 27 = .ok (.ifCond .ge 6, 3) := by decide +kernel
theorem dX7_see_30 : decode cX7_see 30 = .ok (.iload 5, 2) := by decide +kernel
theorem dX7_see_32 : decode cX7_see 32 = .ok (.ireturn, 1) := by decide +kernel
theorem dX7_see_33 : decode cX7_see 33 = .ok (.bipush 60, 2) := by decide +kernel
theorem dX7_see_35 : decode cX7_see 35 = .ok (.iload_n 1, 1) := by decide +kernel
theorem dX7_see_36 : decode cX7_see 36 = .ok (.imul, 1) := by decide +kernel
theorem dX7_see_37 : decode cX7_see 37 = .ok (.iload_n 3, 1) := by decide +kernel
theorem dX7_see_38 : decode cX7_see 38 = .ok (.iadd, 1) := by decide +kernel
theorem dX7_see_39 : decode cX7_see 39 = .ok (.istore 6, 2) := by decide +kernel
theorem dX7_see_41 : decode cX7_see 41 = .ok (.aload_n 0, 1) := by decide +kernel
theorem dX7_see_42 : decode cX7_see 42 = .ok (.iload 6, 2) := by decide +kernel
theorem dX7_see_44 : decode cX7_see 44 = .ok (.iload 4, 2) := by decide +kernel
theorem dX7_see_46 : decode cX7_see 46 = .ok (.invokevirtual 104, 3) := by decide +kernel
theorem dX7_see_49 : decode cX7_see 49 = .ok (.ifCond .ne 10, 3) := by decide +kernel
theorem dX7_see_52 : decode cX7_see 52 = .ok (.aload_n 0, 1) := by decide +kernel
theorem dX7_see_53 : decode cX7_see 53 = .ok (.bipush (-2), 2) := by decide +kernel
theorem dX7_see_55 : decode cX7_see 55 = .ok (.invokevirtual 71, 3) := by decide +kernel
theorem dX7_see_58 : decode cX7_see 58 = .ok (.ireturn, 1) := by decide +kernel
theorem dX7_see_59 : decode cX7_see 59 = .ok (.aload_n 0, 1) := by decide +kernel
theorem dX7_see_60 : decode cX7_see 60 = .ok (.iload 4, 2) := by decide +kernel
theorem dX7_see_62 : decode cX7_see 62 = .ok (.putfield 238, 3) := by decide +kernel
theorem dX7_see_65 : decode cX7_see 65 = .ok (.aload_n 0, 1) := by decide +kernel
theorem dX7_see_66 : decode cX7_see 66 = .ok (.bipush 88, 2) := by decide +kernel
theorem dX7_see_68 : decode cX7_see 68 = .ok (.iconst 0, 1) := by decide +kernel
theorem dX7_see_69 : decode cX7_see 69 = .ok (.lconst 0, 1) := by decide +kernel
theorem dX7_see_70 : decode cX7_see 70 = .ok (.invokevirtual 88, 3) := by decide +kernel
theorem dX7_see_73 : decode cX7_see 73 = .ok (.iconst 1, 1) := by decide +kernel
theorem dX7_see_74 : decode cX7_see 74 = .ok (.istore 7, 2) := by decide +kernel
theorem dX7_see_76 : decode cX7_see 76 = .ok (.iload 7, 2) := by decide +kernel
theorem dX7_see_78 : decode cX7_see 78 = .ok (.bipush 41, 2) := by decide +kernel
theorem dX7_see_80 : decode cX7_see 80 = .ok (.if_icmp .ge 52, 3) := by decide +kernel
theorem dX7_see_83 : decode cX7_see 83 = .ok (.aload_n 0, 1) := by decide +kernel
theorem dX7_see_84 : decode cX7_see 84 = .ok (.bipush 88, 2) := by decide +kernel
theorem dX7_see_86 : decode cX7_see 86 = .ok (.iload 7, 2) := by decide +kernel
theorem dX7_see_88 : decode cX7_see 88 = .ok (.aload_n 0, 1) := by decide +kernel
theorem dX7_see_89 : decode cX7_see 89 = .ok (.bipush 88, 2) := by decide +kernel
theorem dX7_see_91 : decode cX7_see 91 = .ok (.iload 7, 2) := by decide +kernel
theorem dX7_see_93 : decode cX7_see 93 = .ok (.iconst 1, 1) := by decide +kernel
theorem dX7_see_94 : decode cX7_see 94 = .ok (.isub, 1) := by decide +kernel
theorem dX7_see_95 : decode cX7_see 95 = .ok (.invokevirtual 108, 3) := by decide +kernel
theorem dX7_see_98 : decode cX7_see 98 = .ok (.iload 7, 2) := by decide +kernel
theorem dX7_see_100 : decode cX7_see 100 = .ok (.iload 4, 2) := by decide +kernel
theorem dX7_see_102 : decode cX7_see 102 = .ok (.if_icmp .gt 18, 3) := by decide +kernel
theorem dX7_see_105 : decode cX7_see 105 = .ok (.aload_n 0, 1) := by decide +kernel
theorem dX7_see_106 : decode cX7_see 106 = .ok (.getfield 49, 3) := by decide +kernel
theorem dX7_see_109 : decode cX7_see 109 = .ok (.iload 6, 2) := by decide +kernel
theorem dX7_see_111 : decode cX7_see 111 = .ok (.iload 7, 2) := by decide +kernel
theorem dX7_see_113 : decode cX7_see 113 = .ok (.iadd, 1) := by decide +kernel
theorem dX7_see_114 : decode cX7_see 114 = .ok (.iconst 1, 1) := by decide +kernel
theorem dX7_see_115 : decode cX7_see 115 = .ok (.isub, 1) := by decide +kernel
theorem dX7_see_116 : decode cX7_see 116 = .ok (.iaload, 1) := by decide +kernel
theorem dX7_see_117 : decode cX7_see 117 = .ok (.goto 4, 3) := by decide +kernel
theorem dX7_see_120 : decode cX7_see 120 = .ok (.iconst 0, 1) := by decide +kernel
theorem dX7_see_121 : decode cX7_see 121 = .ok (.iadd, 1) := by decide +kernel
theorem dX7_see_122 : decode cX7_see 122 = .ok (.i2l, 1) := by decide +kernel
theorem dX7_see_123 : decode cX7_see 123 = .ok (.invokevirtual 88, 3) := by decide +kernel
theorem dX7_see_126 : decode cX7_see 126 = .ok (.iinc 7 1, 3) := by decide +kernel
theorem dX7_see_129 : decode cX7_see 129 = .ok (.goto (-53), 3) := by decide +kernel
theorem dX7_see_132 : decode cX7_see 132 = .ok (.aload_n 0, 1) := by decide +kernel
theorem dX7_see_133 : decode cX7_see 133 = .ok (.iload 4, 2) := by decide +kernel
theorem dX7_see_135 : decode cX7_see 135 = .ok (.invokevirtual 71, 3) := by decide +kernel
theorem dX7_see_138 : decode cX7_see 138 = .ok (.ireturn, 1) := by decide +kernel
theorem dX7_breaks_0 : decode cX7_breaks 0 = .ok (.iconst 1, 1) := by decide +kernel
theorem dX7_breaks_1 : decode cX7_breaks 1 = .ok (.istore_n 2, 1) := by decide +kernel
theorem dX7_breaks_2 : decode cX7_breaks 2 = .ok (.iload_n 2, 1) := by decide +kernel
theorem dX7_breaks_3 : decode cX7_breaks 3 = .ok (.aload_n 0, 1) := by decide +kernel
theorem dX7_breaks_4 : decode cX7_breaks 4 = .ok (.getfield 238, 3) := by decide +kernel
theorem dX7_breaks_7 : decode cX7_breaks 7 = .ok (.if_icmp .gt 56, 3) := by decide +kernel
theorem dX7_breaks_10 : decode cX7_breaks 10 = .ok (.iload_n 2, 1) := by decide +kernel
theorem dX7_breaks_11 : decode cX7_breaks 11 = .ok (.iconst 1, 1) := by decide +kernel
theorem dX7_breaks_12 : decode cX7_breaks 12 = .ok (.isub, 1) := by decide +kernel
theorem dX7_breaks_13 : decode cX7_breaks 13 = .ok (.istore_n 3, 1) := by decide +kernel
theorem dX7_breaks_14 : decode cX7_breaks 14 = .ok (.iload_n 3, 1) := by decide +kernel
theorem dX7_breaks_15 : decode cX7_breaks 15 = .ok (.ifCond .lt 42, 3) := by decide +kernel
theorem dX7_breaks_18 : decode cX7_breaks 18 = .ok (.aload_n 0, 1) := by decide +kernel
theorem dX7_breaks_19 : decode cX7_breaks 19 = .ok (.bipush 88, 2) := by decide +kernel
theorem dX7_breaks_21 : decode cX7_breaks 21 = .ok (.iload_n 2, 1) := by decide +kernel
theorem dX7_breaks_22 : decode cX7_breaks 22 = .ok (.invokevirtual 108, 3) := by decide +kernel
theorem dX7_breaks_25 : decode cX7_breaks 25 = .ok (.aload_n 0, 1) := by decide +kernel
theorem dX7_breaks_26 : decode cX7_breaks 26 = .ok (.bipush 88, 2) := by decide +kernel
theorem dX7_breaks_28 : decode cX7_breaks 28 = .ok (.iload_n 3, 1) := by decide +kernel
theorem dX7_breaks_29 : decode cX7_breaks 29 = .ok (.invokevirtual 108, 3) := by decide +kernel
theorem dX7_breaks_32 : decode cX7_breaks 32 = .ok (.isub, 1) := by decide +kernel
theorem dX7_breaks_33 : decode cX7_breaks 33 = .ok (.aload_n 0, 1) := by decide +kernel
theorem dX7_breaks_34 : decode cX7_breaks 34 = .ok (.iload_n 1, 1) := by decide +kernel
theorem dX7_breaks_35 : decode cX7_breaks 35 = .ok (.iload_n 2, 1) := by decide +kernel
theorem dX7_breaks_36 : decode cX7_breaks 36 = .ok (.iload_n 3, 1) := by decide +kernel
theorem dX7_breaks_37 : decode cX7_breaks 37 = .ok (.isub, 1) := by decide +kernel
theorem dX7_breaks_38 : decode cX7_breaks 38 = .ok (.invokevirtual 108, 3) := by decide +kernel
theorem dX7_breaks_41 : decode cX7_breaks 41 = .ok (.if_icmp .le 10, 3) := by decide +kernel
theorem dX7_breaks_44 : decode cX7_breaks 44 = .ok (.bipush 100, 2) := by decide +kernel
theorem dX7_breaks_46 : decode cX7_breaks 46 = .ok (.iload_n 2, 1) := by decide +kernel
theorem dX7_breaks_47 : decode cX7_breaks 47 = .ok (.imul, 1) := by decide +kernel
theorem dX7_breaks_48 : decode cX7_breaks 48 = .ok (.iload_n 3, 1) := by decide +kernel
theorem dX7_breaks_49 : decode cX7_breaks 49 = .ok (.iadd, 1) := by decide +kernel
theorem dX7_breaks_50 : decode cX7_breaks 50 = .ok (.ireturn, 1) := by decide +kernel
theorem dX7_breaks_51 : decode cX7_breaks 51 = .ok (.iinc 3 (-1), 3) := by decide +kernel
theorem dX7_breaks_54 : decode cX7_breaks 54 = .ok (.goto (-40), 3) := by decide +kernel
theorem dX7_breaks_57 : decode cX7_breaks 57 = .ok (.iinc 2 1, 3) := by decide +kernel
theorem dX7_breaks_60 : decode cX7_breaks 60 = .ok (.goto (-58), 3) := by decide +kernel
theorem dX7_breaks_63 : decode cX7_breaks 63 = .ok (.bipush (-9), 2) := by decide +kernel
theorem dX7_breaks_65 : decode cX7_breaks 65 = .ok (.ireturn, 1) := by decide +kernel
theorem dX7_keeps_0 : decode cX7_keeps 0 = .ok (.aload_n 0, 1) := by decide +kernel
theorem dX7_keeps_1 : decode cX7_keeps 1 = .ok (.iload_n 1, 1) := by decide +kernel
theorem dX7_keeps_2 : decode cX7_keeps 2 = .ok (.invokevirtual 161, 3) := by decide +kernel
theorem dX7_keeps_5 : decode cX7_keeps 5 = .ok (.ifCond .eq 5, 3) := by decide +kernel
theorem dX7_keeps_8 : decode cX7_keeps 8 = .ok (.iconst (-1), 1) := by decide +kernel
theorem dX7_keeps_9 : decode cX7_keeps 9 = .ok (.ireturn, 1) := by decide +kernel
theorem dX7_keeps_10 : decode cX7_keeps 10 = .ok (.iload_n 2, 1) := by decide +kernel
theorem dX7_keeps_11 : decode cX7_keeps 11 = .ok (.i2l, 1) := by decide +kernel
theorem dX7_keeps_12 : decode cX7_keeps 12 = .ok (.lconst 0, 1) := by decide +kernel
theorem dX7_keeps_13 : decode cX7_keeps 13 = .ok (.lconst 1, 1) := by decide +kernel
theorem dX7_keeps_14 : decode cX7_keeps 14 = .ok (.invokestatic 67, 3) := by decide +kernel
theorem dX7_keeps_17 : decode cX7_keeps 17 = .ok (.ifCond .ne 6, 3) := by decide +kernel
theorem dX7_keeps_20 : decode cX7_keeps 20 = .ok (.bipush (-2), 2) := by decide +kernel
theorem dX7_keeps_22 : decode cX7_keeps 22 = .ok (.ireturn, 1) := by decide +kernel
theorem dX7_keeps_23 : decode cX7_keeps 23 = .ok (.aload_n 0, 1) := by decide +kernel
theorem dX7_keeps_24 : decode cX7_keeps 24 = .ok (.getfield 238, 3) := by decide +kernel
theorem dX7_keeps_27 : decode cX7_keeps 27 = .ok (.ifCond .ne 6, 3) := by decide +kernel
theorem dX7_keeps_30 : decode cX7_keeps 30 = .ok (.bipush (-3), 2) := by decide +kernel
theorem dX7_keeps_32 : decode cX7_keeps 32 = .ok (.ireturn, 1) := by decide +kernel
theorem dX7_keeps_33 : decode cX7_keeps 33 = .ok (.aload_n 0, 1) := by decide +kernel
theorem dX7_keeps_34 : decode cX7_keeps 34 = .ok (.iload_n 1, 1) := by decide +kernel
theorem dX7_keeps_35 : decode cX7_keeps 35 = .ok (.invokevirtual 241, 3) := by decide +kernel
theorem dX7_keeps_38 : decode cX7_keeps 38 = .ok (.istore_n 3, 1) := by decide +kernel
theorem dX7_keeps_39 : decode cX7_keeps 39 = .ok (.iload_n 2, 1) := by decide +kernel
theorem dX7_keeps_40 : decode cX7_keeps 40 = .ok (.iconst 1, 1) := by decide +kernel
theorem dX7_keeps_41 : decode cX7_keeps 41 = .ok (.if_icmp .ne 7, 3) := by decide +kernel
theorem dX7_keeps_44 : decode cX7_keeps 44 = .ok (.iload_n 3, 1) := by decide +kernel
theorem dX7_keeps_45 : decode cX7_keeps 45 = .ok (.goto 12, 3) := by decide +kernel
theorem dX7_keeps_48 : decode cX7_keeps 48 = .ok (.iload_n 3, 1) := by decide +kernel
theorem dX7_keeps_49 : decode cX7_keeps 49 = .ok (.ifCond .ge 7, 3) := by decide +kernel
theorem dX7_keeps_52 : decode cX7_keeps 52 = .ok (.iconst 1, 1) := by decide +kernel
theorem dX7_keeps_53 : decode cX7_keeps 53 = .ok (.goto 4, 3) := by decide +kernel
theorem dX7_keeps_56 : decode cX7_keeps 56 = .ok (.iconst 0, 1) := by decide +kernel
theorem dX7_keeps_57 : decode cX7_keeps 57 = .ok (.ireturn, 1) := by decide +kernel
theorem dX7_burst_0 : decode cX7_burst 0 = .ok (.iload_n 1, 1) := by decide +kernel
theorem dX7_burst_1 : decode cX7_burst 1 = .ok (.i2l, 1) := by decide +kernel
theorem dX7_burst_2 : decode cX7_burst 2 = .ok (.lconst 0, 1) := by decide +kernel
theorem dX7_burst_3 : decode cX7_burst 3 = .ok (.ldc2_w 94, 3) := by decide +kernel
theorem dX7_burst_6 : decode cX7_burst 6 = .ok (.invokestatic 67, 3) := by decide +kernel
theorem dX7_burst_9 : decode cX7_burst 9 = .ok (.ifCond .ne 6, 3) := by decide +kernel
theorem dX7_burst_12 : decode cX7_burst 12 = .ok (.bipush (-2), 2) := by decide +kernel
theorem dX7_burst_14 : decode cX7_burst 14 = .ok (.ireturn, 1) := by decide +kernel
theorem dX7_burst_15 : decode cX7_burst 15 = .ok (.aload_n 0, 1) := by decide +kernel
theorem dX7_burst_16 : decode cX7_burst 16 = .ok (.getfield 238, 3) := by decide +kernel
theorem dX7_burst_19 : decode cX7_burst 19 = .ok (.ifCond .ne 6, 3) := by decide +kernel
theorem dX7_burst_22 : decode cX7_burst 22 = .ok (.bipush (-3), 2) := by decide +kernel
theorem dX7_burst_24 : decode cX7_burst 24 = .ok (.ireturn, 1) := by decide +kernel
theorem dX7_burst_25 : decode cX7_burst 25 = .ok (.iconst 0, 1) := by decide +kernel
theorem dX7_burst_26 : decode cX7_burst 26 = .ok (.istore_n 2, 1) := by decide +kernel
theorem dX7_burst_27 : decode cX7_burst 27 = .ok (.iconst 1, 1) := by decide +kernel
theorem dX7_burst_28 : decode cX7_burst 28 = .ok (.istore_n 3, 1) := by decide +kernel
theorem dX7_burst_29 : decode cX7_burst 29 = .ok (.iload_n 3, 1) := by decide +kernel
theorem dX7_burst_30 : decode cX7_burst 30 = .ok (.aload_n 0, 1) := by decide +kernel
theorem dX7_burst_31 : decode cX7_burst 31 = .ok (.getfield 238, 3) := by decide +kernel
theorem dX7_burst_34 : decode cX7_burst 34 = .ok (.if_icmp .gt 52, 3) := by decide +kernel
theorem dX7_burst_37 : decode cX7_burst 37 = .ok (.iconst 0, 1) := by decide +kernel
theorem dX7_burst_38 : decode cX7_burst 38 = .ok (.istore 4, 2) := by decide +kernel
theorem dX7_burst_40 : decode cX7_burst 40 = .ok (.iload 4, 2) := by decide +kernel
theorem dX7_burst_42 : decode cX7_burst 42 = .ok (.iload_n 3, 1) := by decide +kernel
theorem dX7_burst_43 : decode cX7_burst 43 = .ok (.if_icmp .ge 37, 3) := by decide +kernel
theorem dX7_burst_46 : decode cX7_burst 46 = .ok (.iload_n 2, 1) := by decide +kernel
theorem dX7_burst_47 : decode cX7_burst 47 = .ok (.aload_n 0, 1) := by decide +kernel
theorem dX7_burst_48 : decode cX7_burst 48 = .ok (.bipush 88, 2) := by decide +kernel
theorem dX7_burst_50 : decode cX7_burst 50 = .ok (.iload_n 3, 1) := by decide +kernel
theorem dX7_burst_51 : decode cX7_burst 51 = .ok (.invokevirtual 108, 3) := by decide +kernel
theorem dX7_burst_54 : decode cX7_burst 54 = .ok (.aload_n 0, 1) := by decide +kernel
theorem dX7_burst_55 : decode cX7_burst 55 = .ok (.bipush 88, 2) := by decide +kernel
theorem dX7_burst_57 : decode cX7_burst 57 = .ok (.iload 4, 2) := by decide +kernel
theorem dX7_burst_59 : decode cX7_burst 59 = .ok (.invokevirtual 108, 3) := by decide +kernel
theorem dX7_burst_62 : decode cX7_burst 62 = .ok (.isub, 1) := by decide +kernel
theorem dX7_burst_63 : decode cX7_burst 63 = .ok (.iload_n 1, 1) := by decide +kernel
theorem dX7_burst_64 : decode cX7_burst 64 = .ok (.iload_n 3, 1) := by decide +kernel
theorem dX7_burst_65 : decode cX7_burst 65 = .ok (.iload 4, 2) := by decide +kernel
theorem dX7_burst_67 : decode cX7_burst 67 = .ok (.isub, 1) := by decide +kernel
theorem dX7_burst_68 : decode cX7_burst 68 = .ok (.imul, 1) := by decide +kernel
theorem dX7_burst_69 : decode cX7_burst 69 = .ok (.isub, 1) := by decide +kernel
theorem dX7_burst_70 : decode cX7_burst 70 = .ok (.invokestatic 171, 3) := by decide +kernel
theorem dX7_burst_73 : decode cX7_burst 73 = .ok (.istore_n 2, 1) := by decide +kernel
theorem dX7_burst_74 : decode cX7_burst 74 = .ok (.iinc 4 1, 3) := by decide +kernel
theorem dX7_burst_77 : decode cX7_burst 77 = .ok (.goto (-37), 3) := by decide +kernel
theorem dX7_burst_80 : decode cX7_burst 80 = .ok (.iinc 3 1, 3) := by decide +kernel
theorem dX7_burst_83 : decode cX7_burst 83 = .ok (.goto (-54), 3) := by decide +kernel
theorem dX7_burst_86 : decode cX7_burst 86 = .ok (.iload_n 2, 1) := by decide +kernel
theorem dX7_burst_87 : decode cX7_burst 87 = .ok (.ireturn, 1) := by decide +kernel
theorem dX7_shape_0 : decode cX7_shape 0 = .ok (.aload_n 0, 1) := by decide +kernel
theorem dX7_shape_1 : decode cX7_shape 1 = .ok (.iload_n 1, 1) := by decide +kernel
theorem dX7_shape_2 : decode cX7_shape 2 = .ok (.invokevirtual 161, 3) := by decide +kernel
theorem dX7_shape_5 : decode cX7_shape 5 = .ok (.ifCond .eq 5, 3) := by decide +kernel
theorem dX7_shape_8 : decode cX7_shape 8 = .ok (.iconst (-1), 1) := by decide +kernel
theorem dX7_shape_9 : decode cX7_shape 9 = .ok (.ireturn, 1) := by decide +kernel
theorem dX7_shape_10 : decode cX7_shape 10 = .ok (.iload_n 2, 1) := by decide +kernel
theorem dX7_shape_11 : decode cX7_shape 11 = .ok (.i2l, 1) := by decide +kernel
theorem dX7_shape_12 : decode cX7_shape 12 = .ok (.lconst 0, 1) := by decide +kernel
theorem dX7_shape_13 : decode cX7_shape 13 = .ok (.lconst 1, 1) := by decide +kernel
theorem dX7_shape_14 : decode cX7_shape 14 = .ok (.invokestatic 67, 3) := by decide +kernel
theorem dX7_shape_17 : decode cX7_shape 17 = .ok (.ifCond .ne 20, 3) := by decide +kernel
theorem dX7_shape_20 : decode cX7_shape 20 = .ok (.iload_n 2, 1) := by decide +kernel
theorem dX7_shape_21 : decode cX7_shape 21 = .ok (.i2l, 1) := by decide +kernel
theorem dX7_shape_22 : decode cX7_shape 22 = .ok (.ldc2_w 244, 3) := by decide +kernel
theorem dX7_shape_25 : decode cX7_shape 25 = .ok (.ldc2_w 246, 3) := by decide +kernel
theorem dX7_shape_28 : decode cX7_shape 28 = .ok (.invokestatic 67, 3) := by decide +kernel
theorem dX7_shape_31 : decode cX7_shape 31 = .ok (.ifCond .ne 6, 3) := by decide +kernel
theorem dX7_shape_34 : decode cX7_shape 34 = .ok (.bipush (-2), 2) := by decide +kernel
theorem dX7_shape_36 : decode cX7_shape 36 = .ok (.ireturn, 1) := by decide +kernel
theorem dX7_shape_37 : decode cX7_shape 37 = .ok (.aload_n 0, 1) := by decide +kernel
theorem dX7_shape_38 : decode cX7_shape 38 = .ok (.getfield 238, 3) := by decide +kernel
theorem dX7_shape_41 : decode cX7_shape 41 = .ok (.ifCond .ne 6, 3) := by decide +kernel
theorem dX7_shape_44 : decode cX7_shape 44 = .ok (.bipush (-3), 2) := by decide +kernel
theorem dX7_shape_46 : decode cX7_shape 46 = .ok (.ireturn, 1) := by decide +kernel
theorem dX7_shape_47 : decode cX7_shape 47 = .ok (.aload_n 0, 1) := by decide +kernel
theorem dX7_shape_48 : decode cX7_shape 48 = .ok (.iconst 2, 1) := by decide +kernel
theorem dX7_shape_49 : decode cX7_shape 49 = .ok (.bipush 88, 2) := by decide +kernel
theorem dX7_shape_51 : decode cX7_shape 51 = .ok (.iload_n 1, 1) := by decide +kernel
theorem dX7_shape_52 : decode cX7_shape 52 = .ok (.bipush 89, 2) := by decide +kernel
theorem dX7_shape_54 : decode cX7_shape 54 = .ok (.invokevirtual 157, 3) := by decide +kernel
theorem dX7_shape_57 : decode cX7_shape 57 = .ok (.iload_n 2, 1) := by decide +kernel
theorem dX7_shape_58 : decode cX7_shape 58 = .ok (.ifCond .ne 14, 3) := by decide +kernel
theorem dX7_shape_61 : decode cX7_shape 61 = .ok (.aload_n 0, 1) := by decide +kernel
theorem dX7_shape_62 : decode cX7_shape 62 = .ok (.bipush 88, 2) := by decide +kernel
theorem dX7_shape_64 : decode cX7_shape 64 = .ok (.bipush 89, 2) := by decide +kernel
theorem dX7_shape_66 : decode cX7_shape 66 = .ok (.invokevirtual 185, 3) := by decide +kernel
theorem dX7_shape_69 : decode cX7_shape 69 = .ok (.goto 31, 3) := by decide +kernel
theorem dX7_shape_72 : decode cX7_shape 72 = .ok (.iload_n 2, 1) := by decide +kernel
theorem dX7_shape_73 : decode cX7_shape 73 = .ok (.iconst 1, 1) := by decide +kernel
theorem dX7_shape_74 : decode cX7_shape 74 = .ok (.if_icmp .ne 16, 3) := by decide +kernel
theorem dX7_shape_77 : decode cX7_shape 77 = .ok (.aload_n 0, 1) := by decide +kernel
theorem dX7_shape_78 : decode cX7_shape 78 = .ok (.bipush 88, 2) := by decide +kernel
theorem dX7_shape_80 : decode cX7_shape 80 = .ok (.bipush 89, 2) := by decide +kernel
theorem dX7_shape_82 : decode cX7_shape 82 = .ok (.bipush 40, 2) := by decide +kernel
theorem dX7_shape_84 : decode cX7_shape 84 = .ok (.invokevirtual 182, 3) := by decide +kernel
theorem dX7_shape_87 : decode cX7_shape 87 = .ok (.goto 13, 3) := by decide +kernel
theorem dX7_shape_90 : decode cX7_shape 90 = .ok (.aload_n 0, 1) := by decide +kernel
theorem dX7_shape_91 : decode cX7_shape 91 = .ok (.bipush 89, 2) := by decide +kernel
theorem dX7_shape_93 : decode cX7_shape 93 = .ok (.iload_n 2, 1) := by decide +kernel
theorem dX7_shape_94 : decode cX7_shape 94 = .ok (.bipush 100, 2) := by decide +kernel
theorem dX7_shape_96 : decode cX7_shape 96 = .ok (.isub, 1) := by decide +kernel
theorem dX7_shape_97 : decode cX7_shape 97 = .ok (.invokevirtual 108, 3) := by decide +kernel
theorem dX7_shape_100 : decode cX7_shape 100 = .ok (.ireturn, 1) := by decide +kernel
theorem dX7_letIn_0 : decode cX7_letIn 0 = .ok (.aload_n 0, 1) := by decide +kernel
theorem dX7_letIn_1 : decode cX7_letIn 1 = .ok (.iload_n 1, 1) := by decide +kernel
theorem dX7_letIn_2 : decode cX7_letIn 2 = .ok (.invokevirtual 161, 3) := by decide +kernel
theorem dX7_letIn_5 : decode cX7_letIn 5 = .ok (.ifCond .ne 11, 3) := by decide +kernel
theorem dX7_letIn_8 : decode cX7_letIn 8 = .ok (.aload_n 0, 1) := by decide +kernel
theorem dX7_letIn_9 : decode cX7_letIn 9 = .ok (.iload_n 2, 1) := by decide +kernel
theorem dX7_letIn_10 : decode cX7_letIn 10 = .ok (.invokevirtual 161, 3) := by decide +kernel
theorem dX7_letIn_13 : decode cX7_letIn 13 = .ok (.ifCond .eq 5, 3) := by decide +kernel
theorem dX7_letIn_16 : decode cX7_letIn 16 = .ok (.iconst (-1), 1) := by decide +kernel
theorem dX7_letIn_17 : decode cX7_letIn 17 = .ok (.ireturn, 1) := by decide +kernel
theorem dX7_letIn_18 : decode cX7_letIn 18 = .ok (.iload_n 3, 1) := by decide +kernel
theorem dX7_letIn_19 : decode cX7_letIn 19 = .ok (.i2l, 1) := by decide +kernel
theorem dX7_letIn_20 : decode cX7_letIn 20 = .ok (.lconst 0, 1) := by decide +kernel
theorem dX7_letIn_21 : decode cX7_letIn 21 = .ok (.ldc2_w 92, 3) := by decide +kernel
theorem dX7_letIn_24 : decode cX7_letIn 24 = .ok (.invokestatic 67, 3) := by decide +kernel
theorem dX7_letIn_27 : decode cX7_letIn 27 = .ok (.ifCond .ne 6, 3) := by decide +kernel
theorem dX7_letIn_30 : decode cX7_letIn 30 = .ok (.bipush (-2), 2) := by decide +kernel
theorem dX7_letIn_32 : decode cX7_letIn 32 = .ok (.ireturn, 1) := by decide +kernel
theorem dX7_letIn_33 : decode cX7_letIn 33 = .ok (.iconst 1, 1) := by decide +kernel
theorem dX7_letIn_34 : decode cX7_letIn 34 = .ok (.istore 4, 2) := by decide +kernel
theorem dX7_letIn_36 : decode cX7_letIn 36 = .ok (.iload 4, 2) := by decide +kernel
theorem dX7_letIn_38 : decode cX7_letIn 38 = .ok (.bipush 100, 2) := by decide +kernel
theorem dX7_letIn_40 : decode cX7_letIn 40 = .ok (.if_icmp .ge 71, 3) := by decide +kernel
theorem dX7_letIn_43 : decode cX7_letIn 43 = .ok (.iconst 0, 1) := by decide +kernel
theorem dX7_letIn_44 : decode cX7_letIn 44 = .ok (.istore 5, 2) := by decide +kernel
theorem dX7_letIn_46 : decode cX7_letIn 46 = .ok (.iload 5, 2) := by decide +kernel
theorem dX7_letIn_48 : decode cX7_letIn 48 = .ok (.bipush 41, 2) := by decide +kernel
theorem dX7_letIn_50 : decode cX7_letIn 50 = .ok (.if_icmp .ge 28, 3) := by decide +kernel
theorem dX7_letIn_53 : decode cX7_letIn 53 = .ok (.aload_n 0, 1) := by decide +kernel
theorem dX7_letIn_54 : decode cX7_letIn 54 = .ok (.bipush 84, 2) := by decide +kernel
theorem dX7_letIn_56 : decode cX7_letIn 56 = .ok (.iload 5, 2) := by decide +kernel
theorem dX7_letIn_58 : decode cX7_letIn 58 = .ok (.iload 4, 2) := by decide +kernel
theorem dX7_letIn_60 : decode cX7_letIn 60 = .ok (.aload_n 0, 1) := by decide +kernel
theorem dX7_letIn_61 : decode cX7_letIn 61 = .ok (.iload_n 1, 1) := by decide +kernel
theorem dX7_letIn_62 : decode cX7_letIn 62 = .ok (.iload 5, 2) := by decide +kernel
theorem dX7_letIn_64 : decode cX7_letIn 64 = .ok (.invokevirtual 108, 3) := by decide +kernel
theorem dX7_letIn_67 : decode cX7_letIn 67 = .ok (.imul, 1) := by decide +kernel
theorem dX7_letIn_68 : decode cX7_letIn 68 = .ok (.i2l, 1) := by decide +kernel
theorem dX7_letIn_69 : decode cX7_letIn 69 = .ok (.invokevirtual 88, 3) := by decide +kernel
theorem dX7_letIn_72 : decode cX7_letIn 72 = .ok (.iinc 5 1, 3) := by decide +kernel
theorem dX7_letIn_75 : decode cX7_letIn 75 = .ok (.goto (-29), 3) := by decide +kernel
theorem dX7_letIn_78 : decode cX7_letIn 78 = .ok (.aload_n 0, 1) := by decide +kernel
theorem dX7_letIn_79 : decode cX7_letIn 79 = .ok (.bipush 84, 2) := by decide +kernel
theorem dX7_letIn_81 : decode cX7_letIn 81 = .ok (.iload_n 2, 1) := by decide +kernel
theorem dX7_letIn_82 : decode cX7_letIn 82 = .ok (.bipush 20, 2) := by decide +kernel
theorem dX7_letIn_84 : decode cX7_letIn 84 = .ok (.invokevirtual 182, 3) := by decide +kernel
theorem dX7_letIn_87 : decode cX7_letIn 87 = .ok (.istore 5, 2) := by decide +kernel
theorem dX7_letIn_89 : decode cX7_letIn 89 = .ok (.iload 5, 2) := by decide +kernel
theorem dX7_letIn_91 : decode cX7_letIn 91 = .ok (.ifCond .lt 9, 3) := by decide +kernel
theorem dX7_letIn_94 : decode cX7_letIn 94 = .ok (.iload 5, 2) := by decide +kernel
theorem dX7_letIn_96 : decode cX7_letIn 96 = .ok (.iload_n 3, 1) := by decide +kernel
theorem dX7_letIn_97 : decode cX7_letIn 97 = .ok (.if_icmp .le 8, 3) := by decide +kernel
theorem dX7_letIn_100 : decode cX7_letIn 100 = .ok (.iload 4, 2) := by decide +kernel
theorem dX7_letIn_102 : decode cX7_letIn 102 = .ok (.iconst 1, 1) := by decide +kernel
theorem dX7_letIn_103 : decode cX7_letIn 103 = .ok (.isub, 1) := by decide +kernel
theorem dX7_letIn_104 : decode cX7_letIn 104 = .ok (.ireturn, 1) := by decide +kernel
theorem dX7_letIn_105 : decode cX7_letIn 105 = .ok (.iinc 4 1, 3) := by decide +kernel
theorem dX7_letIn_108 : decode cX7_letIn 108 = .ok (.goto (-72), 3) := by decide +kernel
theorem dX7_letIn_111 : decode cX7_letIn 111 = .ok (.bipush 99, 2) := by decide +kernel
theorem dX7_letIn_113 : decode cX7_letIn 113 = .ok (.ireturn, 1) := by decide +kernel
theorem dX7_noSheet_0 : decode cX7_noSheet 0 = .ok (.iload_n 0, 1) := by decide +kernel
theorem dX7_noSheet_1 : decode cX7_noSheet 1 = .ok (.i2l, 1) := by decide +kernel
theorem dX7_noSheet_2 : decode cX7_noSheet 2 = .ok (.lconst 0, 1) := by decide +kernel
theorem dX7_noSheet_3 : decode cX7_noSheet 3 = .ok (.ldc2_w 248, 3) := by decide +kernel
theorem dX7_noSheet_6 : decode cX7_noSheet 6 = .ok (.invokestatic 67, 3) := by decide +kernel
theorem dX7_noSheet_9 : decode cX7_noSheet 9 = .ok (.ifCond .ne 7, 3) := by decide +kernel
theorem dX7_noSheet_12 : decode cX7_noSheet 12 = .ok (.iconst 1, 1) := by decide +kernel
theorem dX7_noSheet_13 : decode cX7_noSheet 13 = .ok (.goto 4, 3) := by decide +kernel
theorem dX7_noSheet_16 : decode cX7_noSheet 16 = .ok (.iconst 0, 1) := by decide +kernel
theorem dX7_noSheet_17 : decode cX7_noSheet 17 = .ok (.ireturn, 1) := by decide +kernel
theorem dX7_sheet_0 : decode cX7_sheet 0 = .ok (.iload_n 1, 1) := by decide +kernel
theorem dX7_sheet_1 : decode cX7_sheet 1 = .ok (.invokestatic 96, 3) := by decide +kernel
theorem dX7_sheet_4 : decode cX7_sheet 4 = .ok (.ifCond .eq 9, 3) := by decide +kernel
theorem dX7_sheet_7 : decode cX7_sheet 7 = .ok (.aload_n 0, 1) := by decide +kernel
theorem dX7_sheet_8 : decode cX7_sheet 8 = .ok (.iconst (-1), 1) := by decide +kernel
theorem dX7_sheet_9 : decode cX7_sheet 9 = .ok (.invokevirtual 71, 3) := by decide +kernel
theorem dX7_sheet_12 : decode cX7_sheet 12 = .ok (.ireturn, 1) := by decide +kernel
theorem dX7_sheet_13 : decode cX7_sheet 13 = .ok (.iload_n 2, 1) := by decide +kernel
theorem dX7_sheet_14 : decode cX7_sheet 14 = .ok (.i2l, 1) := by decide +kernel
theorem dX7_sheet_15 : decode cX7_sheet 15 = .ok (.lconst 0, 1) := by decide +kernel
theorem dX7_sheet_16 : decode cX7_sheet 16 = .ok (.ldc2_w 65, 3) := by decide +kernel
theorem dX7_sheet_19 : decode cX7_sheet 19 = .ok (.invokestatic 67, 3) := by decide +kernel
theorem dX7_sheet_22 : decode cX7_sheet 22 = .ok (.ifCond .eq 9, 3) := by decide +kernel
theorem dX7_sheet_25 : decode cX7_sheet 25 = .ok (.iload_n 3, 1) := by decide +kernel
theorem dX7_sheet_26 : decode cX7_sheet 26 = .ok (.bipush 60, 2) := by decide +kernel
theorem dX7_sheet_28 : decode cX7_sheet 28 = .ok (.if_icmp .le 10, 3) := by decide +kernel
theorem dX7_sheet_31 : decode cX7_sheet 31 = .ok (.aload_n 0, 1) := by decide +kernel
theorem dX7_sheet_32 : decode cX7_sheet 32 = .ok (.bipush (-2), 2) := by decide +kernel
theorem dX7_sheet_34 : decode cX7_sheet 34 = .ok (.invokevirtual 71, 3) := by decide +kernel
theorem dX7_sheet_37 : decode cX7_sheet 37 = .ok (.ireturn, 1) := by decide +kernel
theorem dX7_sheet_38 : decode cX7_sheet 38 = .ok (.iload_n 3, 1) := by decide +kernel
theorem dX7_sheet_39 : decode cX7_sheet 39 = .ok (.ifCond .ge 9, 3) := by decide +kernel
theorem dX7_sheet_42 : decode cX7_sheet 42 = .ok (.aload_n 0, 1) := by decide +kernel
theorem dX7_sheet_43 : decode cX7_sheet 43 = .ok (.iconst 4, 1) := by decide +kernel
theorem dX7_sheet_44 : decode cX7_sheet 44 = .ok (.invokevirtual 75, 3) := by decide +kernel
theorem dX7_sheet_47 : decode cX7_sheet 47 = .ok (.ireturn, 1) := by decide +kernel
theorem dX7_sheet_48 : decode cX7_sheet 48 = .ok (.aload_n 0, 1) := by decide +kernel
theorem dX7_sheet_49 : decode cX7_sheet 49 = .ok (.getfield 43, 3) := by decide +kernel
theorem dX7_sheet_52 : decode cX7_sheet 52 = .ok (.iload_n 1, 1) := by decide +kernel
theorem dX7_sheet_53 : decode cX7_sheet 53 = .ok (.iload_n 3, 1) := by decide +kernel
theorem dX7_sheet_54 : decode cX7_sheet 54 = .ok (.iastore, 1) := by decide +kernel
theorem dX7_sheet_55 : decode cX7_sheet 55 = .ok (.aload_n 0, 1) := by decide +kernel
theorem dX7_sheet_56 : decode cX7_sheet 56 = .ok (.getfield 46, 3) := by decide +kernel
theorem dX7_sheet_59 : decode cX7_sheet 59 = .ok (.iload_n 1, 1) := by decide +kernel
theorem dX7_sheet_60 : decode cX7_sheet 60 = .ok (.iload_n 2, 1) := by decide +kernel
theorem dX7_sheet_61 : decode cX7_sheet 61 = .ok (.iastore, 1) := by decide +kernel
theorem dX7_sheet_62 : decode cX7_sheet 62 = .ok (.iconst 0, 1) := by decide +kernel
theorem dX7_sheet_63 : decode cX7_sheet 63 = .ok (.istore 4, 2) := by decide +kernel
theorem dX7_sheet_65 : decode cX7_sheet 65 = .ok (.iload 4, 2) := by decide +kernel
theorem dX7_sheet_67 : decode cX7_sheet 67 = .ok (.iload_n 3, 1) := by decide +kernel
theorem dX7_sheet_68 : decode cX7_sheet 68 = .ok (.if_icmp .ge 22, 3) := by decide +kernel
theorem dX7_sheet_71 : decode cX7_sheet 71 = .ok (.aload_n 0, 1) := by decide +kernel
theorem dX7_sheet_72 : decode cX7_sheet 72 = .ok (.getfield 49, 3) := by decide +kernel
theorem dX7_sheet_75 : decode cX7_sheet 75 = .ok (.bipush 60, 2) := by decide +kernel
theorem dX7_sheet_77 : decode cX7_sheet 77 = .ok (.iload_n 1, 1) := by decide +kernel
theorem dX7_sheet_78 : decode cX7_sheet 78 = .ok (.imul, 1) := by decide +kernel
theorem dX7_sheet_79 : decode cX7_sheet 79 = .ok (.iload 4, 2) := by decide +kernel
theorem dX7_sheet_81 : decode cX7_sheet 81 = .ok (.iadd, 1) := by decide +kernel
theorem dX7_sheet_82 : decode cX7_sheet 82 = .ok (.iconst 0, 1) := by decide +kernel
theorem dX7_sheet_83 : decode cX7_sheet 83 = .ok (.iastore, 1) := by decide +kernel
theorem dX7_sheet_84 : decode cX7_sheet 84 = .ok (.iinc 4 1, 3) := by decide +kernel
theorem dX7_sheet_87 : decode cX7_sheet 87 = .ok (.goto (-22), 3) := by decide +kernel
theorem dX7_sheet_90 : decode cX7_sheet 90 = .ok (.aload_n 0, 1) := by decide +kernel
theorem dX7_sheet_91 : decode cX7_sheet 91 = .ok (.iconst 1, 1) := by decide +kernel
theorem dX7_sheet_92 : decode cX7_sheet 92 = .ok (.invokevirtual 71, 3) := by decide +kernel
theorem dX7_sheet_95 : decode cX7_sheet 95 = .ok (.ireturn, 1) := by decide +kernel
theorem dX7_lose_0 : decode cX7_lose 0 = .ok (.iload_n 1, 1) := by decide +kernel
theorem dX7_lose_1 : decode cX7_lose 1 = .ok (.invokestatic 96, 3) := by decide +kernel
theorem dX7_lose_4 : decode cX7_lose 4 = .ok (.ifCond .eq 5, 3) := by decide +kernel
theorem dX7_lose_7 : decode cX7_lose 7 = .ok (.iconst (-1), 1) := by decide +kernel
theorem dX7_lose_8 : decode cX7_lose 8 = .ok (.ireturn, 1) := by decide +kernel
theorem dX7_lose_9 : decode cX7_lose 9 = .ok (.aload_n 0, 1) := by decide +kernel
theorem dX7_lose_10 : decode cX7_lose 10 = .ok (.getfield 43, 3) := by decide +kernel
theorem dX7_lose_13 : decode cX7_lose 13 = .ok (.iload_n 1, 1) := by decide +kernel
theorem dX7_lose_14 : decode cX7_lose 14 = .ok (.iaload, 1) := by decide +kernel
theorem dX7_lose_15 : decode cX7_lose 15 = .ok (.ifCond .ge 7, 3) := by decide +kernel
theorem dX7_lose_18 : decode cX7_lose 18 = .ok (.iconst 0, 1) := by decide +kernel
theorem dX7_lose_19 : decode cX7_lose 19 = .ok (.goto 4, 3) := by decide +kernel
theorem dX7_lose_22 : decode cX7_lose 22 = .ok (.iconst 1, 1) := by decide +kernel
theorem dX7_lose_23 : decode cX7_lose 23 = .ok (.istore_n 2, 1) := by decide +kernel
theorem dX7_lose_24 : decode cX7_lose 24 = .ok (.aload_n 0, 1) := by decide +kernel
theorem dX7_lose_25 : decode cX7_lose 25 = .ok (.getfield 43, 3) := by decide +kernel
theorem dX7_lose_28 : decode cX7_lose 28 = .ok (.iload_n 1, 1) := by decide +kernel
theorem dX7_lose_29 : decode cX7_lose 29 = .ok (.iconst (-1), 1) := by decide +kernel
theorem dX7_lose_30 : decode cX7_lose 30 = .ok (.iastore, 1) := by decide +kernel
theorem dX7_lose_31 : decode cX7_lose 31 = .ok (.iload_n 2, 1) := by decide +kernel
theorem dX7_lose_32 : decode cX7_lose 32 = .ok (.ireturn, 1) := by decide +kernel
theorem dX7_noCell_0 : decode cX7_noCell 0 = .ok (.aload_n 0, 1) := by decide +kernel
theorem dX7_noCell_1 : decode cX7_noCell 1 = .ok (.getfield 43, 3) := by decide +kernel
theorem dX7_noCell_4 : decode cX7_noCell 4 = .ok (.iload_n 1, 1) := by decide +kernel
theorem dX7_noCell_5 : decode cX7_noCell 5 = .ok (.iaload, 1) := by decide +kernel
theorem dX7_noCell_6 : decode cX7_noCell 6 = .ok (.ifCond .ge 7, 3) := by decide +kernel
theorem dX7_noCell_9 : decode cX7_noCell 9 = .ok (.iconst 1, 1) := by decide +kernel
theorem dX7_noCell_10 : decode cX7_noCell 10 = .ok (.goto 26, 3) := by decide +kernel
theorem dX7_noCell_13 : decode cX7_noCell 13 = .ok (.iload_n 2, 1) := by decide +kernel
theorem dX7_noCell_14 : decode cX7_noCell 14 = .ok (.i2l, 1) := by decide +kernel
theorem dX7_noCell_15 : decode cX7_noCell 15 = .ok (.lconst 0, 1) := by decide +kernel
theorem dX7_noCell_16 : decode cX7_noCell 16 = .ok (.aload_n 0, 1) := by decide +kernel
theorem dX7_noCell_17 : decode cX7_noCell 17 = .ok (.getfield 43, 3) := by decide +kernel
theorem dX7_noCell_20 : decode cX7_noCell 20 = .ok (.iload_n 1, 1) := by decide +kernel
theorem dX7_noCell_21 : decode cX7_noCell 21 = .ok (.iaload, 1) := by decide +kernel
theorem dX7_noCell_22 : decode cX7_noCell 22 = .ok (.i2l, 1) := by decide +kernel
theorem dX7_noCell_23 : decode cX7_noCell 23 = .ok (.lconst 1, 1) := by decide +kernel
theorem dX7_noCell_24 : decode cX7_noCell 24 = .ok (.lsub, 1) := by decide +kernel
theorem dX7_noCell_25 : decode cX7_noCell 25 = .ok (.invokestatic 67, 3) := by decide +kernel
theorem dX7_noCell_28 : decode cX7_noCell 28 = .ok (.ifCond .eq 7, 3) := by decide +kernel
theorem dX7_noCell_31 : decode cX7_noCell 31 = .ok (.iconst 0, 1) := by decide +kernel
theorem dX7_noCell_32 : decode cX7_noCell 32 = .ok (.goto 4, 3) := by decide +kernel
theorem dX7_noCell_35 : decode cX7_noCell 35 = .ok (.iconst 3, 1) := by decide +kernel
theorem dX7_noCell_36 : decode cX7_noCell 36 = .ok (.ireturn, 1) := by decide +kernel
theorem dX7_put_0 : decode cX7_put 0 = .ok (.iload_n 1, 1) := by decide +kernel
theorem dX7_put_1 : decode cX7_put 1 = .ok (.invokestatic 96, 3) := by decide +kernel
theorem dX7_put_4 : decode cX7_put 4 = .ok (.ifCond .eq 9, 3) := by decide +kernel
theorem dX7_put_7 : decode cX7_put 7 = .ok (.aload_n 0, 1) := by decide +kernel
theorem dX7_put_8 : decode cX7_put 8 = .ok (.iconst (-1), 1) := by decide +kernel
theorem dX7_put_9 : decode cX7_put 9 = .ok (.invokevirtual 71, 3) := by decide +kernel
theorem dX7_put_12 : decode cX7_put 12 = .ok (.ireturn, 1) := by decide +kernel
theorem dX7_put_13 : decode cX7_put 13 = .ok (.aload_n 0, 1) := by decide +kernel
theorem dX7_put_14 : decode cX7_put 14 = .ok (.iload_n 1, 1) := by decide +kernel
theorem dX7_put_15 : decode cX7_put 15 = .ok (.iload_n 2, 1) := by decide +kernel
theorem dX7_put_16 : decode cX7_put 16 = .ok (.invokevirtual 250, 3) := by decide +kernel
theorem dX7_put_19 : decode cX7_put 19 = .ok (.ifCond .le 14, 3) := by decide +kernel
theorem dX7_put_22 : decode cX7_put 22 = .ok (.aload_n 0, 1) := by decide +kernel
theorem dX7_put_23 : decode cX7_put 23 = .ok (.aload_n 0, 1) := by decide +kernel
theorem dX7_put_24 : decode cX7_put 24 = .ok (.iload_n 1, 1) := by decide +kernel
theorem dX7_put_25 : decode cX7_put 25 = .ok (.iload_n 2, 1) := by decide +kernel
theorem dX7_put_26 : decode cX7_put 26 = .ok (.invokevirtual 250, 3) := by decide +kernel
theorem dX7_put_29 : decode cX7_put 29 = .ok (.invokevirtual 75, 3) := by decide +kernel
theorem dX7_put_32 : decode cX7_put 32 = .ok (.ireturn, 1) := by decide +kernel
theorem dX7_put_33 : decode cX7_put 33 = .ok (.aload_n 0, 1) := by decide +kernel
theorem dX7_put_34 : decode cX7_put 34 = .ok (.getfield 49, 3) := by decide +kernel
theorem dX7_put_37 : decode cX7_put 37 = .ok (.bipush 60, 2) := by decide +kernel
theorem dX7_put_39 : decode cX7_put 39 = .ok (.iload_n 1, 1) := by decide +kernel
theorem dX7_put_40 : decode cX7_put 40 = .ok (.imul, 1) := by decide +kernel
theorem dX7_put_41 : decode cX7_put 41 = .ok (.iload_n 2, 1) := by decide +kernel
theorem dX7_put_42 : decode cX7_put 42 = .ok (.iadd, 1) := by decide +kernel
theorem dX7_put_43 : decode cX7_put 43 = .ok (.aload_n 0, 1) := by decide +kernel
theorem dX7_put_44 : decode cX7_put 44 = .ok (.getfield 46, 3) := by decide +kernel
theorem dX7_put_47 : decode cX7_put 47 = .ok (.iload_n 1, 1) := by decide +kernel
theorem dX7_put_48 : decode cX7_put 48 = .ok (.iaload, 1) := by decide +kernel
theorem dX7_put_49 : decode cX7_put 49 = .ok (.ifCond .ne 8, 3) := by decide +kernel
theorem dX7_put_52 : decode cX7_put 52 = .ok (.iload_n 3, 1) := by decide +kernel
theorem dX7_put_53 : decode cX7_put 53 = .ok (.i2b, 1) := by decide +kernel
theorem dX7_put_54 : decode cX7_put 54 = .ok (.goto 19, 3) := by decide +kernel
theorem dX7_put_57 : decode cX7_put 57 = .ok (.aload_n 0, 1) := by decide +kernel
theorem dX7_put_58 : decode cX7_put 58 = .ok (.getfield 46, 3) := by decide +kernel
theorem dX7_put_61 : decode cX7_put 61 = .ok (.iload_n 1, 1) := by decide +kernel
theorem dX7_put_62 : decode cX7_put 62 = .ok (.iaload, 1) := by decide +kernel
theorem dX7_put_63 : decode cX7_put 63 = .ok (.iconst 1, 1) := by decide +kernel
theorem dX7_put_64 : decode cX7_put 64 = .ok (.if_icmp .ne 8, 3) := by decide +kernel
theorem dX7_put_67 : decode cX7_put 67 = .ok (.iload_n 3, 1) := by decide +kernel
theorem dX7_put_68 : decode cX7_put 68 = .ok (.i2s, 1) := by decide +kernel
theorem dX7_put_69 : decode cX7_put 69 = .ok (.goto 4, 3) := by decide +kernel
theorem dX7_put_72 : decode cX7_put 72 = .ok (.iload_n 3, 1) := by decide +kernel
theorem dX7_put_73 : decode cX7_put 73 = .ok (.iastore, 1) := by decide +kernel
theorem dX7_put_74 : decode cX7_put 74 = .ok (.aload_n 0, 1) := by decide +kernel
theorem dX7_put_75 : decode cX7_put 75 = .ok (.iconst 1, 1) := by decide +kernel
theorem dX7_put_76 : decode cX7_put 76 = .ok (.invokevirtual 71, 3) := by decide +kernel
theorem dX7_put_79 : decode cX7_put 79 = .ok (.ireturn, 1) := by decide +kernel
theorem dX7_cell_0 : decode cX7_cell 0 = .ok (.aload_n 0, 1) := by decide +kernel
theorem dX7_cell_1 : decode cX7_cell 1 = .ok (.iconst 0, 1) := by decide +kernel
theorem dX7_cell_2 : decode cX7_cell 2 = .ok (.putfield 57, 3) := by decide +kernel
theorem dX7_cell_5 : decode cX7_cell 5 = .ok (.iload_n 1, 1) := by decide +kernel
theorem dX7_cell_6 : decode cX7_cell 6 = .ok (.invokestatic 96, 3) := by decide +kernel
theorem dX7_cell_9 : decode cX7_cell 9 = .ok (.ifCond .ne 15, 3) := by decide +kernel
theorem dX7_cell_12 : decode cX7_cell 12 = .ok (.iload_n 3, 1) := by decide +kernel
theorem dX7_cell_13 : decode cX7_cell 13 = .ok (.i2l, 1) := by decide +kernel
theorem dX7_cell_14 : decode cX7_cell 14 = .ok (.lconst 0, 1) := by decide +kernel
theorem dX7_cell_15 : decode cX7_cell 15 = .ok (.ldc2_w 65, 3) := by decide +kernel
theorem dX7_cell_18 : decode cX7_cell 18 = .ok (.invokestatic 67, 3) := by decide +kernel
theorem dX7_cell_21 : decode cX7_cell 21 = .ok (.ifCond .ne 7, 3) := by decide +kernel
theorem dX7_cell_24 : decode cX7_cell 24 = .ok (.invokestatic 61, 3) := by decide +kernel
theorem dX7_cell_27 : decode cX7_cell 27 = .ok (.lreturn, 1) := by decide +kernel
theorem dX7_cell_28 : decode cX7_cell 28 = .ok (.aload_n 0, 1) := by decide +kernel
theorem dX7_cell_29 : decode cX7_cell 29 = .ok (.getfield 43, 3) := by decide +kernel
theorem dX7_cell_32 : decode cX7_cell 32 = .ok (.iload_n 1, 1) := by decide +kernel
theorem dX7_cell_33 : decode cX7_cell 33 = .ok (.iaload, 1) := by decide +kernel
theorem dX7_cell_34 : decode cX7_cell 34 = .ok (.ifCond .lt 19, 3) := by decide +kernel
theorem dX7_cell_37 : decode cX7_cell 37 = .ok (.aload_n 0, 1) := by decide +kernel
theorem dX7_cell_38 : decode cX7_cell 38 = .ok (.getfield 46, 3) := by decide +kernel
theorem dX7_cell_41 : decode cX7_cell 41 = .ok (.iload_n 1, 1) := by decide +kernel
theorem dX7_cell_42 : decode cX7_cell 42 = .ok (.iaload, 1) := by decide +kernel
theorem dX7_cell_43 : decode cX7_cell 43 = .ok (.iload_n 3, 1) := by decide +kernel
theorem dX7_cell_44 : decode cX7_cell 44 = .ok (.if_icmp .eq 9, 3) := by decide +kernel
theorem dX7_cell_47 : decode cX7_cell 47 = .ok (.aload_n 0, 1) := by decide +kernel
theorem dX7_cell_48 : decode cX7_cell 48 = .ok (.iconst 2, 1) := by decide +kernel
theorem dX7_cell_49 : decode cX7_cell 49 = .ok (.invokevirtual 253, 3) := by decide +kernel
theorem dX7_cell_52 : decode cX7_cell 52 = .ok (.lreturn, 1) := by decide +kernel
theorem dX7_cell_53 : decode cX7_cell 53 = .ok (.aload_n 0, 1) := by decide +kernel
theorem dX7_cell_54 : decode cX7_cell 54 = .ok (.iload_n 1, 1) := by decide +kernel
theorem dX7_cell_55 : decode cX7_cell 55 = .ok (.iload_n 2, 1) := by decide +kernel
theorem dX7_cell_56 : decode cX7_cell 56 = .ok (.invokevirtual 250, 3) := by decide +kernel
theorem dX7_cell_59 : decode cX7_cell 59 = .ok (.ifCond .le 16, 3) := by decide +kernel
theorem dX7_cell_62 : decode cX7_cell 62 = .ok (.aload_n 0, 1) := by decide +kernel
theorem dX7_cell_63 : decode cX7_cell 63 = .ok (.aload_n 0, 1) := by decide +kernel
theorem dX7_cell_64 : decode cX7_cell 64 = .ok (.iload_n 1, 1) := by decide +kernel
theorem dX7_cell_65 : decode cX7_cell 65 = .ok (.iload_n 2, 1) := by decide +kernel
theorem dX7_cell_66 : decode cX7_cell 66 = .ok (.invokevirtual 250, 3) := by decide +kernel
theorem dX7_cell_69 : decode cX7_cell 69 = .ok (.invokevirtual 253, 3) := by decide +kernel
theorem dX7_cell_72 : decode cX7_cell 72 = .ok (.goto 15, 3) := by decide +kernel
theorem dX7_cell_75 : decode cX7_cell 75 = .ok (.aload_n 0, 1) := by decide +kernel
theorem dX7_cell_76 : decode cX7_cell 76 = .ok (.getfield 49, 3) := by decide +kernel
theorem dX7_cell_79 : decode cX7_cell 79 = .ok (.bipush 60, 2) := by decide +kernel
theorem dX7_cell_81 : decode cX7_cell 81 = .ok (.iload_n 1, 1) := by decide +kernel
theorem dX7_cell_82 : decode cX7_cell 82 = .ok (.imul, 1) := by decide +kernel
theorem dX7_cell_83 : decode cX7_cell 83 = .ok (.iload_n 2, 1) := by decide +kernel
theorem dX7_cell_84 : decode cX7_cell 84 = .ok (.iadd, 1) := by decide +kernel
theorem dX7_cell_85 : decode cX7_cell 85 = .ok (.iaload, 1) := by decide +kernel
theorem dX7_cell_86 : decode cX7_cell 86 = .ok (.i2l, 1) := by decide +kernel
theorem dX7_cell_87 : decode cX7_cell 87 = .ok (.lreturn, 1) := by decide +kernel
theorem dX7_isBeyond_0 : decode cX7_isBeyond 0 = .ok (.iload_n 0, 1) := by decide +kernel
theorem dX7_isBeyond_1 : decode cX7_isBeyond 1 = .ok (.ifCond .lt 19, 3) := by decide +kernel
theorem dX7_isBeyond_4 : decode cX7_isBeyond 4 = .ok (.lload_n 1, 1) := by decide +kernel
theorem dX7_isBeyond_5 : decode cX7_isBeyond 5 = .ok (.lconst 0, 1) := by decide +kernel
theorem dX7_isBeyond_6 : decode cX7_isBeyond 6 = .ok (.lcmp, 1) := by decide +kernel
theorem dX7_isBeyond_7 : decode cX7_isBeyond 7 = .ok (.ifCond .lt 13, 3) := by decide +kernel
theorem dX7_isBeyond_10 : decode cX7_isBeyond 10 = .ok (.iload_n 0, 1) := by decide +kernel
theorem dX7_isBeyond_11 : decode cX7_isBeyond 11 = .ok (.i2l, 1) := by decide +kernel
theorem dX7_isBeyond_12 : decode cX7_isBeyond 12 = .ok (.lload_n 1, 1) := by decide +kernel
theorem dX7_isBeyond_13 : decode cX7_isBeyond 13 = .ok (.ladd, 1) := by decide +kernel
theorem dX7_isBeyond_14 : decode cX7_isBeyond 14 = .ok (.iload_n 3, 1) := by decide +kernel
theorem dX7_isBeyond_15 : decode cX7_isBeyond 15 = .ok (.i2l, 1) := by decide +kernel
theorem dX7_isBeyond_16 : decode cX7_isBeyond 16 = .ok (.lcmp, 1) := by decide +kernel
theorem dX7_isBeyond_17 : decode cX7_isBeyond 17 = .ok (.ifCond .le 7, 3) := by decide +kernel
theorem dX7_isBeyond_20 : decode cX7_isBeyond 20 = .ok (.iconst 1, 1) := by decide +kernel
theorem dX7_isBeyond_21 : decode cX7_isBeyond 21 = .ok (.goto 4, 3) := by decide +kernel
theorem dX7_isBeyond_24 : decode cX7_isBeyond 24 = .ok (.iconst 0, 1) := by decide +kernel
theorem dX7_isBeyond_25 : decode cX7_isBeyond 25 = .ok (.ireturn, 1) := by decide +kernel
theorem dX7_copy_0 : decode cX7_copy 0 = .ok (.iload_n 1, 1) := by decide +kernel
theorem dX7_copy_1 : decode cX7_copy 1 = .ok (.invokestatic 96, 3) := by decide +kernel
theorem dX7_copy_4 : decode cX7_copy 4 = .ok (.ifCond .ne 10, 3) := by decide +kernel
theorem dX7_copy_7 : decode cX7_copy 7 = .ok (.iload_n 3, 1) := by decide +kernel
theorem dX7_copy_8 : decode cX7_copy 8 = .ok (.invokestatic 96, 3) := by decide +kernel
theorem dX7_copy_11 : decode cX7_copy 11 = .ok (.ifCond .eq 9, 3) := by decide +kernel
theorem dX7_copy_14 : decode cX7_copy 14 = .ok (.aload_n 0, 1) := by decide +kernel
theorem dX7_copy_15 : decode cX7_copy 15 = .ok (.iconst (-1), 1) := by decide +kernel
theorem dX7_copy_16 : decode cX7_copy 16 = .ok (.invokevirtual 71, 3) := by decide +kernel
theorem dX7_copy_19 : decode cX7_copy 19 = .ok (.ireturn, 1) := by decide +kernel
theorem dX7_copy_20 : decode cX7_copy 20 = .ok (.aload_n 0, 1) := by decide +kernel
theorem dX7_copy_21 : decode cX7_copy 21 = .ok (.getfield 43, 3) := by decide +kernel
theorem dX7_copy_24 : decode cX7_copy 24 = .ok (.iload_n 1, 1) := by decide +kernel
theorem dX7_copy_25 : decode cX7_copy 25 = .ok (.iaload, 1) := by decide +kernel
theorem dX7_copy_26 : decode cX7_copy 26 = .ok (.ifCond .lt 12, 3) := by decide +kernel
theorem dX7_copy_29 : decode cX7_copy 29 = .ok (.aload_n 0, 1) := by decide +kernel
theorem dX7_copy_30 : decode cX7_copy 30 = .ok (.getfield 43, 3) := by decide +kernel
theorem dX7_copy_33 : decode cX7_copy 33 = .ok (.iload_n 3, 1) := by decide +kernel
theorem dX7_copy_34 : decode cX7_copy 34 = .ok (.iaload, 1) := by decide +kernel
theorem dX7_copy_35 : decode cX7_copy 35 = .ok (.ifCond .ge 9, 3) := by decide +kernel
theorem dX7_copy_38 : decode cX7_copy 38 = .ok (.aload_n 0, 1) := by decide +kernel
theorem dX7_copy_39 : decode cX7_copy 39 = .ok (.iconst 1, 1) := by decide +kernel
theorem dX7_copy_40 : decode cX7_copy 40 = .ok (.invokevirtual 75, 3) := by decide +kernel
theorem dX7_copy_43 : decode cX7_copy 43 = .ok (.ireturn, 1) := by decide +kernel
theorem dX7_copy_44 : decode cX7_copy 44 = .ok (.aload_n 0, 1) := by decide +kernel
theorem dX7_copy_45 : decode cX7_copy 45 = .ok (.getfield 46, 3) := by decide +kernel
theorem dX7_copy_48 : decode cX7_copy 48 = .ok (.iload_n 1, 1) := by decide +kernel
theorem dX7_copy_49 : decode cX7_copy 49 = .ok (.iaload, 1) := by decide +kernel
theorem dX7_copy_50 : decode cX7_copy 50 = .ok (.aload_n 0, 1) := by decide +kernel
theorem dX7_copy_51 : decode cX7_copy 51 = .ok (.getfield 46, 3) := by decide +kernel
theorem dX7_copy_54 : decode cX7_copy 54 = .ok (.iload_n 3, 1) := by decide +kernel
theorem dX7_copy_55 : decode cX7_copy 55 = .ok (.iaload, 1) := by decide +kernel
theorem dX7_copy_56 : decode cX7_copy 56 = .ok (.if_icmp .eq 9, 3) := by decide +kernel
theorem dX7_copy_59 : decode cX7_copy 59 = .ok (.aload_n 0, 1) := by decide +kernel
theorem dX7_copy_60 : decode cX7_copy 60 = .ok (.iconst 2, 1) := by decide +kernel
theorem dX7_copy_61 : decode cX7_copy 61 = .ok (.invokevirtual 75, 3) := by decide +kernel
theorem dX7_copy_64 : decode cX7_copy 64 = .ok (.ireturn, 1) := by decide +kernel
theorem dX7_copy_65 : decode cX7_copy 65 = .ok (.iload_n 2, 1) := by decide +kernel
theorem dX7_copy_66 : decode cX7_copy 66 = .ok (.iload 5, 2) := by decide +kernel
theorem dX7_copy_68 : decode cX7_copy 68 = .ok (.i2l, 1) := by decide +kernel
theorem dX7_copy_69 : decode cX7_copy 69 = .ok (.aload_n 0, 1) := by decide +kernel
theorem dX7_copy_70 : decode cX7_copy 70 = .ok (.getfield 43, 3) := by decide +kernel
theorem dX7_copy_73 : decode cX7_copy 73 = .ok (.iload_n 1, 1) := by decide +kernel
theorem dX7_copy_74 : decode cX7_copy 74 = .ok (.iaload, 1) := by decide +kernel
theorem dX7_copy_75 : decode cX7_copy 75 = .ok (.invokestatic 78, 3) := by decide +kernel
theorem dX7_copy_78 : decode cX7_copy 78 = .ok (.ifCond .ne 20, 3) := by decide +kernel
theorem dX7_copy_81 : decode cX7_copy 81 = .ok (.iload 4, 2) := by decide +kernel
theorem dX7_copy_83 : decode cX7_copy 83 = .ok (.iload 5, 2) := by decide +kernel
theorem dX7_copy_85 : decode cX7_copy 85 = .ok (.i2l, 1) := by decide +kernel
theorem dX7_copy_86 : decode cX7_copy 86 = .ok (.aload_n 0, 1) := by decide +kernel
theorem dX7_copy_87 : decode cX7_copy 87 = .ok (.getfield 43, 3) := by decide +kernel
theorem dX7_copy_90 : decode cX7_copy 90 = .ok (.iload_n 3, 1) := by decide +kernel
theorem dX7_copy_91 : decode cX7_copy 91 = .ok (.iaload, 1) := by decide +kernel
theorem dX7_copy_92 : decode cX7_copy 92 = .ok (.invokestatic 78, 3) := by decide +kernel
theorem dX7_copy_95 : decode cX7_copy 95 = .ok (.ifCond .eq 9, 3) := by decide +kernel
theorem dX7_copy_98 : decode cX7_copy 98 = .ok (.aload_n 0, 1) := by decide +kernel
theorem dX7_copy_99 : decode cX7_copy 99 = .ok (.iconst 3, 1) := by decide +kernel
theorem dX7_copy_100 : decode cX7_copy 100 = .ok (.invokevirtual 75, 3) := by decide +kernel
theorem dX7_copy_103 : decode cX7_copy 103 = .ok (.ireturn, 1) := by decide +kernel
theorem dX7_copy_104 : decode cX7_copy 104 = .ok (.iconst 0, 1) := by decide +kernel
theorem dX7_copy_105 : decode cX7_copy 105 = .ok (.istore 6, 2) := by decide +kernel
theorem dX7_copy_107 : decode cX7_copy 107 = .ok (.iload 6, 2) := by decide +kernel
theorem dX7_copy_109 : decode cX7_copy 109 = .ok (.iload 5, 2) := by decide +kernel
theorem dX7_copy_111 : decode cX7_copy 111 = .ok (.if_icmp .ge 30, 3) := by decide +kernel
theorem dX7_copy_114 : decode cX7_copy 114 = .ok (.aload_n 0, 1) := by decide +kernel
theorem dX7_copy_115 : decode cX7_copy 115 = .ok (.getfield 52, 3) := by decide +kernel
theorem dX7_copy_118 : decode cX7_copy 118 = .ok (.iload 6, 2) := by decide +kernel
theorem dX7_copy_120 : decode cX7_copy 120 = .ok (.aload_n 0, 1) := by decide +kernel
theorem dX7_copy_121 : decode cX7_copy 121 = .ok (.getfield 49, 3) := by decide +kernel
theorem dX7_copy_124 : decode cX7_copy 124 = .ok (.bipush 60, 2) := by decide +kernel
theorem dX7_copy_126 : decode cX7_copy 126 = .ok (.iload_n 1, 1) := by decide +kernel
theorem dX7_copy_127 : decode cX7_copy 127 = .ok (.imul, 1) := by decide +kernel
theorem dX7_copy_128 : decode cX7_copy 128 = .ok (.iload_n 2, 1) := by decide +kernel
theorem dX7_copy_129 : decode cX7_copy 129 = .ok (.iadd, 1) := by decide +kernel
theorem dX7_copy_130 : decode cX7_copy 130 = .ok (.iload 6, 2) := by decide +kernel
theorem dX7_copy_132 : decode cX7_copy 132 = .ok (.iadd, 1) := by decide +kernel
theorem dX7_copy_133 : decode cX7_copy 133 = .ok (.iaload, 1) := by decide +kernel
theorem dX7_copy_134 : decode cX7_copy 134 = .ok (.iastore, 1) := by decide +kernel
theorem dX7_copy_135 : decode cX7_copy 135 = .ok (.iinc 6 1, 3) := by decide +kernel
theorem dX7_copy_138 : decode cX7_copy 138 = .ok (.goto (-31), 3) := by decide +kernel
theorem dX7_copy_141 : decode cX7_copy 141 = .ok (.iconst 0, 1) := by decide +kernel
theorem dX7_copy_142 : decode cX7_copy 142 = .ok (.istore 6, 2) := by decide +kernel
theorem dX7_copy_144 : decode cX7_copy 144 = .ok (.iload 6, 2) := by decide +kernel
theorem dX7_copy_146 : decode cX7_copy 146 = .ok (.iload 5, 2) := by decide +kernel
theorem dX7_copy_148 : decode cX7_copy 148 = .ok (.if_icmp .ge 31, 3) := by decide +kernel
theorem dX7_copy_151 : decode cX7_copy 151 = .ok (.aload_n 0, 1) := by decide +kernel
theorem dX7_copy_152 : decode cX7_copy 152 = .ok (.getfield 49, 3) := by decide +kernel
theorem dX7_copy_155 : decode cX7_copy 155 = .ok (.bipush 60, 2) := by decide +kernel
theorem dX7_copy_157 : decode cX7_copy 157 = .ok (.iload_n 3, 1) := by decide +kernel
theorem dX7_copy_158 : decode cX7_copy 158 = .ok (.imul, 1) := by decide +kernel
theorem dX7_copy_159 : decode cX7_copy 159 = .ok (.iload 4, 2) := by decide +kernel
theorem dX7_copy_161 : decode cX7_copy 161 = .ok (.iadd, 1) := by decide +kernel
theorem dX7_copy_162 : decode cX7_copy 162 = .ok (.iload 6, 2) := by decide +kernel
theorem dX7_copy_164 : decode cX7_copy 164 = .ok (.iadd, 1) := by decide +kernel
theorem dX7_copy_165 : decode cX7_copy 165 = .ok (.aload_n 0, 1) := by decide +kernel
theorem dX7_copy_166 : decode cX7_copy 166 = .ok (.getfield 52, 3) := by decide +kernel
theorem dX7_copy_169 : decode cX7_copy 169 = .ok (.iload 6, 2) := by decide +kernel
theorem dX7_copy_171 : decode cX7_copy 171 = .ok (.iaload, 1) := by decide +kernel
theorem dX7_copy_172 : decode cX7_copy 172 = .ok (.iastore, 1) := by decide +kernel
theorem dX7_copy_173 : decode cX7_copy 173 = .ok (.iinc 6 1, 3) := by decide +kernel
theorem dX7_copy_176 : decode cX7_copy 176 = .ok (.goto (-32), 3) := by decide +kernel
theorem dX7_copy_179 : decode cX7_copy 179 = .ok (.aload_n 0, 1) := by decide +kernel
theorem dX7_copy_180 : decode cX7_copy 180 = .ok (.iload 5, 2) := by decide +kernel
theorem dX7_copy_182 : decode cX7_copy 182 = .ok (.invokevirtual 71, 3) := by decide +kernel
theorem dX7_copy_185 : decode cX7_copy 185 = .ok (.ireturn, 1) := by decide +kernel
theorem dX7_traced_0 : decode cX7_traced 0 = .ok (.aload_n 0, 1) := by decide +kernel
theorem dX7_traced_1 : decode cX7_traced 1 = .ok (.bipush 31, 2) := by decide +kernel
theorem dX7_traced_3 : decode cX7_traced 3 = .ok (.aload_n 0, 1) := by decide +kernel
theorem dX7_traced_4 : decode cX7_traced 4 = .ok (.getfield 257, 3) := by decide +kernel
theorem dX7_traced_7 : decode cX7_traced 7 = .ok (.imul, 1) := by decide +kernel
theorem dX7_traced_8 : decode cX7_traced 8 = .ok (.iload_n 1, 1) := by decide +kernel
theorem dX7_traced_9 : decode cX7_traced 9 = .ok (.iadd, 1) := by decide +kernel
theorem dX7_traced_10 : decode cX7_traced 10 = .ok (.putfield 257, 3) := by decide +kernel
theorem dX7_traced_13 : decode cX7_traced 13 = .ok (.return_, 1) := by decide +kernel
theorem dX7_tell_0 : decode cX7_tell 0 = .ok (.aload_n 0, 1) := by decide +kernel
theorem dX7_tell_1 : decode cX7_tell 1 = .ok (.iload_n 1, 1) := by decide +kernel
theorem dX7_tell_2 : decode cX7_tell 2 = .ok (.invokevirtual 161, 3) := by decide +kernel
theorem dX7_tell_5 : decode cX7_tell 5 = .ok (.ifCond .eq 5, 3) := by decide +kernel
theorem dX7_tell_8 : decode cX7_tell 8 = .ok (.iconst (-1), 1) := by decide +kernel
theorem dX7_tell_9 : decode cX7_tell 9 = .ok (.ireturn, 1) := by decide +kernel
theorem dX7_tell_10 : decode cX7_tell 10 = .ok (.aload_n 0, 1) := by decide +kernel
theorem dX7_tell_11 : decode cX7_tell 11 = .ok (.getfield 7, 3) := by decide +kernel
theorem dX7_tell_14 : decode cX7_tell 14 = .ok (.iload_n 1, 1) := by decide +kernel
theorem dX7_tell_15 : decode cX7_tell 15 = .ok (.iaload, 1) := by decide +kernel
theorem dX7_tell_16 : decode cX7_tell 16 = .ok (.istore_n 2, 1) := by decide +kernel
theorem dX7_tell_17 : decode cX7_tell 17 = .ok (.iload_n 2, 1) := by decide +kernel
theorem dX7_tell_18 : decode cX7_tell 18 = .ok (.iconst 2, 1) := by decide +kernel
theorem dX7_tell_19 : decode cX7_tell 19 = .ok (.if_icmp .ne 8, 3) := by decide +kernel
theorem dX7_tell_22 : decode cX7_tell 22 = .ok (.aload_n 0, 1) := by decide +kernel
theorem dX7_tell_23 : decode cX7_tell 23 = .ok (.iconst 3, 1) := by decide +kernel
theorem dX7_tell_24 : decode cX7_tell 24 = .ok (.invokevirtual 260, 3) := by decide +kernel
theorem dX7_tell_27 : decode cX7_tell 27 = .ok (.iload_n 2, 1) := by decide +kernel
theorem dX7_tell_28 : decode cX7_tell 28 = .ok (.ifCond .le 8, 3) := by decide +kernel
theorem dX7_tell_31 : decode cX7_tell 31 = .ok (.aload_n 0, 1) := by decide +kernel
theorem dX7_tell_32 : decode cX7_tell 32 = .ok (.iconst 2, 1) := by decide +kernel
theorem dX7_tell_33 : decode cX7_tell 33 = .ok (.invokevirtual 260, 3) := by decide +kernel
theorem dX7_tell_36 : decode cX7_tell 36 = .ok (.aload_n 0, 1) := by decide +kernel
theorem dX7_tell_37 : decode cX7_tell 37 = .ok (.iconst 1, 1) := by decide +kernel
theorem dX7_tell_38 : decode cX7_tell 38 = .ok (.invokevirtual 260, 3) := by decide +kernel
theorem dX7_tell_41 : decode cX7_tell 41 = .ok (.iload_n 2, 1) := by decide +kernel
theorem dX7_tell_42 : decode cX7_tell 42 = .ok (.iconst 2, 1) := by decide +kernel
theorem dX7_tell_43 : decode cX7_tell 43 = .ok (.if_icmp .ne 8, 3) := by decide +kernel
theorem dX7_tell_46 : decode cX7_tell 46 = .ok (.aload_n 0, 1) := by decide +kernel
theorem dX7_tell_47 : decode cX7_tell 47 = .ok (.iconst 1, 1) := by decide +kernel
theorem dX7_tell_48 : decode cX7_tell 48 = .ok (.invokevirtual 260, 3) := by decide +kernel
theorem dX7_tell_51 : decode cX7_tell 51 = .ok (.aload_n 0, 1) := by decide +kernel
theorem dX7_tell_52 : decode cX7_tell 52 = .ok (.iload_n 1, 1) := by decide +kernel
theorem dX7_tell_53 : decode cX7_tell 53 = .ok (.bipush 10, 2) := by decide +kernel
theorem dX7_tell_55 : decode cX7_tell 55 = .ok (.invokevirtual 108, 3) := by decide +kernel
theorem dX7_tell_58 : decode cX7_tell 58 = .ok (.istore_n 3, 1) := by decide +kernel
theorem dX7_tell_59 : decode cX7_tell 59 = .ok (.iload_n 2, 1) := by decide +kernel
theorem dX7_tell_60 : decode cX7_tell 60 = .ok (.ifCond .ne 7, 3) := by decide +kernel
theorem dX7_tell_63 : decode cX7_tell 63 = .ok (.iload_n 3, 1) := by decide +kernel
theorem dX7_tell_64 : decode cX7_tell 64 = .ok (.goto 23, 3) := by decide +kernel
theorem dX7_tell_67 : decode cX7_tell 67 = .ok (.iload_n 2, 1) := by decide +kernel
theorem dX7_tell_68 : decode cX7_tell 68 = .ok (.iconst 1, 1) := by decide +kernel
theorem dX7_tell_69 : decode cX7_tell 69 = .ok (.if_icmp .ne 11, 3) := by decide +kernel
theorem dX7_tell_72 : decode cX7_tell 72 = .ok (.iload_n 3, 1) := by decide +kernel
theorem dX7_tell_73 : decode cX7_tell 73 = .ok (.ldc_w 263, 3) := by decide +kernel
theorem dX7_tell_76 : decode cX7_tell 76 = .ok (.iadd, 1) := by decide +kernel
theorem dX7_tell_77 : decode cX7_tell 77 = .ok (.goto 10, 3) := by decide +kernel
theorem dX7_tell_80 : decode cX7_tell 80 = .ok (.iconst 2, 1) := by decide +kernel
theorem dX7_tell_81 : decode cX7_tell 81 = .ok (.iload_n 3, 1) := by decide +kernel
theorem dX7_tell_82 : decode cX7_tell 82 = .ok (.imul, 1) := by decide +kernel
theorem dX7_tell_83 : decode cX7_tell 83 = .ok (.ldc_w 263, 3) := by decide +kernel
theorem dX7_tell_86 : decode cX7_tell 86 = .ok (.iadd, 1) := by decide +kernel
theorem dX7_tell_87 : decode cX7_tell 87 = .ok (.ireturn, 1) := by decide +kernel
theorem dX7_draw_0 : decode cX7_draw 0 = .ok (.aload_n 0, 1) := by decide +kernel
theorem dX7_draw_1 : decode cX7_draw 1 = .ok (.iload_n 1, 1) := by decide +kernel
theorem dX7_draw_2 : decode cX7_draw 2 = .ok (.invokevirtual 161, 3) := by decide +kernel
theorem dX7_draw_5 : decode cX7_draw 5 = .ok (.ifCond .eq 5, 3) := by decide +kernel
theorem dX7_draw_8 : decode cX7_draw 8 = .ok (.iconst (-1), 1) := by decide +kernel
theorem dX7_draw_9 : decode cX7_draw 9 = .ok (.ireturn, 1) := by decide +kernel
theorem dX7_draw_10 : decode cX7_draw 10 = .ok (.aload_n 0, 1) := by decide +kernel
theorem dX7_draw_11 : decode cX7_draw 11 = .ok (.aload_n 0, 1) := by decide +kernel
theorem dX7_draw_12 : decode cX7_draw 12 = .ok (.getfield 7, 3) := by decide +kernel
theorem dX7_draw_15 : decode cX7_draw 15 = .ok (.iload_n 1, 1) := by decide +kernel
theorem dX7_draw_16 : decode cX7_draw 16 = .ok (.iaload, 1) := by decide +kernel
theorem dX7_draw_17 : decode cX7_draw 17 = .ok (.iconst 2, 1) := by decide +kernel
theorem dX7_draw_18 : decode cX7_draw 18 = .ok (.if_icmp .ne 7, 3) := by decide +kernel
theorem dX7_draw_21 : decode cX7_draw 21 = .ok (.iconst 5, 1) := by decide +kernel
theorem dX7_draw_22 : decode cX7_draw 22 = .ok (.goto 4, 3) := by decide +kernel
theorem dX7_draw_25 : decode cX7_draw 25 = .ok (.iconst 4, 1) := by decide +kernel
theorem dX7_draw_26 : decode cX7_draw 26 = .ok (.invokevirtual 260, 3) := by decide +kernel
theorem dX7_draw_29 : decode cX7_draw 29 = .ok (.aload_n 0, 1) := by decide +kernel
theorem dX7_draw_30 : decode cX7_draw 30 = .ok (.getfield 7, 3) := by decide +kernel
theorem dX7_draw_33 : decode cX7_draw 33 = .ok (.iload_n 1, 1) := by decide +kernel
theorem dX7_draw_34 : decode cX7_draw 34 = .ok (.iaload, 1) := by decide +kernel
theorem dX7_draw_35 : decode cX7_draw 35 = .ok (.iconst 2, 1) := by decide +kernel
theorem dX7_draw_36 : decode cX7_draw 36 = .ok (.if_icmp .ne 8, 3) := by decide +kernel
theorem dX7_draw_39 : decode cX7_draw 39 = .ok (.bipush 60, 2) := by decide +kernel
theorem dX7_draw_41 : decode cX7_draw 41 = .ok (.goto 4, 3) := by decide +kernel
theorem dX7_draw_44 : decode cX7_draw 44 = .ok (.iload_n 1, 1) := by decide +kernel
theorem dX7_draw_45 : decode cX7_draw 45 = .ok (.ireturn, 1) := by decide +kernel
theorem dX7_as_0 : decode cX7_as 0 = .ok (.aload_n 0, 1) := by decide +kernel
theorem dX7_as_1 : decode cX7_as 1 = .ok (.iload_n 1, 1) := by decide +kernel
theorem dX7_as_2 : decode cX7_as 2 = .ok (.invokevirtual 161, 3) := by decide +kernel
theorem dX7_as_5 : decode cX7_as 5 = .ok (.ifCond .eq 9, 3) := by decide +kernel
theorem dX7_as_8 : decode cX7_as 8 = .ok (.aload_n 0, 1) := by decide +kernel
theorem dX7_as_9 : decode cX7_as 9 = .ok (.iconst (-1), 1) := by decide +kernel
theorem dX7_as_10 : decode cX7_as 10 = .ok (.invokevirtual 71, 3) := by decide +kernel
theorem dX7_as_13 : decode cX7_as 13 = .ok (.ireturn, 1) := by decide +kernel
theorem dX7_as_14 : decode cX7_as 14 = .ok (.iload_n 2, 1) := by decide +kernel
theorem dX7_as_15 : decode cX7_as 15 = .ok (.i2l, 1) := by decide +kernel
theorem dX7_as_16 : decode cX7_as 16 = .ok (.lconst 0, 1) := by decide +kernel
theorem dX7_as_17 : decode cX7_as 17 = .ok (.ldc2_w 65, 3) := by decide +kernel
theorem dX7_as_20 : decode cX7_as 20 = .ok (.invokestatic 67, 3) := by decide +kernel
theorem dX7_as_23 : decode cX7_as 23 = .ok (.ifCond .ne 10, 3) := by decide +kernel
theorem dX7_as_26 : decode cX7_as 26 = .ok (.aload_n 0, 1) := by decide +kernel
theorem dX7_as_27 : decode cX7_as 27 = .ok (.bipush (-2), 2) := by decide +kernel
theorem dX7_as_29 : decode cX7_as 29 = .ok (.invokevirtual 71, 3) := by decide +kernel
theorem dX7_as_32 : decode cX7_as 32 = .ok (.ireturn, 1) := by decide +kernel
theorem dX7_as_33 : decode cX7_as 33 = .ok (.aload_n 0, 1) := by decide +kernel
theorem dX7_as_34 : decode cX7_as 34 = .ok (.getfield 7, 3) := by decide +kernel
theorem dX7_as_37 : decode cX7_as 37 = .ok (.iload_n 1, 1) := by decide +kernel
theorem dX7_as_38 : decode cX7_as 38 = .ok (.iaload, 1) := by decide +kernel
theorem dX7_as_39 : decode cX7_as 39 = .ok (.iload_n 2, 1) := by decide +kernel
theorem dX7_as_40 : decode cX7_as 40 = .ok (.if_icmp .lt 11, 3) := by decide +kernel
theorem dX7_as_43 : decode cX7_as 43 = .ok (.aload_n 0, 1) := by decide +kernel
theorem dX7_as_44 : decode cX7_as 44 = .ok (.iconst 1, 1) := by decide +kernel
theorem dX7_as_45 : decode cX7_as 45 = .ok (.invokevirtual 71, 3) := by decide +kernel
theorem dX7_as_48 : decode cX7_as 48 = .ok (.goto 8, 3) := by decide +kernel
theorem dX7_as_51 : decode cX7_as 51 = .ok (.aload_n 0, 1) := by decide +kernel
theorem dX7_as_52 : decode cX7_as 52 = .ok (.iconst 2, 1) := by decide +kernel
theorem dX7_as_53 : decode cX7_as 53 = .ok (.invokevirtual 75, 3) := by decide +kernel
theorem dX7_as_56 : decode cX7_as 56 = .ok (.ireturn, 1) := by decide +kernel
theorem dX7_trace_0 : decode cX7_trace 0 = .ok (.aload_n 0, 1) := by decide +kernel
theorem dX7_trace_1 : decode cX7_trace 1 = .ok (.getfield 257, 3) := by decide +kernel
theorem dX7_trace_4 : decode cX7_trace 4 = .ok (.ireturn, 1) := by decide +kernel
theorem dX7_fault_0 : decode cX7_fault 0 = .ok (.aload_n 0, 1) := by decide +kernel
theorem dX7_fault_1 : decode cX7_fault 1 = .ok (.getfield 57, 3) := by decide +kernel
theorem dX7_fault_4 : decode cX7_fault 4 = .ok (.ireturn, 1) := by decide +kernel
theorem dX7_many_0 : decode cX7_many 0 = .ok (.iconst 0, 1) := by decide +kernel
theorem dX7_many_1 : decode cX7_many 1 = .ok (.istore_n 2, 1) := by decide +kernel
theorem dX7_many_2 : decode cX7_many 2 = .ok (.iconst 0, 1) := by decide +kernel
theorem dX7_many_3 : decode cX7_many 3 = .ok (.istore_n 3, 1) := by decide +kernel
theorem dX7_many_4 : decode cX7_many 4 = .ok (.iload_n 3, 1) := by decide +kernel
theorem dX7_many_5 : decode cX7_many 5 = .ok (.bipush 6, 2) := by decide +kernel
theorem dX7_many_7 : decode cX7_many 7 = .ok (.if_icmp .ge 26, 3) := by decide +kernel
theorem dX7_many_10 : decode cX7_many 10 = .ok (.iload_n 2, 1) := by decide +kernel
theorem dX7_many_11 : decode cX7_many 11 = .ok (.aload_n 0, 1) := by decide +kernel
theorem dX7_many_12 : decode cX7_many 12 = .ok (.getfield 25, 3) := by decide +kernel
theorem dX7_many_15 : decode cX7_many 15 = .ok (.iload_n 3, 1) := by decide +kernel
theorem dX7_many_16 : decode cX7_many 16 = .ok (.iaload, 1) := by decide +kernel
theorem dX7_many_17 : decode cX7_many 17 = .ok (.ifCond .lt 7, 3) := by decide +kernel
theorem dX7_many_20 : decode cX7_many 20 = .ok (.iconst 1, 1) := by decide +kernel
theorem dX7_many_21 : decode cX7_many 21 = .ok (.goto 4, 3) := by decide +kernel
theorem dX7_many_24 : decode cX7_many 24 = .ok (.iconst 0, 1) := by decide +kernel
theorem dX7_many_25 : decode cX7_many 25 = .ok (.iadd, 1) := by decide +kernel
theorem dX7_many_26 : decode cX7_many 26 = .ok (.istore_n 2, 1) := by decide +kernel
theorem dX7_many_27 : decode cX7_many 27 = .ok (.iinc 3 1, 3) := by decide +kernel
theorem dX7_many_30 : decode cX7_many 30 = .ok (.goto (-26), 3) := by decide +kernel
theorem dX7_many_33 : decode cX7_many 33 = .ok (.iload_n 1, 1) := by decide +kernel
theorem dX7_many_34 : decode cX7_many 34 = .ok (.ifCond .ne 10, 3) := by decide +kernel
theorem dX7_many_37 : decode cX7_many 37 = .ok (.aload_n 0, 1) := by decide +kernel
theorem dX7_many_38 : decode cX7_many 38 = .ok (.getfield 82, 3) := by decide +kernel
theorem dX7_many_41 : decode cX7_many 41 = .ok (.goto 38, 3) := by decide +kernel
theorem dX7_many_44 : decode cX7_many 44 = .ok (.iload_n 1, 1) := by decide +kernel
theorem dX7_many_45 : decode cX7_many 45 = .ok (.iconst 1, 1) := by decide +kernel
theorem dX7_many_46 : decode cX7_many 46 = .ok (.if_icmp .ne 10, 3) := by decide +kernel
theorem dX7_many_49 : decode cX7_many 49 = .ok (.aload_n 0, 1) := by decide +kernel
theorem dX7_many_50 : decode cX7_many 50 = .ok (.getfield 190, 3) := by decide +kernel
theorem dX7_many_53 : decode cX7_many 53 = .ok (.goto 26, 3) := by decide +kernel
theorem dX7_many_56 : decode cX7_many 56 = .ok (.iload_n 1, 1) := by decide +kernel
theorem dX7_many_57 : decode cX7_many 57 = .ok (.iconst 2, 1) := by decide +kernel
theorem dX7_many_58 : decode cX7_many 58 = .ok (.if_icmp .ne 10, 3) := by decide +kernel
theorem dX7_many_61 : decode cX7_many 61 = .ok (.aload_n 0, 1) := by decide +kernel
theorem dX7_many_62 : decode cX7_many 62 = .ok (.getfield 238, 3) := by decide +kernel
theorem dX7_many_65 : decode cX7_many 65 = .ok (.goto 14, 3) := by decide +kernel
theorem dX7_many_68 : decode cX7_many 68 = .ok (.iload_n 1, 1) := by decide +kernel
theorem dX7_many_69 : decode cX7_many 69 = .ok (.iconst 3, 1) := by decide +kernel
theorem dX7_many_70 : decode cX7_many 70 = .ok (.if_icmp .ne 7, 3) := by decide +kernel
theorem dX7_many_73 : decode cX7_many 73 = .ok (.iload_n 2, 1) := by decide +kernel
theorem dX7_many_74 : decode cX7_many 74 = .ok (.goto 5, 3) := by decide +kernel
theorem dX7_many_77 : decode cX7_many 77 = .ok (.bipush (-2), 2) := by decide +kernel
theorem dX7_many_79 : decode cX7_many 79 = .ok (.ireturn, 1) := by decide +kernel
