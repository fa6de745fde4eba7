theorem dX0_init_0 : decode cX0_init 0 = .ok (.aload_n 0, 1) := by decide +kernel
theorem dX0_init_1 : decode cX0_init 1 = .ok (.invokespecial 3, 3) := by decide +kernel
theorem dX0_init_4 : decode cX0_init 4 = .ok (.aload_n 0, 1) := by decide +kernel
theorem dX0_init_5 : decode cX0_init 5 = .ok (.bipush 6, 2) := by decide +kernel
theorem dX0_init_7 : decode cX0_init 7 = .ok (.newarray .int, 2) := by decide +kernel
theorem dX0_init_9 : decode cX0_init 9 = .ok (.putfield 9, 3) := by decide +kernel
theorem dX0_init_12 : decode cX0_init 12 = .ok (.aload_n 0, 1) := by decide +kernel
theorem dX0_init_13 : decode cX0_init 13 = .ok (.bipush 6, 2) := by decide +kernel
theorem dX0_init_15 : decode cX0_init 15 = .ok (.bipush 41, 2) := by decide +kernel
theorem dX0_init_17 : decode cX0_init 17 = .ok (.multianewarray 15 2, 4) := by decide +kernel
theorem dX0_init_21 : decode cX0_init 21 = .ok (.putfield 17, 3) := by decide +kernel
theorem dX0_init_24 : decode cX0_init 24 = .ok (.aload_n 0, 1) := by decide +kernel
theorem dX0_init_25 : decode cX0_init 25 = .ok (.iconst 5, 1) := by decide +kernel
theorem dX0_init_26 : decode cX0_init 26 = .ok (.newarray .int, 2) := by decide +kernel
theorem dX0_init_28 : decode cX0_init 28 = .ok (.putfield 20, 3) := by decide +kernel
theorem dX0_init_31 : decode cX0_init 31 = .ok (.aload_n 0, 1) := by decide +kernel
theorem dX0_init_32 : decode cX0_init 32 = .ok (.iconst 5, 1) := by decide +kernel
theorem dX0_init_33 : decode cX0_init 33 = .ok (.newarray .int, 2) := by decide +kernel
theorem dX0_init_35 : decode cX0_init 35 = .ok (.putfield 23, 3) := by decide +kernel
theorem dX0_init_38 : decode cX0_init 38 = .ok (.aload_n 0, 1) := by decide +kernel
theorem dX0_init_39 : decode cX0_init 39 = .ok (.iconst 5, 1) := by decide +kernel
theorem dX0_init_40 : decode cX0_init 40 = .ok (.iconst 4, 1) := by decide +kernel
theorem dX0_init_41 : decode cX0_init 41 = .ok (.multianewarray 15 2, 4) := by decide +kernel
theorem dX0_init_45 : decode cX0_init 45 = .ok (.putfield 26, 3) := by decide +kernel
theorem dX0_init_48 : decode cX0_init 48 = .ok (.aload_n 0, 1) := by decide +kernel
theorem dX0_init_49 : decode cX0_init 49 = .ok (.iconst 0, 1) := by decide +kernel
theorem dX0_init_50 : decode cX0_init 50 = .ok (.putfield 29, 3) := by decide +kernel
theorem dX0_init_53 : decode cX0_init 53 = .ok (.aload_n 0, 1) := by decide +kernel
theorem dX0_init_54 : decode cX0_init 54 = .ok (.iconst 0, 1) := by decide +kernel
theorem dX0_init_55 : decode cX0_init 55 = .ok (.putfield 33, 3) := by decide +kernel
theorem dX0_init_58 : decode cX0_init 58 = .ok (.aload_n 0, 1) := by decide +kernel
theorem dX0_init_59 : decode cX0_init 59 = .ok (.bipush 25, 2) := by decide +kernel
theorem dX0_init_61 : decode cX0_init 61 = .ok (.bipush 41, 2) := by decide +kernel
theorem dX0_init_63 : decode cX0_init 63 = .ok (.multianewarray 15 2, 4) := by decide +kernel
theorem dX0_init_67 : decode cX0_init 67 = .ok (.putfield 36, 3) := by decide +kernel
theorem dX0_init_70 : decode cX0_init 70 = .ok (.aload_n 0, 1) := by decide +kernel
theorem dX0_init_71 : decode cX0_init 71 = .ok (.bipush 20, 2) := by decide +kernel
theorem dX0_init_73 : decode cX0_init 73 = .ok (.bipush 41, 2) := by decide +kernel
theorem dX0_init_75 : decode cX0_init 75 = .ok (.multianewarray 15 2, 4) := by decide +kernel
theorem dX0_init_79 : decode cX0_init 79 = .ok (.putfield 39, 3) := by decide +kernel
theorem dX0_init_82 : decode cX0_init 82 = .ok (.aload_n 0, 1) := by decide +kernel
theorem dX0_init_83 : decode cX0_init 83 = .ok (.bipush 20, 2) := by decide +kernel
theorem dX0_init_85 : decode cX0_init 85 = .ok (.newarray .int, 2) := by decide +kernel
theorem dX0_init_87 : decode cX0_init 87 = .ok (.putfield 42, 3) := by decide +kernel
theorem dX0_init_90 : decode cX0_init 90 = .ok (.aload_n 0, 1) := by decide +kernel
theorem dX0_init_91 : decode cX0_init 91 = .ok (.bipush 6, 2) := by decide +kernel
theorem dX0_init_93 : decode cX0_init 93 = .ok (.newarray .int, 2) := by decide +kernel
theorem dX0_init_95 : decode cX0_init 95 = .ok (.putfield 45, 3) := by decide +kernel
theorem dX0_init_98 : decode cX0_init 98 = .ok (.aload_n 0, 1) := by decide +kernel
theorem dX0_init_99 : decode cX0_init 99 = .ok (.bipush 6, 2) := by decide +kernel
theorem dX0_init_101 : decode cX0_init 101 = .ok (.newarray .int, 2) := by decide +kernel
theorem dX0_init_103 : decode cX0_init 103 = .ok (.putfield 48, 3) := by decide +kernel
theorem dX0_init_106 : decode cX0_init 106 = .ok (.aload_n 0, 1) := by decide +kernel
theorem dX0_init_107 : decode cX0_init 107 = .ok (.bipush 41, 2) := by decide +kernel
theorem dX0_init_109 : decode cX0_init 109 = .ok (.newarray .int, 2) := by decide +kernel
theorem dX0_init_111 : decode cX0_init 111 = .ok (.putfield 51, 3) := by decide +kernel
theorem dX0_init_114 : decode cX0_init 114 = .ok (.aload_n 0, 1) := by decide +kernel
theorem dX0_init_115 : decode cX0_init 115 = .ok (.bipush 41, 2) := by decide +kernel
theorem dX0_init_117 : decode cX0_init 117 = .ok (.newarray .int, 2) := by decide +kernel
theorem dX0_init_119 : decode cX0_init 119 = .ok (.putfield 54, 3) := by decide +kernel
theorem dX0_init_122 : decode cX0_init 122 = .ok (.aload_n 0, 1) := by decide +kernel
theorem dX0_init_123 : decode cX0_init 123 = .ok (.iconst 0, 1) := by decide +kernel
theorem dX0_init_124 : decode cX0_init 124 = .ok (.putfield 57, 3) := by decide +kernel
theorem dX0_init_127 : decode cX0_init 127 = .ok (.aload_n 0, 1) := by decide +kernel
theorem dX0_init_128 : decode cX0_init 128 = .ok (.iconst 0, 1) := by decide +kernel
theorem dX0_init_129 : decode cX0_init 129 = .ok (.putfield 61, 3) := by decide +kernel
theorem dX0_init_132 : decode cX0_init 132 = .ok (.aload_n 0, 1) := by decide +kernel
theorem dX0_init_133 : decode cX0_init 133 = .ok (.getfield 9, 3) := by decide +kernel
theorem dX0_init_136 : decode cX0_init 136 = .ok (.bipush (-9), 2) := by decide +kernel
theorem dX0_init_138 : decode cX0_init 138 = .ok (.invokestatic 64, 3) := by decide +kernel
theorem dX0_init_141 : decode cX0_init 141 = .ok (.return_, 1) := by decide +kernel
theorem dX0_serveNothing_0 : decode cX0_serveNothing 0 = .ok (.aload_n 0, 1) := by decide +kernel
theorem dX0_serveNothing_1 : decode cX0_serveNothing 1 = .ok (.getfield 9, 3) := by decide +kernel
theorem dX0_serveNothing_4 : decode cX0_serveNothing 4 = .ok (.iload_n 1, 1) := by decide +kernel
theorem dX0_serveNothing_5 : decode cX0_serveNothing 5 = .ok (.bipush (-9), 2) := by decide +kernel
theorem dX0_serveNothing_7 : decode cX0_serveNothing 7 = .ok (.iastore, 1) := by decide +kernel
theorem dX0_serveNothing_8 : decode cX0_serveNothing 8 = .ok (.aload_n 0, 1) := by decide +kernel
theorem dX0_serveNothing_9 : decode cX0_serveNothing 9 = .ok (.iconst 0, 1) := by decide +kernel
theorem dX0_serveNothing_10 : decode cX0_serveNothing 10 = .ok (.putfield 57, 3) := by decide +kernel
theorem dX0_serveNothing_13 : decode cX0_serveNothing 13 = .ok (.return_, 1) := by decide +kernel
theorem dX0_serveBy_0 : decode cX0_serveBy 0 = .ok (.aload_n 0, 1) := by decide +kernel
theorem dX0_serveBy_1 : decode cX0_serveBy 1 = .ok (.getfield 9, 3) := by decide +kernel
theorem dX0_serveBy_4 : decode cX0_serveBy 4 = .ok (.iload_n 1, 1) := by decide +kernel
theorem dX0_serveBy_5 : decode cX0_serveBy 5 = .ok (.iload_n 2, 1) := by decide +kernel
theorem dX0_serveBy_6 : decode cX0_serveBy 6 = .ok (.iastore, 1) := by decide +kernel
theorem dX0_serveBy_7 : decode cX0_serveBy 7 = .ok (.aload_n 3, 1) := by decide +kernel
theorem dX0_serveBy_8 : decode cX0_serveBy 8 = .ok (.aload_n 0, 1) := by decide +kernel
theorem dX0_serveBy_9 : decode cX0_serveBy 9 = .ok (.getfield 17, 3) := by decide +kernel
theorem dX0_serveBy_12 : decode cX0_serveBy 12 = .ok (.iload_n 1, 1) := by decide +kernel
theorem dX0_serveBy_13 : decode cX0_serveBy 13 = .ok (.aaload, 1) := by decide +kernel
theorem dX0_serveBy_14 : decode cX0_serveBy 14 = .ok (.invokestatic 70, 3) := by decide +kernel
theorem dX0_serveBy_17 : decode cX0_serveBy 17 = .ok (.aload_n 0, 1) := by decide +kernel
theorem dX0_serveBy_18 : decode cX0_serveBy 18 = .ok (.iconst 0, 1) := by decide +kernel
theorem dX0_serveBy_19 : decode cX0_serveBy 19 = .ok (.putfield 57, 3) := by decide +kernel
theorem dX0_serveBy_22 : decode cX0_serveBy 22 = .ok (.return_, 1) := by decide +kernel
theorem dX0_ruleBy_0 : decode cX0_ruleBy 0 = .ok (.aload_n 0, 1) := by decide +kernel
theorem dX0_ruleBy_1 : decode cX0_ruleBy 1 = .ok (.iload_n 1, 1) := by decide +kernel
theorem dX0_ruleBy_2 : decode cX0_ruleBy 2 = .ok (.putfield 33, 3) := by decide +kernel
theorem dX0_ruleBy_5 : decode cX0_ruleBy 5 = .ok (.aload_n 0, 1) := by decide +kernel
theorem dX0_ruleBy_6 : decode cX0_ruleBy 6 = .ok (.iconst 0, 1) := by decide +kernel
theorem dX0_ruleBy_7 : decode cX0_ruleBy 7 = .ok (.putfield 57, 3) := by decide +kernel
theorem dX0_ruleBy_10 : decode cX0_ruleBy 10 = .ok (.return_, 1) := by decide +kernel
theorem dX0_isFull_0 : decode cX0_isFull 0 = .ok (.aload_n 0, 1) := by decide +kernel
theorem dX0_isFull_1 : decode cX0_isFull 1 = .ok (.getfield 29, 3) := by decide +kernel
theorem dX0_isFull_4 : decode cX0_isFull 4 = .ok (.iconst 5, 1) := by decide +kernel
theorem dX0_isFull_5 : decode cX0_isFull 5 = .ok (.if_icmp .lt 7, 3) := by decide +kernel
theorem dX0_isFull_8 : decode cX0_isFull 8 = .ok (.iconst 1, 1) := by decide +kernel
theorem dX0_isFull_9 : decode cX0_isFull 9 = .ok (.goto 4, 3) := by decide +kernel
theorem dX0_isFull_12 : decode cX0_isFull 12 = .ok (.iconst 0, 1) := by decide +kernel
theorem dX0_isFull_13 : decode cX0_isFull 13 = .ok (.ireturn, 1) := by decide +kernel
theorem dX0_addFlow_0 : decode cX0_addFlow 0 = .ok (.aload_n 0, 1) := by decide +kernel
theorem dX0_addFlow_1 : decode cX0_addFlow 1 = .ok (.getfield 29, 3) := by decide +kernel
theorem dX0_addFlow_4 : decode cX0_addFlow 4 = .ok (.istore 5, 2) := by decide +kernel
theorem dX0_addFlow_6 : decode cX0_addFlow 6 = .ok (.aload_n 0, 1) := by decide +kernel
theorem dX0_addFlow_7 : decode cX0_addFlow 7 = .ok (.getfield 20, 3) := by decide +kernel
theorem dX0_addFlow_10 : decode cX0_addFlow 10 = .ok (.iload 5, 2) := by decide +kernel
theorem dX0_addFlow_12 : decode cX0_addFlow 12 = .ok (.iload_n 1, 1) := by decide +kernel
theorem dX0_addFlow_13 : decode cX0_addFlow 13 = .ok (.iastore, 1) := by decide +kernel
theorem dX0_addFlow_14 : decode cX0_addFlow 14 = .ok (.aload_n 0, 1) := by decide +kernel
theorem dX0_addFlow_15 : decode cX0_addFlow 15 = .ok (.getfield 23, 3) := by decide +kernel
theorem dX0_addFlow_18 : decode cX0_addFlow 18 = .ok (.iload 5, 2) := by decide +kernel
theorem dX0_addFlow_20 : decode cX0_addFlow 20 = .ok (.iload 4, 2) := by decide +kernel
theorem dX0_addFlow_22 : decode cX0_addFlow 22 = .ok (.iastore, 1) := by decide +kernel
theorem dX0_addFlow_23 : decode cX0_addFlow 23 = .ok (.aload_n 3, 1) := by decide +kernel
theorem dX0_addFlow_24 : decode cX0_addFlow 24 = .ok (.iconst 0, 1) := by decide +kernel
theorem dX0_addFlow_25 : decode cX0_addFlow 25 = .ok (.aload_n 0, 1) := by decide +kernel
theorem dX0_addFlow_26 : decode cX0_addFlow 26 = .ok (.getfield 26, 3) := by decide +kernel
theorem dX0_addFlow_29 : decode cX0_addFlow 29 = .ok (.iload 5, 2) := by decide +kernel
theorem dX0_addFlow_31 : decode cX0_addFlow 31 = .ok (.aaload, 1) := by decide +kernel
theorem dX0_addFlow_32 : decode cX0_addFlow 32 = .ok (.iconst 0, 1) := by decide +kernel
theorem dX0_addFlow_33 : decode cX0_addFlow 33 = .ok (.iload 4, 2) := by decide +kernel
theorem dX0_addFlow_35 : decode cX0_addFlow 35 = .ok (.invokestatic 76, 3) := by decide +kernel
theorem dX0_addFlow_38 : decode cX0_addFlow 38 = .ok (.aload_n 2, 1) := by decide +kernel
theorem dX0_addFlow_39 : decode cX0_addFlow 39 = .ok (.aload_n 0, 1) := by decide +kernel
theorem dX0_addFlow_40 : decode cX0_addFlow 40 = .ok (.iload 5, 2) := by decide +kernel
theorem dX0_addFlow_42 : decode cX0_addFlow 42 = .ok (.iconst 0, 1) := by decide +kernel
theorem dX0_addFlow_43 : decode cX0_addFlow 43 = .ok (.invokevirtual 82, 3) := by decide +kernel
theorem dX0_addFlow_46 : decode cX0_addFlow 46 = .ok (.invokestatic 70, 3) := by decide +kernel
theorem dX0_addFlow_49 : decode cX0_addFlow 49 = .ok (.aload_n 0, 1) := by decide +kernel
theorem dX0_addFlow_50 : decode cX0_addFlow 50 = .ok (.dup, 1) := by decide +kernel
theorem dX0_addFlow_51 : decode cX0_addFlow 51 = .ok (.getfield 29, 3) := by decide +kernel
theorem dX0_addFlow_54 : decode cX0_addFlow 54 = .ok (.iconst 1, 1) := by decide +kernel
theorem dX0_addFlow_55 : decode cX0_addFlow 55 = .ok (.iadd, 1) := by decide +kernel
theorem dX0_addFlow_56 : decode cX0_addFlow 56 = .ok (.putfield 29, 3) := by decide +kernel
theorem dX0_addFlow_59 : decode cX0_addFlow 59 = .ok (.aload_n 0, 1) := by decide +kernel
theorem dX0_addFlow_60 : decode cX0_addFlow 60 = .ok (.iconst 0, 1) := by decide +kernel
theorem dX0_addFlow_61 : decode cX0_addFlow 61 = .ok (.putfield 57, 3) := by decide +kernel
theorem dX0_addFlow_64 : decode cX0_addFlow 64 = .ok (.iload 5, 2) := by decide +kernel
theorem dX0_addFlow_66 : decode cX0_addFlow 66 = .ok (.ireturn, 1) := by decide +kernel
theorem dX0_hasFlow_0 : decode cX0_hasFlow 0 = .ok (.iload_n 1, 1) := by decide +kernel
theorem dX0_hasFlow_1 : decode cX0_hasFlow 1 = .ok (.ifCond .lt 15, 3) := by decide +kernel
theorem dX0_hasFlow_4 : decode cX0_hasFlow 4 = .ok (.iload_n 1, 1) := by decide +kernel
theorem dX0_hasFlow_5 : decode cX0_hasFlow 5 = .ok (.aload_n 0, 1) := by decide +kernel
theorem dX0_hasFlow_6 : decode cX0_hasFlow 6 = .ok (.getfield 29, 3) := by decide +kernel
theorem dX0_hasFlow_9 : decode cX0_hasFlow 9 = .ok (.if_icmp .ge 7, 3) := by decide +kernel
theorem dX0_hasFlow_12 : decode cX0_hasFlow 12 = .ok (.iconst 1, 1) := by decide +kernel
theorem dX0_hasFlow_13 : decode cX0_hasFlow 13 = .ok (.goto 4, 3) := by decide +kernel
theorem dX0_hasFlow_16 : decode cX0_hasFlow 16 = .ok (.iconst 0, 1) := by decide +kernel
theorem dX0_hasFlow_17 : decode cX0_hasFlow 17 = .ok (.ireturn, 1) := by decide +kernel
theorem dX0_hasPlace_0 : decode cX0_hasPlace 0 = .ok (.aload_n 0, 1) := by decide +kernel
theorem dX0_hasPlace_1 : decode cX0_hasPlace 1 = .ok (.iload_n 1, 1) := by decide +kernel
theorem dX0_hasPlace_2 : decode cX0_hasPlace 2 = .ok (.invokevirtual 86, 3) := by decide +kernel
theorem dX0_hasPlace_5 : decode cX0_hasPlace 5 = .ok (.ifCond .eq 21, 3) := by decide +kernel
theorem dX0_hasPlace_8 : decode cX0_hasPlace 8 = .ok (.iload_n 2, 1) := by decide +kernel
theorem dX0_hasPlace_9 : decode cX0_hasPlace 9 = .ok (.ifCond .lt 17, 3) := by decide +kernel
theorem dX0_hasPlace_12 : decode cX0_hasPlace 12 = .ok (.iload_n 2, 1) := by decide +kernel
theorem dX0_hasPlace_13 : decode cX0_hasPlace 13 = .ok (.aload_n 0, 1) := by decide +kernel
theorem dX0_hasPlace_14 : decode cX0_hasPlace 14 = .ok (.getfield 23, 3) := by decide +kernel
theorem dX0_hasPlace_17 : decode cX0_hasPlace 17 = .ok (.iload_n 1, 1) := by decide +kernel
theorem dX0_hasPlace_18 : decode cX0_hasPlace 18 = .ok (.iaload, 1) := by decide +kernel
theorem dX0_hasPlace_19 : decode cX0_hasPlace 19 = .ok (.if_icmp .ge 7, 3) := by decide +kernel
theorem dX0_hasPlace_22 : decode cX0_hasPlace 22 = .ok (.iconst 1, 1) := by decide +kernel
theorem dX0_hasPlace_23 : decode cX0_hasPlace 23 = .ok (.goto 4, 3) := by decide +kernel
theorem dX0_hasPlace_26 : decode cX0_hasPlace 26 = .ok (.iconst 0, 1) := by decide +kernel
theorem dX0_hasPlace_27 : decode cX0_hasPlace 27 = .ok (.ireturn, 1) := by decide +kernel
theorem dX0_servingNodes_0 : decode cX0_servingNodes 0 = .ok (.iconst 0, 1) := by decide +kernel
theorem dX0_servingNodes_1 : decode cX0_servingNodes 1 = .ok (.istore_n 1, 1) := by decide +kernel
theorem dX0_servingNodes_2 : decode cX0_servingNodes 2 = .ok (.iconst 0, 1) := by decide +kernel
theorem dX0_servingNodes_3 : decode cX0_servingNodes 3 = .ok (.istore_n 2, 1) := by decide +kernel
theorem dX0_servingNodes_4 : decode cX0_servingNodes 4 = .ok (.iload_n 2, 1) := by decide +kernel
theorem dX0_servingNodes_5 : decode cX0_servingNodes 5 = .ok (.bipush 6, 2) := by decide +kernel
theorem dX0_servingNodes_7 : decode cX0_servingNodes 7 = .ok (.if_icmp .ge 23, 3) := by decide +kernel
theorem dX0_servingNodes_10 : decode cX0_servingNodes 10 = .ok (.aload_n 0, 1) := by decide +kernel
theorem dX0_servingNodes_11 : decode cX0_servingNodes 11 = .ok (.getfield 9, 3) := by decide +kernel
theorem dX0_servingNodes_14 : decode cX0_servingNodes 14 = .ok (.iload_n 2, 1) := by decide +kernel
theorem dX0_servingNodes_15 : decode cX0_servingNodes 15 = .ok (.iaload, 1) := by decide +kernel
theorem dX0_servingNodes_16 : decode cX0_servingNodes 16 = .ok (.bipush (-9), 2) := by decide +kernel
theorem dX0_servingNodes_18 : decode cX0_servingNodes 18 = .ok (.if_icmp .eq 6, 3) := by decide +kernel
theorem dX0_servingNodes_21 : decode cX0_servingNodes 21 = .ok (.iinc 1 1, 3) := by decide +kernel
theorem dX0_servingNodes_24 : decode cX0_servingNodes 24 = .ok (.iinc 2 1, 3) := by decide +kernel
theorem dX0_servingNodes_27 : decode cX0_servingNodes 27 = .ok (.goto (-23), 3) := by decide +kernel
theorem dX0_servingNodes_30 : decode cX0_servingNodes 30 = .ok (.iload_n 1, 1) := by decide +kernel
theorem dX0_servingNodes_31 : decode cX0_servingNodes 31 = .ok (.ireturn, 1) := by decide +kernel
theorem dX0_hasRing_0 : decode cX0_hasRing 0 = .ok (.aload_n 0, 1) := by decide +kernel
theorem dX0_hasRing_1 : decode cX0_hasRing 1 = .ok (.invokevirtual 90, 3) := by decide +kernel
theorem dX0_hasRing_4 : decode cX0_hasRing 4 = .ok (.bipush 6, 2) := by decide +kernel
theorem dX0_hasRing_6 : decode cX0_hasRing 6 = .ok (.if_icmp .ge 7, 3) := by decide +kernel
theorem dX0_hasRing_9 : decode cX0_hasRing 9 = .ok (.iconst 1, 1) := by decide +kernel
theorem dX0_hasRing_10 : decode cX0_hasRing 10 = .ok (.goto 4, 3) := by decide +kernel
theorem dX0_hasRing_13 : decode cX0_hasRing 13 = .ok (.iconst 0, 1) := by decide +kernel
theorem dX0_hasRing_14 : decode cX0_hasRing 14 = .ok (.ireturn, 1) := by decide +kernel
theorem dX0_orderNodes_0 : decode cX0_orderNodes 0 = .ok (.aload_n 0, 1) := by decide +kernel
theorem dX0_orderNodes_1 : decode cX0_orderNodes 1 = .ok (.invokevirtual 94, 3) := by decide +kernel
theorem dX0_orderNodes_4 : decode cX0_orderNodes 4 = .ok (.iconst 0, 1) := by decide +kernel
theorem dX0_orderNodes_5 : decode cX0_orderNodes 5 = .ok (.istore_n 1, 1) := by decide +kernel
theorem dX0_orderNodes_6 : decode cX0_orderNodes 6 = .ok (.iconst 0, 1) := by decide +kernel
theorem dX0_orderNodes_7 : decode cX0_orderNodes 7 = .ok (.istore_n 2, 1) := by decide +kernel
theorem dX0_orderNodes_8 : decode cX0_orderNodes 8 = .ok (.iconst 0, 1) := by decide +kernel
theorem dX0_orderNodes_9 : decode cX0_orderNodes 9 = .ok (.istore_n 3, 1) := by decide +kernel
theorem dX0_orderNodes_10 : decode cX0_orderNodes 10 = .ok (.iload_n 3, 1) := by decide +kernel
theorem dX0_orderNodes_11 : decode cX0_orderNodes 11 = .ok (.bipush 6, 2) := by decide +kernel
theorem dX0_orderNodes_13 : decode cX0_orderNodes 13 = .ok (.if_icmp .ge 79, 3) := by decide +kernel
theorem dX0_orderNodes_16 : decode cX0_orderNodes 16 = .ok (.iconst 0, 1) := by decide +kernel
theorem dX0_orderNodes_17 : decode cX0_orderNodes 17 = .ok (.istore 4, 2) := by decide +kernel
theorem dX0_orderNodes_19 : decode cX0_orderNodes 19 = .ok (.iload 4, 2) := by decide +kernel
theorem dX0_orderNodes_21 : decode cX0_orderNodes 21 = .ok (.bipush 6, 2) := by decide +kernel
theorem dX0_orderNodes_23 : decode cX0_orderNodes 23 = .ok (.if_icmp .ge 63, 3) := by decide +kernel
theorem dX0_orderNodes_26 : decode cX0_orderNodes 26 = .ok (.iload_n 1, 1) := by decide +kernel
theorem dX0_orderNodes_27 : decode cX0_orderNodes 27 = .ok (.iload 4, 2) := by decide +kernel
theorem dX0_orderNodes_29 : decode cX0_orderNodes 29 = .ok (.ishr, 1) := by decide +kernel
theorem dX0_orderNodes_30 : decode cX0_orderNodes 30 = .ok (.iconst 1, 1) := by decide +kernel
theorem dX0_orderNodes_31 : decode cX0_orderNodes 31 = .ok (.iand, 1) := by decide +kernel
theorem dX0_orderNodes_32 : decode cX0_orderNodes 32 = .ok (.iconst 1, 1) := by decide +kernel
theorem dX0_orderNodes_33 : decode cX0_orderNodes 33 = .ok (.if_icmp .ne 7, 3) := by decide +kernel
theorem dX0_orderNodes_36 : decode cX0_orderNodes 36 = .ok (.iconst 1, 1) := by decide +kernel
theorem dX0_orderNodes_37 : decode cX0_orderNodes 37 = .ok (.goto 4, 3) := by decide +kernel
theorem dX0_orderNodes_40 : decode cX0_orderNodes 40 = .ok (.iconst 0, 1) := by decide +kernel
theorem dX0_orderNodes_41 : decode cX0_orderNodes 41 = .ok (.istore 5, 2) := by decide +kernel
theorem dX0_orderNodes_43 : decode cX0_orderNodes 43 = .ok (.iload 5, 2) := by decide +kernel
theorem dX0_orderNodes_45 : decode cX0_orderNodes 45 = .ok (.ifCond .ne 35, 3) := by decide +kernel
theorem dX0_orderNodes_48 : decode cX0_orderNodes 48 = .ok (.aload_n 0, 1) := by decide +kernel
theorem dX0_orderNodes_49 : decode cX0_orderNodes 49 = .ok (.getfield 45, 3) := by decide +kernel
theorem dX0_orderNodes_52 : decode cX0_orderNodes 52 = .ok (.iload 4, 2) := by decide +kernel
theorem dX0_orderNodes_54 : decode cX0_orderNodes 54 = .ok (.iaload, 1) := by decide +kernel
theorem dX0_orderNodes_55 : decode cX0_orderNodes 55 = .ok (.iload_n 1, 1) := by decide +kernel
theorem dX0_orderNodes_56 : decode cX0_orderNodes 56 = .ok (.iconst (-1), 1) := by decide +kernel
theorem dX0_orderNodes_57 : decode cX0_orderNodes 57 = .ok (.ixor, 1) := by decide +kernel
theorem dX0_orderNodes_58 : decode cX0_orderNodes 58 = .ok (.iand, 1) := by decide +kernel
theorem dX0_orderNodes_59 : decode cX0_orderNodes 59 = .ok (.ifCond .ne 21, 3) := by decide +kernel
theorem dX0_orderNodes_62 : decode cX0_orderNodes 62 = .ok (.aload_n 0, 1) := by decide +kernel
theorem dX0_orderNodes_63 : decode cX0_orderNodes 63 = .ok (.getfield 48, 3) := by decide +kernel
theorem dX0_orderNodes_66 : decode cX0_orderNodes 66 = .ok (.iload_n 2, 1) := by decide +kernel
theorem dX0_orderNodes_67 : decode cX0_orderNodes 67 = .ok (.iload 4, 2) := by decide +kernel
theorem dX0_orderNodes_69 : decode cX0_orderNodes 69 = .ok (.iastore, 1) := by decide +kernel
theorem dX0_orderNodes_70 : decode cX0_orderNodes 70 = .ok (.iinc 2 1, 3) := by decide +kernel
theorem dX0_orderNodes_73 : decode cX0_orderNodes 73 = .ok (.iload_n 1, 1) := by decide +kernel
theorem dX0_orderNodes_74 : decode cX0_orderNodes 74 = .ok (.iconst 1, 1) := by decide +kernel
theorem dX0_orderNodes_75 : decode cX0_orderNodes 75 = .ok (.iload 4, 2) := by decide +kernel
theorem dX0_orderNodes_77 : decode cX0_orderNodes 77 = .ok (.ishl, 1) := by decide +kernel
theorem dX0_orderNodes_78 : decode cX0_orderNodes 78 = .ok (.ior, 1) := by decide +kernel
theorem dX0_orderNodes_79 : decode cX0_orderNodes 79 = .ok (.istore_n 1, 1) := by decide +kernel
theorem dX0_orderNodes_80 : decode cX0_orderNodes 80 = .ok (.iinc 4 1, 3) := by decide +kernel
theorem dX0_orderNodes_83 : decode cX0_orderNodes 83 = .ok (.goto (-64), 3) := by decide +kernel
theorem dX0_orderNodes_86 : decode cX0_orderNodes 86 = .ok (.iinc 3 1, 3) := by decide +kernel
theorem dX0_orderNodes_89 : decode cX0_orderNodes 89 = .ok (.goto (-79), 3) := by decide +kernel
theorem dX0_orderNodes_92 : decode cX0_orderNodes 92 = .ok (.iload_n 2, 1) := by decide +kernel
theorem dX0_orderNodes_93 : decode cX0_orderNodes 93 = .ok (.ireturn, 1) := by decide +kernel
theorem dX0_noteAhead_0 : decode cX0_noteAhead 0 = .ok (.aload_n 0, 1) := by decide +kernel
theorem dX0_noteAhead_1 : decode cX0_noteAhead 1 = .ok (.getfield 45, 3) := by decide +kernel
theorem dX0_noteAhead_4 : decode cX0_noteAhead 4 = .ok (.iconst 0, 1) := by decide +kernel
theorem dX0_noteAhead_5 : decode cX0_noteAhead 5 = .ok (.invokestatic 64, 3) := by decide +kernel
theorem dX0_noteAhead_8 : decode cX0_noteAhead 8 = .ok (.iconst 0, 1) := by decide +kernel
theorem dX0_noteAhead_9 : decode cX0_noteAhead 9 = .ok (.istore_n 1, 1) := by decide +kernel
theorem dX0_noteAhead_10 : decode cX0_noteAhead 10 = .ok (.iload_n 1, 1) := by decide +kernel
theorem dX0_noteAhead_11 : decode cX0_noteAhead 11 = .ok (.aload_n 0, 1) := by decide +kernel
theorem dX0_noteAhead_12 : decode cX0_noteAhead 12 = .ok (.getfield 29, 3) := by decide +kernel
theorem dX0_noteAhead_15 : decode cX0_noteAhead 15 = .ok (.if_icmp .ge 55, 3) := by decide +kernel
theorem dX0_noteAhead_18 : decode cX0_noteAhead 18 = .ok (.iconst 1, 1) := by decide +kernel
theorem dX0_noteAhead_19 : decode cX0_noteAhead 19 = .ok (.istore_n 2, 1) := by decide +kernel
theorem dX0_noteAhead_20 : decode cX0_noteAhead 20 = .ok (.iload_n 2, 1) := by decide +kernel
theorem dX0_noteAhead_21 : decode cX0_noteAhead 21 = .ok (.aload_n 0, 1) := by decide +kernel
theorem dX0_noteAhead_22 : decode cX0_noteAhead 22 = .ok (.getfield 23, 3) := by decide +kernel
theorem dX0_noteAhead_25 : decode cX0_noteAhead 25 = .ok (.iload_n 1, 1) := by decide +kernel
theorem dX0_noteAhead_26 : decode cX0_noteAhead 26 = .ok (.iaload, 1) := by decide +kernel
theorem dX0_noteAhead_27 : decode cX0_noteAhead 27 = .ok (.if_icmp .ge 37, 3) := by decide +kernel
theorem dX0_noteAhead_30 : decode cX0_noteAhead 30 = .ok (.aload_n 0, 1) := by decide +kernel
theorem dX0_noteAhead_31 : decode cX0_noteAhead 31 = .ok (.getfield 45, 3) := by decide +kernel
theorem dX0_noteAhead_34 : decode cX0_noteAhead 34 = .ok (.aload_n 0, 1) := by decide +kernel
theorem dX0_noteAhead_35 : decode cX0_noteAhead 35 = .ok (.getfield 26, 3) := by decide +kernel
theorem dX0_noteAhead_38 : decode cX0_noteAhead 38 = .ok (.iload_n 1, 1) := by decide +kernel
theorem dX0_noteAhead_39 : decode cX0_noteAhead 39 = .ok (.aaload, 1) := by decide +kernel
theorem dX0_noteAhead_40 : decode cX0_noteAhead 40 = .ok (.iload_n 2, 1) := by decide +kernel
theorem dX0_noteAhead_41 : decode cX0_noteAhead 41 = .ok (.iaload, 1) := by decide +kernel
theorem dX0_noteAhead_42 : decode cX0_noteAhead 42 = .ok (.dup2, 1) := by decide +kernel
theorem dX0_noteAhead_43 : decode cX0_noteAhead 43 = .ok (.iaload, 1) := by decide +kernel
theorem dX0_noteAhead_44 : decode cX0_noteAhead 44 = .ok (.iconst 1, 1) := by decide +kernel
theorem dX0_noteAhead_45 : decode cX0_noteAhead 45 = .ok (.aload_n 0, 1) := by decide +kernel
theorem dX0_noteAhead_46 : decode cX0_noteAhead 46 = .ok (.getfield 26, 3) := by decide +kernel
theorem dX0_noteAhead_49 : decode cX0_noteAhead 49 = .ok (.iload_n 1, 1) := by decide +kernel
theorem dX0_noteAhead_50 : decode cX0_noteAhead 50 = .ok (.aaload, 1) := by decide +kernel
theorem dX0_noteAhead_51 : decode cX0_noteAhead 51 = .ok (.iload_n 2, 1) := by decide +kernel
theorem dX0_noteAhead_52 : decode cX0_noteAhead 52 = .ok (.iconst 1, 1) := by decide +kernel
theorem dX0_noteAhead_53 : decode cX0_noteAhead 53 = .ok (.isub, 1) := by decide +kernel
theorem dX0_noteAhead_54 : decode cX0_noteAhead 54 = .ok (.iaload, 1) := by decide +kernel
theorem dX0_noteAhead_55 : decode cX0_noteAhead 55 = .ok (.ishl, 1) := by decide +kernel
theorem dX0_noteAhead_56 : decode cX0_noteAhead 56 = .ok (.ior, 1) := by decide +kernel
theorem dX0_noteAhead_57 : decode cX0_noteAhead 57 = .ok (.iastore, 1) := by decide +kernel
theorem dX0_noteAhead_58 : decode cX0_noteAhead 58 = .ok (.iinc 2 1, 3) := by decide +kernel
theorem dX0_noteAhead_61 : decode cX0_noteAhead 61 = .ok (.goto (-41), 3) := by decide +kernel
theorem dX0_noteAhead_64 : decode cX0_noteAhead 64 = .ok (.iinc 1 1, 3) := by decide +kernel
theorem dX0_noteAhead_67 : decode cX0_noteAhead 67 = .ok (.goto (-57), 3) := by decide +kernel
theorem dX0_noteAhead_70 : decode cX0_noteAhead 70 = .ok (.return_, 1) := by decide +kernel
theorem dX0_isBounded_0 : decode cX0_isBounded 0 = .ok (.aload_n 0, 1) := by decide +kernel
theorem dX0_isBounded_1 : decode cX0_isBounded 1 = .ok (.getfield 57, 3) := by decide +kernel
theorem dX0_isBounded_4 : decode cX0_isBounded 4 = .ok (.ifCond .ne 40, 3) := by decide +kernel
theorem dX0_isBounded_7 : decode cX0_isBounded 7 = .ok (.aload_n 0, 1) := by decide +kernel
theorem dX0_isBounded_8 : decode cX0_isBounded 8 = .ok (.aload_n 0, 1) := by decide +kernel
theorem dX0_isBounded_9 : decode cX0_isBounded 9 = .ok (.invokevirtual 90, 3) := by decide +kernel
theorem dX0_isBounded_12 : decode cX0_isBounded 12 = .ok (.bipush 6, 2) := by decide +kernel
theorem dX0_isBounded_14 : decode cX0_isBounded 14 = .ok (.if_icmp .ne 21, 3) := by decide +kernel
theorem dX0_isBounded_17 : decode cX0_isBounded 17 = .ok (.aload_n 0, 1) := by decide +kernel
theorem dX0_isBounded_18 : decode cX0_isBounded 18 = .ok (.invokevirtual 97, 3) := by decide +kernel
theorem dX0_isBounded_21 : decode cX0_isBounded 21 = .ok (.ifCond .eq 14, 3) := by decide +kernel
theorem dX0_isBounded_24 : decode cX0_isBounded 24 = .ok (.aload_n 0, 1) := by decide +kernel
theorem dX0_isBounded_25 : decode cX0_isBounded 25 = .ok (.invokevirtual 101, 3) := by decide +kernel
theorem dX0_isBounded_28 : decode cX0_isBounded 28 = .ok (.ifCond .eq 7, 3) := by decide +kernel
theorem dX0_isBounded_31 : decode cX0_isBounded 31 = .ok (.iconst 1, 1) := by decide +kernel
theorem dX0_isBounded_32 : decode cX0_isBounded 32 = .ok (.goto 4, 3) := by decide +kernel
theorem dX0_isBounded_35 : decode cX0_isBounded 35 = .ok (.iconst 0, 1) := by decide +kernel
theorem dX0_isBounded_36 : decode cX0_isBounded 36 = .ok (.putfield 61, 3) := by decide +kernel
theorem dX0_isBounded_39 : decode cX0_isBounded 39 = .ok (.aload_n 0, 1) := by decide +kernel
theorem dX0_isBounded_40 : decode cX0_isBounded 40 = .ok (.iconst 1, 1) := by decide +kernel
theorem dX0_isBounded_41 : decode cX0_isBounded 41 = .ok (.putfield 57, 3) := by decide +kernel
theorem dX0_isBounded_44 : decode cX0_isBounded 44 = .ok (.aload_n 0, 1) := by decide +kernel
theorem dX0_isBounded_45 : decode cX0_isBounded 45 = .ok (.getfield 61, 3) := by decide +kernel
theorem dX0_isBounded_48 : decode cX0_isBounded 48 = .ok (.ireturn, 1) := by decide +kernel
theorem dX0_isServedOnWays_0 : decode cX0_isServedOnWays 0 = .ok (.iconst 0, 1) := by decide +kernel
theorem dX0_isServedOnWays_1 : decode cX0_isServedOnWays 1 = .ok (.istore_n 1, 1) := by decide +kernel
theorem dX0_isServedOnWays_2 : decode cX0_isServedOnWays 2 = .ok (.iload_n 1, 1) := by decide +kernel
theorem dX0_isServedOnWays_3 : decode cX0_isServedOnWays 3 = .ok (.aload_n 0, 1) := by decide +kernel
theorem dX0_isServedOnWays_4 : decode cX0_isServedOnWays 4 = .ok (.getfield 29, 3) := by decide +kernel
theorem dX0_isServedOnWays_7 : decode cX0_isServedOnWays 7 = .ok (.if_icmp .ge 47, 3) := by decide +kernel
theorem dX0_isServedOnWays_10 : decode cX0_isServedOnWays 10 = .ok (.iconst 0, 1) := by decide +kernel
theorem dX0_isServedOnWays_11 : decode cX0_isServedOnWays 11 = .ok (.istore_n 2, 1) := by decide +kernel
theorem dX0_isServedOnWays_12 : decode cX0_isServedOnWays 12 = .ok (.iload_n 2, 1) := by decide +kernel
theorem dX0_isServedOnWays_13 : decode cX0_isServedOnWays 13 = .ok (.aload_n 0, 1) := by decide +kernel
theorem dX0_isServedOnWays_14 : decode cX0_isServedOnWays 14 = .ok (.getfield 23, 3) := by decide +kernel
theorem dX0_isServedOnWays_17 : decode cX0_isServedOnWays 17 = .ok (.iload_n 1, 1) := by decide +kernel
theorem dX0_isServedOnWays_18 : decode cX0_isServedOnWays 18 = .ok (.iaload, 1) := by decide +kernel
theorem dX0_isServedOnWays_19 : decode cX0_isServedOnWays 19 = .ok (.if_icmp .ge 29, 3) := by decide +kernel
theorem dX0_isServedOnWays_22 : decode cX0_isServedOnWays 22 = .ok (.aload_n 0, 1) := by decide +kernel
theorem dX0_isServedOnWays_23 : decode cX0_isServedOnWays 23 = .ok (.getfield 9, 3) := by decide +kernel
theorem dX0_isServedOnWays_26 : decode cX0_isServedOnWays 26 = .ok (.aload_n 0, 1) := by decide +kernel
theorem dX0_isServedOnWays_27 : decode cX0_isServedOnWays 27 = .ok (.getfield 26, 3) := by decide +kernel
theorem dX0_isServedOnWays_30 : decode cX0_isServedOnWays 30 = .ok (.iload_n 1, 1) := by decide +kernel
theorem dX0_isServedOnWays_31 : decode cX0_isServedOnWays 31 = .ok (.aaload, 1) := by decide +kernel
theorem dX0_isServedOnWays_32 : decode cX0_isServedOnWays 32 = .ok (.iload_n 2, 1) := by decide +kernel
theorem dX0_isServedOnWays_33 : decode cX0_isServedOnWays 33 = .ok (.iaload, 1) := by decide +kernel
theorem dX0_isServedOnWays_34 : decode cX0_isServedOnWays 34 = .ok (.iaload, 1) := by decide +kernel
theorem dX0_isServedOnWays_35 : decode cX0_isServedOnWays 35 = .ok (.bipush (-9), 2) := by decide +kernel
theorem dX0_isServedOnWays_37 : decode cX0_isServedOnWays 37 = .ok (.if_icmp .ne 5, 3) := by decide +kernel
theorem dX0_isServedOnWays_40 : decode cX0_isServedOnWays 40 = .ok (.iconst 0, 1) := by decide +kernel
theorem dX0_isServedOnWays_41 : decode cX0_isServedOnWays 41 = .ok (.ireturn, 1) := by decide +kernel
theorem dX0_isServedOnWays_42 : decode cX0_isServedOnWays 42 = .ok (.iinc 2 1, 3) := by decide +kernel
theorem dX0_isServedOnWays_45 : decode cX0_isServedOnWays 45 = .ok (.goto (-33), 3) := by decide +kernel
theorem dX0_isServedOnWays_48 : decode cX0_isServedOnWays 48 = .ok (.iinc 1 1, 3) := by decide +kernel
theorem dX0_isServedOnWays_51 : decode cX0_isServedOnWays 51 = .ok (.goto (-49), 3) := by decide +kernel
theorem dX0_isServedOnWays_54 : decode cX0_isServedOnWays 54 = .ok (.iconst 1, 1) := by decide +kernel
theorem dX0_isServedOnWays_55 : decode cX0_isServedOnWays 55 = .ok (.ireturn, 1) := by decide +kernel
theorem dX0_workOut_0 : decode cX0_workOut 0 = .ok (.iconst 0, 1) := by decide +kernel
theorem dX0_workOut_1 : decode cX0_workOut 1 = .ok (.istore_n 1, 1) := by decide +kernel
theorem dX0_workOut_2 : decode cX0_workOut 2 = .ok (.iload_n 1, 1) := by decide +kernel
theorem dX0_workOut_3 : decode cX0_workOut 3 = .ok (.bipush 6, 2) := by decide +kernel
theorem dX0_workOut_5 : decode cX0_workOut 5 = .ok (.if_icmp .ge 52, 3) := by decide +kernel
theorem dX0_workOut_8 : decode cX0_workOut 8 = .ok (.iconst 0, 1) := by decide +kernel
theorem dX0_workOut_9 : decode cX0_workOut 9 = .ok (.istore_n 2, 1) := by decide +kernel
theorem dX0_workOut_10 : decode cX0_workOut 10 = .ok (.iload_n 2, 1) := by decide +kernel
theorem dX0_workOut_11 : decode cX0_workOut 11 = .ok (.aload_n 0, 1) := by decide +kernel
theorem dX0_workOut_12 : decode cX0_workOut 12 = .ok (.getfield 29, 3) := by decide +kernel
theorem dX0_workOut_15 : decode cX0_workOut 15 = .ok (.if_icmp .ge 36, 3) := by decide +kernel
theorem dX0_workOut_18 : decode cX0_workOut 18 = .ok (.aload_n 0, 1) := by decide +kernel
theorem dX0_workOut_19 : decode cX0_workOut 19 = .ok (.iload_n 2, 1) := by decide +kernel
theorem dX0_workOut_20 : decode cX0_workOut 20 = .ok (.aload_n 0, 1) := by decide +kernel
theorem dX0_workOut_21 : decode cX0_workOut 21 = .ok (.getfield 48, 3) := by decide +kernel
theorem dX0_workOut_24 : decode cX0_workOut 24 = .ok (.iload_n 1, 1) := by decide +kernel
theorem dX0_workOut_25 : decode cX0_workOut 25 = .ok (.iaload, 1) := by decide +kernel
theorem dX0_workOut_26 : decode cX0_workOut 26 = .ok (.invokevirtual 104, 3) := by decide +kernel
theorem dX0_workOut_29 : decode cX0_workOut 29 = .ok (.istore_n 3, 1) := by decide +kernel
theorem dX0_workOut_30 : decode cX0_workOut 30 = .ok (.iload_n 3, 1) := by decide +kernel
theorem dX0_workOut_31 : decode cX0_workOut 31 = .ok (.ifCond .lt 14, 3) := by decide +kernel
theorem dX0_workOut_34 : decode cX0_workOut 34 = .ok (.aload_n 0, 1) := by decide +kernel
theorem dX0_workOut_35 : decode cX0_workOut 35 = .ok (.iload_n 2, 1) := by decide +kernel
theorem dX0_workOut_36 : decode cX0_workOut 36 = .ok (.iload_n 3, 1) := by decide +kernel
theorem dX0_workOut_37 : decode cX0_workOut 37 = .ok (.invokevirtual 108, 3) := by decide +kernel
theorem dX0_workOut_40 : decode cX0_workOut 40 = .ok (.ifCond .ne 5, 3) := by decide +kernel
theorem dX0_workOut_43 : decode cX0_workOut 43 = .ok (.iconst 0, 1) := by decide +kernel
theorem dX0_workOut_44 : decode cX0_workOut 44 = .ok (.ireturn, 1) := by decide +kernel
theorem dX0_workOut_45 : decode cX0_workOut 45 = .ok (.iinc 2 1, 3) := by decide +kernel
theorem dX0_workOut_48 : decode cX0_workOut 48 = .ok (.goto (-38), 3) := by decide +kernel
theorem dX0_workOut_51 : decode cX0_workOut 51 = .ok (.iinc 1 1, 3) := by decide +kernel
theorem dX0_workOut_54 : decode cX0_workOut 54 = .ok (.goto (-52), 3) := by decide +kernel
theorem dX0_workOut_57 : decode cX0_workOut 57 = .ok (.iconst 1, 1) := by decide +kernel
theorem dX0_workOut_58 : decode cX0_workOut 58 = .ok (.ireturn, 1) := by decide +kernel
theorem dX0_workOutAt_0 : decode cX0_workOutAt 0 = .ok (.aload_n 0, 1) := by decide +kernel
theorem dX0_workOutAt_1 : decode cX0_workOutAt 1 = .ok (.getfield 26, 3) := by decide +kernel
theorem dX0_workOutAt_4 : decode cX0_workOutAt 4 = .ok (.iload_n 1, 1) := by decide +kernel
theorem dX0_workOutAt_5 : decode cX0_workOutAt 5 = .ok (.aaload, 1) := by decide +kernel
theorem dX0_workOutAt_6 : decode cX0_workOutAt 6 = .ok (.iload_n 2, 1) := by decide +kernel
theorem dX0_workOutAt_7 : decode cX0_workOutAt 7 = .ok (.iaload, 1) := by decide +kernel
theorem dX0_workOutAt_8 : decode cX0_workOutAt 8 = .ok (.istore_n 3, 1) := by decide +kernel
theorem dX0_workOutAt_9 : decode cX0_workOutAt 9 = .ok (.aload_n 0, 1) := by decide +kernel
theorem dX0_workOutAt_10 : decode cX0_workOutAt 10 = .ok (.getfield 33, 3) := by decide +kernel
theorem dX0_workOutAt_13 : decode cX0_workOutAt 13 = .ok (.iconst 2, 1) := by decide +kernel
theorem dX0_workOutAt_14 : decode cX0_workOutAt 14 = .ok (.if_icmp .ne 49, 3) := by decide +kernel
theorem dX0_workOutAt_17 : decode cX0_workOutAt 17 = .ok (.aload_n 0, 1) := by decide +kernel
theorem dX0_workOutAt_18 : decode cX0_workOutAt 18 = .ok (.iload_n 3, 1) := by decide +kernel
theorem dX0_workOutAt_19 : decode cX0_workOutAt 19 = .ok (.aload_n 0, 1) := by decide +kernel
theorem dX0_workOutAt_20 : decode cX0_workOutAt 20 = .ok (.getfield 29, 3) := by decide +kernel
theorem dX0_workOutAt_23 : decode cX0_workOutAt 23 = .ok (.bipush (-9), 2) := by decide +kernel
theorem dX0_workOutAt_25 : decode cX0_workOutAt 25 = .ok (.invokevirtual 112, 3) := by decide +kernel
theorem dX0_workOutAt_28 : decode cX0_workOutAt 28 = .ok (.aload_n 0, 1) := by decide +kernel
theorem dX0_workOutAt_29 : decode cX0_workOutAt 29 = .ok (.getfield 17, 3) := by decide +kernel
theorem dX0_workOutAt_32 : decode cX0_workOutAt 32 = .ok (.iload_n 3, 1) := by decide +kernel
theorem dX0_workOutAt_33 : decode cX0_workOutAt 33 = .ok (.aaload, 1) := by decide +kernel
theorem dX0_workOutAt_34 : decode cX0_workOutAt 34 = .ok (.aload_n 0, 1) := by decide +kernel
theorem dX0_workOutAt_35 : decode cX0_workOutAt 35 = .ok (.iload_n 1, 1) := by decide +kernel
theorem dX0_workOutAt_36 : decode cX0_workOutAt 36 = .ok (.iload_n 2, 1) := by decide +kernel
theorem dX0_workOutAt_37 : decode cX0_workOutAt 37 = .ok (.invokevirtual 116, 3) := by decide +kernel
theorem dX0_workOutAt_40 : decode cX0_workOutAt 40 = .ok (.invokestatic 70, 3) := by decide +kernel
theorem dX0_workOutAt_43 : decode cX0_workOutAt 43 = .ok (.aload_n 0, 1) := by decide +kernel
theorem dX0_workOutAt_44 : decode cX0_workOutAt 44 = .ok (.getfield 51, 3) := by decide +kernel
theorem dX0_workOutAt_47 : decode cX0_workOutAt 47 = .ok (.aload_n 0, 1) := by decide +kernel
theorem dX0_workOutAt_48 : decode cX0_workOutAt 48 = .ok (.getfield 17, 3) := by decide +kernel
theorem dX0_workOutAt_51 : decode cX0_workOutAt 51 = .ok (.iload_n 3, 1) := by decide +kernel
theorem dX0_workOutAt_52 : decode cX0_workOutAt 52 = .ok (.aaload, 1) := by decide +kernel
theorem dX0_workOutAt_53 : decode cX0_workOutAt 53 = .ok (.bipush 20, 2) := by decide +kernel
theorem dX0_workOutAt_55 : decode cX0_workOutAt 55 = .ok (.invokestatic 119, 3) := by decide +kernel
theorem dX0_workOutAt_58 : decode cX0_workOutAt 58 = .ok (.istore 4, 2) := by decide +kernel
theorem dX0_workOutAt_60 : decode cX0_workOutAt 60 = .ok (.goto 62, 3) := by decide +kernel
theorem dX0_workOutAt_63 : decode cX0_workOutAt 63 = .ok (.aload_n 0, 1) := by decide +kernel
theorem dX0_workOutAt_64 : decode cX0_workOutAt 64 = .ok (.iload_n 3, 1) := by decide +kernel
theorem dX0_workOutAt_65 : decode cX0_workOutAt 65 = .ok (.aload_n 0, 1) := by decide +kernel
theorem dX0_workOutAt_66 : decode cX0_workOutAt 66 = .ok (.getfield 33, 3) := by decide +kernel
theorem dX0_workOutAt_69 : decode cX0_workOutAt 69 = .ok (.ifCond .ne 7, 3) := by decide +kernel
theorem dX0_workOutAt_72 : decode cX0_workOutAt 72 = .ok (.iload_n 1, 1) := by decide +kernel
theorem dX0_workOutAt_73 : decode cX0_workOutAt 73 = .ok (.goto 7, 3) := by decide +kernel
theorem dX0_workOutAt_76 : decode cX0_workOutAt 76 = .ok (.aload_n 0, 1) := by decide +kernel
theorem dX0_workOutAt_77 : decode cX0_workOutAt 77 = .ok (.getfield 29, 3) := by decide +kernel
theorem dX0_workOutAt_80 : decode cX0_workOutAt 80 = .ok (.iload_n 1, 1) := by decide +kernel
theorem dX0_workOutAt_81 : decode cX0_workOutAt 81 = .ok (.invokevirtual 112, 3) := by decide +kernel
theorem dX0_workOutAt_84 : decode cX0_workOutAt 84 = .ok (.aload_n 0, 1) := by decide +kernel
theorem dX0_workOutAt_85 : decode cX0_workOutAt 85 = .ok (.getfield 17, 3) := by decide +kernel
theorem dX0_workOutAt_88 : decode cX0_workOutAt 88 = .ok (.iload_n 3, 1) := by decide +kernel
theorem dX0_workOutAt_89 : decode cX0_workOutAt 89 = .ok (.aaload, 1) := by decide +kernel
theorem dX0_workOutAt_90 : decode cX0_workOutAt 90 = .ok (.aload_n 0, 1) := by decide +kernel
theorem dX0_workOutAt_91 : decode cX0_workOutAt 91 = .ok (.getfield 51, 3) := by decide +kernel
theorem dX0_workOutAt_94 : decode cX0_workOutAt 94 = .ok (.aload_n 0, 1) := by decide +kernel
theorem dX0_workOutAt_95 : decode cX0_workOutAt 95 = .ok (.iload_n 1, 1) := by decide +kernel
theorem dX0_workOutAt_96 : decode cX0_workOutAt 96 = .ok (.iload_n 2, 1) := by decide +kernel
theorem dX0_workOutAt_97 : decode cX0_workOutAt 97 = .ok (.invokevirtual 116, 3) := by decide +kernel
theorem dX0_workOutAt_100 : decode cX0_workOutAt 100 = .ok (.invokestatic 123, 3) := by decide +kernel
theorem dX0_workOutAt_103 : decode cX0_workOutAt 103 = .ok (.aload_n 0, 1) := by decide +kernel
theorem dX0_workOutAt_104 : decode cX0_workOutAt 104 = .ok (.iload_n 1, 1) := by decide +kernel
theorem dX0_workOutAt_105 : decode cX0_workOutAt 105 = .ok (.iload_n 2, 1) := by decide +kernel
theorem dX0_workOutAt_106 : decode cX0_workOutAt 106 = .ok (.invokevirtual 82, 3) := by decide +kernel
theorem dX0_workOutAt_109 : decode cX0_workOutAt 109 = .ok (.aload_n 0, 1) := by decide +kernel
theorem dX0_workOutAt_110 : decode cX0_workOutAt 110 = .ok (.iload_n 1, 1) := by decide +kernel
theorem dX0_workOutAt_111 : decode cX0_workOutAt 111 = .ok (.iload_n 2, 1) := by decide +kernel
theorem dX0_workOutAt_112 : decode cX0_workOutAt 112 = .ok (.invokevirtual 116, 3) := by decide +kernel
theorem dX0_workOutAt_115 : decode cX0_workOutAt 115 = .ok (.bipush 20, 2) := by decide +kernel
theorem dX0_workOutAt_117 : decode cX0_workOutAt 117 = .ok (.invokestatic 119, 3) := by decide +kernel
theorem dX0_workOutAt_120 : decode cX0_workOutAt 120 = .ok (.istore 4, 2) := by decide +kernel
theorem dX0_workOutAt_122 : decode cX0_workOutAt 122 = .ok (.iload 4, 2) := by decide +kernel
theorem dX0_workOutAt_124 : decode cX0_workOutAt 124 = .ok (.bipush (-9), 2) := by decide +kernel
theorem dX0_workOutAt_126 : decode cX0_workOutAt 126 = .ok (.if_icmp .ne 5, 3) := by decide +kernel
theorem dX0_workOutAt_129 : decode cX0_workOutAt 129 = .ok (.iconst 0, 1) := by decide +kernel
theorem dX0_workOutAt_130 : decode cX0_workOutAt 130 = .ok (.ireturn, 1) := by decide +kernel
theorem dX0_workOutAt_131 : decode cX0_workOutAt 131 = .ok (.aload_n 0, 1) := by decide +kernel
theorem dX0_workOutAt_132 : decode cX0_workOutAt 132 = .ok (.getfield 42, 3) := by decide +kernel
theorem dX0_workOutAt_135 : decode cX0_workOutAt 135 = .ok (.iload_n 1, 1) := by decide +kernel
theorem dX0_workOutAt_136 : decode cX0_workOutAt 136 = .ok (.iconst 4, 1) := by decide +kernel
theorem dX0_workOutAt_137 : decode cX0_workOutAt 137 = .ok (.imul, 1) := by decide +kernel
theorem dX0_workOutAt_138 : decode cX0_workOutAt 138 = .ok (.iload_n 2, 1) := by decide +kernel
theorem dX0_workOutAt_139 : decode cX0_workOutAt 139 = .ok (.iadd, 1) := by decide +kernel
theorem dX0_workOutAt_140 : decode cX0_workOutAt 140 = .ok (.iload 4, 2) := by decide +kernel
theorem dX0_workOutAt_142 : decode cX0_workOutAt 142 = .ok (.iastore, 1) := by decide +kernel
theorem dX0_workOutAt_143 : decode cX0_workOutAt 143 = .ok (.aload_n 0, 1) := by decide +kernel
theorem dX0_workOutAt_144 : decode cX0_workOutAt 144 = .ok (.getfield 33, 3) := by decide +kernel
theorem dX0_workOutAt_147 : decode cX0_workOutAt 147 = .ok (.iconst 2, 1) := by decide +kernel
theorem dX0_workOutAt_148 : decode cX0_workOutAt 148 = .ok (.if_icmp .ne 23, 3) := by decide +kernel
theorem dX0_workOutAt_151 : decode cX0_workOutAt 151 = .ok (.aload_n 0, 1) := by decide +kernel
theorem dX0_workOutAt_152 : decode cX0_workOutAt 152 = .ok (.iload_n 1, 1) := by decide +kernel
theorem dX0_workOutAt_153 : decode cX0_workOutAt 153 = .ok (.iload_n 2, 1) := by decide +kernel
theorem dX0_workOutAt_154 : decode cX0_workOutAt 154 = .ok (.invokevirtual 82, 3) := by decide +kernel
theorem dX0_workOutAt_157 : decode cX0_workOutAt 157 = .ok (.iload 4, 2) := by decide +kernel
theorem dX0_workOutAt_159 : decode cX0_workOutAt 159 = .ok (.aload_n 0, 1) := by decide +kernel
theorem dX0_workOutAt_160 : decode cX0_workOutAt 160 = .ok (.iload_n 1, 1) := by decide +kernel
theorem dX0_workOutAt_161 : decode cX0_workOutAt 161 = .ok (.iload_n 2, 1) := by decide +kernel
theorem dX0_workOutAt_162 : decode cX0_workOutAt 162 = .ok (.invokevirtual 127, 3) := by decide +kernel
theorem dX0_workOutAt_165 : decode cX0_workOutAt 165 = .ok (.invokestatic 130, 3) := by decide +kernel
theorem dX0_workOutAt_168 : decode cX0_workOutAt 168 = .ok (.goto 24, 3) := by decide +kernel
theorem dX0_workOutAt_171 : decode cX0_workOutAt 171 = .ok (.aload_n 0, 1) := by decide +kernel
theorem dX0_workOutAt_172 : decode cX0_workOutAt 172 = .ok (.iload_n 1, 1) := by decide +kernel
theorem dX0_workOutAt_173 : decode cX0_workOutAt 173 = .ok (.iload_n 2, 1) := by decide +kernel
theorem dX0_workOutAt_174 : decode cX0_workOutAt 174 = .ok (.invokevirtual 82, 3) := by decide +kernel
theorem dX0_workOutAt_177 : decode cX0_workOutAt 177 = .ok (.aload_n 0, 1) := by decide +kernel
theorem dX0_workOutAt_178 : decode cX0_workOutAt 178 = .ok (.iload_n 1, 1) := by decide +kernel
theorem dX0_workOutAt_179 : decode cX0_workOutAt 179 = .ok (.iload_n 2, 1) := by decide +kernel
theorem dX0_workOutAt_180 : decode cX0_workOutAt 180 = .ok (.invokevirtual 116, 3) := by decide +kernel
theorem dX0_workOutAt_183 : decode cX0_workOutAt 183 = .ok (.aload_n 0, 1) := by decide +kernel
theorem dX0_workOutAt_184 : decode cX0_workOutAt 184 = .ok (.iload_n 1, 1) := by decide +kernel
theorem dX0_workOutAt_185 : decode cX0_workOutAt 185 = .ok (.iload_n 2, 1) := by decide +kernel
theorem dX0_workOutAt_186 : decode cX0_workOutAt 186 = .ok (.invokevirtual 127, 3) := by decide +kernel
theorem dX0_workOutAt_189 : decode cX0_workOutAt 189 = .ok (.invokestatic 134, 3) := by decide +kernel
theorem dX0_workOutAt_192 : decode cX0_workOutAt 192 = .ok (.iconst 1, 1) := by decide +kernel
theorem dX0_workOutAt_193 : decode cX0_workOutAt 193 = .ok (.ireturn, 1) := by decide +kernel
theorem dX0_sumComing_0 : decode cX0_sumComing 0 = .ok (.aload_n 0, 1) := by decide +kernel
theorem dX0_sumComing_1 : decode cX0_sumComing 1 = .ok (.getfield 51, 3) := by decide +kernel
theorem dX0_sumComing_4 : decode cX0_sumComing 4 = .ok (.iconst 0, 1) := by decide +kernel
theorem dX0_sumComing_5 : decode cX0_sumComing 5 = .ok (.invokestatic 64, 3) := by decide +kernel
theorem dX0_sumComing_8 : decode cX0_sumComing 8 = .ok (.iconst 0, 1) := by decide +kernel
theorem dX0_sumComing_9 : decode cX0_sumComing 9 = .ok (.istore 4, 2) := by decide +kernel
theorem dX0_sumComing_11 : decode cX0_sumComing 11 = .ok (.iload 4, 2) := by decide +kernel
theorem dX0_sumComing_13 : decode cX0_sumComing 13 = .ok (.iload_n 2, 1) := by decide +kernel
theorem dX0_sumComing_14 : decode cX0_sumComing 14 = .ok (.if_icmp .ge 48, 3) := by decide +kernel
theorem dX0_sumComing_17 : decode cX0_sumComing 17 = .ok (.aload_n 0, 1) := by decide +kernel
theorem dX0_sumComing_18 : decode cX0_sumComing 18 = .ok (.iload 4, 2) := by decide +kernel
theorem dX0_sumComing_20 : decode cX0_sumComing 20 = .ok (.iload_n 1, 1) := by decide +kernel
theorem dX0_sumComing_21 : decode cX0_sumComing 21 = .ok (.invokevirtual 104, 3) := by decide +kernel
theorem dX0_sumComing_24 : decode cX0_sumComing 24 = .ok (.istore 5, 2) := by decide +kernel
theorem dX0_sumComing_26 : decode cX0_sumComing 26 = .ok (.iload 5, 2) := by decide +kernel
theorem dX0_sumComing_28 : decode cX0_sumComing 28 = .ok (.ifCond .lt 28, 3) := by decide +kernel
theorem dX0_sumComing_31 : decode cX0_sumComing 31 = .ok (.iload 4, 2) := by decide +kernel
theorem dX0_sumComing_33 : decode cX0_sumComing 33 = .ok (.iload_n 3, 1) := by decide +kernel
theorem dX0_sumComing_34 : decode cX0_sumComing 34 = .ok (.if_icmp .eq 22, 3) := by decide +kernel
theorem dX0_sumComing_37 : decode cX0_sumComing 37 = .ok (.aload_n 0, 1) := by decide +kernel
theorem dX0_sumComing_38 : decode cX0_sumComing 38 = .ok (.getfield 51, 3) := by decide +kernel
theorem dX0_sumComing_41 : decode cX0_sumComing 41 = .ok (.aload_n 0, 1) := by decide +kernel
theorem dX0_sumComing_42 : decode cX0_sumComing 42 = .ok (.iload 4, 2) := by decide +kernel
theorem dX0_sumComing_44 : decode cX0_sumComing 44 = .ok (.iload 5, 2) := by decide +kernel
theorem dX0_sumComing_46 : decode cX0_sumComing 46 = .ok (.invokevirtual 82, 3) := by decide +kernel
theorem dX0_sumComing_49 : decode cX0_sumComing 49 = .ok (.aload_n 0, 1) := by decide +kernel
theorem dX0_sumComing_50 : decode cX0_sumComing 50 = .ok (.getfield 51, 3) := by decide +kernel
theorem dX0_sumComing_53 : decode cX0_sumComing 53 = .ok (.invokestatic 137, 3) := by decide +kernel
theorem dX0_sumComing_56 : decode cX0_sumComing 56 = .ok (.iinc 4 1, 3) := by decide +kernel
theorem dX0_sumComing_59 : decode cX0_sumComing 59 = .ok (.goto (-48), 3) := by decide +kernel
theorem dX0_sumComing_62 : decode cX0_sumComing 62 = .ok (.return_, 1) := by decide +kernel
theorem dX0_placeOn_0 : decode cX0_placeOn 0 = .ok (.iconst 0, 1) := by decide +kernel
theorem dX0_placeOn_1 : decode cX0_placeOn 1 = .ok (.istore_n 3, 1) := by decide +kernel
theorem dX0_placeOn_2 : decode cX0_placeOn 2 = .ok (.iload_n 3, 1) := by decide +kernel
theorem dX0_placeOn_3 : decode cX0_placeOn 3 = .ok (.aload_n 0, 1) := by decide +kernel
theorem dX0_placeOn_4 : decode cX0_placeOn 4 = .ok (.getfield 23, 3) := by decide +kernel
theorem dX0_placeOn_7 : decode cX0_placeOn 7 = .ok (.iload_n 1, 1) := by decide +kernel
theorem dX0_placeOn_8 : decode cX0_placeOn 8 = .ok (.iaload, 1) := by decide +kernel
theorem dX0_placeOn_9 : decode cX0_placeOn 9 = .ok (.if_icmp .ge 23, 3) := by decide +kernel
theorem dX0_placeOn_12 : decode cX0_placeOn 12 = .ok (.aload_n 0, 1) := by decide +kernel
theorem dX0_placeOn_13 : decode cX0_placeOn 13 = .ok (.getfield 26, 3) := by decide +kernel
theorem dX0_placeOn_16 : decode cX0_placeOn 16 = .ok (.iload_n 1, 1) := by decide +kernel
theorem dX0_placeOn_17 : decode cX0_placeOn 17 = .ok (.aaload, 1) := by decide +kernel
theorem dX0_placeOn_18 : decode cX0_placeOn 18 = .ok (.iload_n 3, 1) := by decide +kernel
theorem dX0_placeOn_19 : decode cX0_placeOn 19 = .ok (.iaload, 1) := by decide +kernel
theorem dX0_placeOn_20 : decode cX0_placeOn 20 = .ok (.iload_n 2, 1) := by decide +kernel
theorem dX0_placeOn_21 : decode cX0_placeOn 21 = .ok (.if_icmp .ne 5, 3) := by decide +kernel
theorem dX0_placeOn_24 : decode cX0_placeOn 24 = .ok (.iload_n 3, 1) := by decide +kernel
theorem dX0_placeOn_25 : decode cX0_placeOn 25 = .ok (.ireturn, 1) := by decide +kernel
theorem dX0_placeOn_26 : decode cX0_placeOn 26 = .ok (.iinc 3 1, 3) := by decide +kernel
theorem dX0_placeOn_29 : decode cX0_placeOn 29 = .ok (.goto (-27), 3) := by decide +kernel
theorem dX0_placeOn_32 : decode cX0_placeOn 32 = .ok (.iconst (-1), 1) := by decide +kernel
theorem dX0_placeOn_33 : decode cX0_placeOn 33 = .ok (.ireturn, 1) := by decide +kernel
theorem dX0_comesAt_0 : decode cX0_comesAt 0 = .ok (.aload_n 0, 1) := by decide +kernel
theorem dX0_comesAt_1 : decode cX0_comesAt 1 = .ok (.getfield 36, 3) := by decide +kernel
theorem dX0_comesAt_4 : decode cX0_comesAt 4 = .ok (.iload_n 1, 1) := by decide +kernel
theorem dX0_comesAt_5 : decode cX0_comesAt 5 = .ok (.iconst 5, 1) := by decide +kernel
theorem dX0_comesAt_6 : decode cX0_comesAt 6 = .ok (.imul, 1) := by decide +kernel
theorem dX0_comesAt_7 : decode cX0_comesAt 7 = .ok (.iload_n 2, 1) := by decide +kernel
theorem dX0_comesAt_8 : decode cX0_comesAt 8 = .ok (.iadd, 1) := by decide +kernel
theorem dX0_comesAt_9 : decode cX0_comesAt 9 = .ok (.aaload, 1) := by decide +kernel
theorem dX0_comesAt_10 : decode cX0_comesAt 10 = .ok (.areturn, 1) := by decide +kernel
theorem dX0_goesOnFrom_0 : decode cX0_goesOnFrom 0 = .ok (.aload_n 0, 1) := by decide +kernel
theorem dX0_goesOnFrom_1 : decode cX0_goesOnFrom 1 = .ok (.getfield 36, 3) := by decide +kernel
theorem dX0_goesOnFrom_4 : decode cX0_goesOnFrom 4 = .ok (.iload_n 1, 1) := by decide +kernel
theorem dX0_goesOnFrom_5 : decode cX0_goesOnFrom 5 = .ok (.iconst 5, 1) := by decide +kernel
theorem dX0_goesOnFrom_6 : decode cX0_goesOnFrom 6 = .ok (.imul, 1) := by decide +kernel
theorem dX0_goesOnFrom_7 : decode cX0_goesOnFrom 7 = .ok (.iload_n 2, 1) := by decide +kernel
theorem dX0_goesOnFrom_8 : decode cX0_goesOnFrom 8 = .ok (.iadd, 1) := by decide +kernel
theorem dX0_goesOnFrom_9 : decode cX0_goesOnFrom 9 = .ok (.iconst 1, 1) := by decide +kernel
theorem dX0_goesOnFrom_10 : decode cX0_goesOnFrom 10 = .ok (.iadd, 1) := by decide +kernel
theorem dX0_goesOnFrom_11 : decode cX0_goesOnFrom 11 = .ok (.aaload, 1) := by decide +kernel
theorem dX0_goesOnFrom_12 : decode cX0_goesOnFrom 12 = .ok (.areturn, 1) := by decide +kernel
theorem dX0_hasAt_0 : decode cX0_hasAt 0 = .ok (.aload_n 0, 1) := by decide +kernel
theorem dX0_hasAt_1 : decode cX0_hasAt 1 = .ok (.getfield 39, 3) := by decide +kernel
theorem dX0_hasAt_4 : decode cX0_hasAt 4 = .ok (.iload_n 1, 1) := by decide +kernel
theorem dX0_hasAt_5 : decode cX0_hasAt 5 = .ok (.iconst 4, 1) := by decide +kernel
theorem dX0_hasAt_6 : decode cX0_hasAt 6 = .ok (.imul, 1) := by decide +kernel
theorem dX0_hasAt_7 : decode cX0_hasAt 7 = .ok (.iload_n 2, 1) := by decide +kernel
theorem dX0_hasAt_8 : decode cX0_hasAt 8 = .ok (.iadd, 1) := by decide +kernel
theorem dX0_hasAt_9 : decode cX0_hasAt 9 = .ok (.aaload, 1) := by decide +kernel
theorem dX0_hasAt_10 : decode cX0_hasAt 10 = .ok (.areturn, 1) := by decide +kernel
theorem dX0_latestAt_0 : decode cX0_latestAt 0 = .ok (.aload_n 0, 1) := by decide +kernel
theorem dX0_latestAt_1 : decode cX0_latestAt 1 = .ok (.getfield 42, 3) := by decide +kernel
theorem dX0_latestAt_4 : decode cX0_latestAt 4 = .ok (.iload_n 1, 1) := by decide +kernel
theorem dX0_latestAt_5 : decode cX0_latestAt 5 = .ok (.iconst 4, 1) := by decide +kernel
theorem dX0_latestAt_6 : decode cX0_latestAt 6 = .ok (.imul, 1) := by decide +kernel
theorem dX0_latestAt_7 : decode cX0_latestAt 7 = .ok (.iload_n 2, 1) := by decide +kernel
theorem dX0_latestAt_8 : decode cX0_latestAt 8 = .ok (.iadd, 1) := by decide +kernel
theorem dX0_latestAt_9 : decode cX0_latestAt 9 = .ok (.iaload, 1) := by decide +kernel
theorem dX0_latestAt_10 : decode cX0_latestAt 10 = .ok (.ireturn, 1) := by decide +kernel
theorem dX0_greatestHeapIn_0 : decode cX0_greatestHeapIn 0 = .ok (.aload_n 0, 1) := by decide +kernel
theorem dX0_greatestHeapIn_1 : decode cX0_greatestHeapIn 1 = .ok (.iload_n 1, 1) := by decide +kernel
theorem dX0_greatestHeapIn_2 : decode cX0_greatestHeapIn 2 = .ok (.aload_n 0, 1) := by decide +kernel
theorem dX0_greatestHeapIn_3 : decode cX0_greatestHeapIn 3 = .ok (.getfield 29, 3) := by decide +kernel
theorem dX0_greatestHeapIn_6 : decode cX0_greatestHeapIn 6 = .ok (.bipush (-9), 2) := by decide +kernel
theorem dX0_greatestHeapIn_8 : decode cX0_greatestHeapIn 8 = .ok (.invokevirtual 112, 3) := by decide +kernel
theorem dX0_greatestHeapIn_11 : decode cX0_greatestHeapIn 11 = .ok (.aload_n 0, 1) := by decide +kernel
theorem dX0_greatestHeapIn_12 : decode cX0_greatestHeapIn 12 = .ok (.getfield 51, 3) := by decide +kernel
theorem dX0_greatestHeapIn_15 : decode cX0_greatestHeapIn 15 = .ok (.aload_n 0, 1) := by decide +kernel
theorem dX0_greatestHeapIn_16 : decode cX0_greatestHeapIn 16 = .ok (.getfield 17, 3) := by decide +kernel
theorem dX0_greatestHeapIn_19 : decode cX0_greatestHeapIn 19 = .ok (.iload_n 1, 1) := by decide +kernel
theorem dX0_greatestHeapIn_20 : decode cX0_greatestHeapIn 20 = .ok (.aaload, 1) := by decide +kernel
theorem dX0_greatestHeapIn_21 : decode cX0_greatestHeapIn 21 = .ok (.invokestatic 140, 3) := by decide +kernel
theorem dX0_greatestHeapIn_24 : decode cX0_greatestHeapIn 24 = .ok (.ireturn, 1) := by decide +kernel
theorem dX0_waitByNodes_0 : decode cX0_waitByNodes 0 = .ok (.iconst 0, 1) := by decide +kernel
theorem dX0_waitByNodes_1 : decode cX0_waitByNodes 1 = .ok (.istore_n 2, 1) := by decide +kernel
theorem dX0_waitByNodes_2 : decode cX0_waitByNodes 2 = .ok (.iconst 0, 1) := by decide +kernel
theorem dX0_waitByNodes_3 : decode cX0_waitByNodes 3 = .ok (.istore_n 3, 1) := by decide +kernel
theorem dX0_waitByNodes_4 : decode cX0_waitByNodes 4 = .ok (.iload_n 3, 1) := by decide +kernel
theorem dX0_waitByNodes_5 : decode cX0_waitByNodes 5 = .ok (.aload_n 0, 1) := by decide +kernel
theorem dX0_waitByNodes_6 : decode cX0_waitByNodes 6 = .ok (.getfield 23, 3) := by decide +kernel
theorem dX0_waitByNodes_9 : decode cX0_waitByNodes 9 = .ok (.iload_n 1, 1) := by decide +kernel
theorem dX0_waitByNodes_10 : decode cX0_waitByNodes 10 = .ok (.iaload, 1) := by decide +kernel
theorem dX0_waitByNodes_11 : decode cX0_waitByNodes 11 = .ok (.if_icmp .ge 18, 3) := by decide +kernel
theorem dX0_waitByNodes_14 : decode cX0_waitByNodes 14 = .ok (.iload_n 2, 1) := by decide +kernel
theorem dX0_waitByNodes_15 : decode cX0_waitByNodes 15 = .ok (.aload_n 0, 1) := by decide +kernel
theorem dX0_waitByNodes_16 : decode cX0_waitByNodes 16 = .ok (.iload_n 1, 1) := by decide +kernel
theorem dX0_waitByNodes_17 : decode cX0_waitByNodes 17 = .ok (.iload_n 3, 1) := by decide +kernel
theorem dX0_waitByNodes_18 : decode cX0_waitByNodes 18 = .ok (.invokevirtual 144, 3) := by decide +kernel
theorem dX0_waitByNodes_21 : decode cX0_waitByNodes 21 = .ok (.iadd, 1) := by decide +kernel
theorem dX0_waitByNodes_22 : decode cX0_waitByNodes 22 = .ok (.istore_n 2, 1) := by decide +kernel
theorem dX0_waitByNodes_23 : decode cX0_waitByNodes 23 = .ok (.iinc 3 1, 3) := by decide +kernel
theorem dX0_waitByNodes_26 : decode cX0_waitByNodes 26 = .ok (.goto (-22), 3) := by decide +kernel
theorem dX0_waitByNodes_29 : decode cX0_waitByNodes 29 = .ok (.iload_n 2, 1) := by decide +kernel
theorem dX0_waitByNodes_30 : decode cX0_waitByNodes 30 = .ok (.ireturn, 1) := by decide +kernel
theorem dX0_waitAtOnce_0 : decode cX0_waitAtOnce 0 = .ok (.aload_n 0, 1) := by decide +kernel
theorem dX0_waitAtOnce_1 : decode cX0_waitAtOnce 1 = .ok (.iload_n 1, 1) := by decide +kernel
theorem dX0_waitAtOnce_2 : decode cX0_waitAtOnce 2 = .ok (.iconst 0, 1) := by decide +kernel
theorem dX0_waitAtOnce_3 : decode cX0_waitAtOnce 3 = .ok (.invokevirtual 116, 3) := by decide +kernel
theorem dX0_waitAtOnce_6 : decode cX0_waitAtOnce 6 = .ok (.aload_n 0, 1) := by decide +kernel
theorem dX0_waitAtOnce_7 : decode cX0_waitAtOnce 7 = .ok (.getfield 54, 3) := by decide +kernel
theorem dX0_waitAtOnce_10 : decode cX0_waitAtOnce 10 = .ok (.invokestatic 70, 3) := by decide +kernel
theorem dX0_waitAtOnce_13 : decode cX0_waitAtOnce 13 = .ok (.iconst 1, 1) := by decide +kernel
theorem dX0_waitAtOnce_14 : decode cX0_waitAtOnce 14 = .ok (.istore_n 2, 1) := by decide +kernel
theorem dX0_waitAtOnce_15 : decode cX0_waitAtOnce 15 = .ok (.iload_n 2, 1) := by decide +kernel
theorem dX0_waitAtOnce_16 : decode cX0_waitAtOnce 16 = .ok (.aload_n 0, 1) := by decide +kernel
theorem dX0_waitAtOnce_17 : decode cX0_waitAtOnce 17 = .ok (.getfield 23, 3) := by decide +kernel
theorem dX0_waitAtOnce_20 : decode cX0_waitAtOnce 20 = .ok (.iload_n 1, 1) := by decide +kernel
theorem dX0_waitAtOnce_21 : decode cX0_waitAtOnce 21 = .ok (.iaload, 1) := by decide +kernel
theorem dX0_waitAtOnce_22 : decode cX0_waitAtOnce 22 = .ok (.if_icmp .ge 37, 3) := by decide +kernel
theorem dX0_waitAtOnce_25 : decode cX0_waitAtOnce 25 = .ok (.aload_n 0, 1) := by decide +kernel
theorem dX0_waitAtOnce_26 : decode cX0_waitAtOnce 26 = .ok (.getfield 54, 3) := by decide +kernel
theorem dX0_waitAtOnce_29 : decode cX0_waitAtOnce 29 = .ok (.aload_n 0, 1) := by decide +kernel
theorem dX0_waitAtOnce_30 : decode cX0_waitAtOnce 30 = .ok (.iload_n 1, 1) := by decide +kernel
theorem dX0_waitAtOnce_31 : decode cX0_waitAtOnce 31 = .ok (.iload_n 2, 1) := by decide +kernel
theorem dX0_waitAtOnce_32 : decode cX0_waitAtOnce 32 = .ok (.invokevirtual 116, 3) := by decide +kernel
theorem dX0_waitAtOnce_35 : decode cX0_waitAtOnce 35 = .ok (.aload_n 0, 1) := by decide +kernel
theorem dX0_waitAtOnce_36 : decode cX0_waitAtOnce 36 = .ok (.getfield 51, 3) := by decide +kernel
theorem dX0_waitAtOnce_39 : decode cX0_waitAtOnce 39 = .ok (.invokestatic 147, 3) := by decide +kernel
theorem dX0_waitAtOnce_42 : decode cX0_waitAtOnce 42 = .ok (.aload_n 0, 1) := by decide +kernel
theorem dX0_waitAtOnce_43 : decode cX0_waitAtOnce 43 = .ok (.getfield 51, 3) := by decide +kernel
theorem dX0_waitAtOnce_46 : decode cX0_waitAtOnce 46 = .ok (.aload_n 0, 1) := by decide +kernel
theorem dX0_waitAtOnce_47 : decode cX0_waitAtOnce 47 = .ok (.getfield 54, 3) := by decide +kernel
theorem dX0_waitAtOnce_50 : decode cX0_waitAtOnce 50 = .ok (.invokestatic 70, 3) := by decide +kernel
theorem dX0_waitAtOnce_53 : decode cX0_waitAtOnce 53 = .ok (.iinc 2 1, 3) := by decide +kernel
theorem dX0_waitAtOnce_56 : decode cX0_waitAtOnce 56 = .ok (.goto (-41), 3) := by decide +kernel
theorem dX0_waitAtOnce_59 : decode cX0_waitAtOnce 59 = .ok (.aload_n 0, 1) := by decide +kernel
theorem dX0_waitAtOnce_60 : decode cX0_waitAtOnce 60 = .ok (.iload_n 1, 1) := by decide +kernel
theorem dX0_waitAtOnce_61 : decode cX0_waitAtOnce 61 = .ok (.iconst 0, 1) := by decide +kernel
theorem dX0_waitAtOnce_62 : decode cX0_waitAtOnce 62 = .ok (.invokevirtual 82, 3) := by decide +kernel
theorem dX0_waitAtOnce_65 : decode cX0_waitAtOnce 65 = .ok (.aload_n 0, 1) := by decide +kernel
theorem dX0_waitAtOnce_66 : decode cX0_waitAtOnce 66 = .ok (.getfield 54, 3) := by decide +kernel
theorem dX0_waitAtOnce_69 : decode cX0_waitAtOnce 69 = .ok (.bipush 20, 2) := by decide +kernel
theorem dX0_waitAtOnce_71 : decode cX0_waitAtOnce 71 = .ok (.invokestatic 119, 3) := by decide +kernel
theorem dX0_waitAtOnce_74 : decode cX0_waitAtOnce 74 = .ok (.ireturn, 1) := by decide +kernel
theorem dX1_fillSteps_0 : decode cX1_fillSteps 0 = .ok (.aload_n 2, 1) := by decide +kernel
theorem dX1_fillSteps_1 : decode cX1_fillSteps 1 = .ok (.iconst 0, 1) := by decide +kernel
theorem dX1_fillSteps_2 : decode cX1_fillSteps 2 = .ok (.iconst 0, 1) := by decide +kernel
theorem dX1_fillSteps_3 : decode cX1_fillSteps 3 = .ok (.iastore, 1) := by decide +kernel
theorem dX1_fillSteps_4 : decode cX1_fillSteps 4 = .ok (.iconst 1, 1) := by decide +kernel
theorem dX1_fillSteps_5 : decode cX1_fillSteps 5 = .ok (.istore_n 3, 1) := by decide +kernel
theorem dX1_fillSteps_6 : decode cX1_fillSteps 6 = .ok (.iload_n 3, 1) := by decide +kernel
theorem dX1_fillSteps_7 : decode cX1_fillSteps 7 = .ok (.bipush 40, 2) := by decide +kernel
theorem dX1_fillSteps_9 : decode cX1_fillSteps 9 = .ok (.if_icmp .gt 32, 3) := by decide +kernel
theorem dX1_fillSteps_12 : decode cX1_fillSteps 12 = .ok (.aload_n 2, 1) := by decide +kernel
theorem dX1_fillSteps_13 : decode cX1_fillSteps 13 = .ok (.iload_n 3, 1) := by decide +kernel
theorem dX1_fillSteps_14 : decode cX1_fillSteps 14 = .ok (.aload_n 2, 1) := by decide +kernel
theorem dX1_fillSteps_15 : decode cX1_fillSteps 15 = .ok (.iload_n 3, 1) := by decide +kernel
theorem dX1_fillSteps_16 : decode cX1_fillSteps 16 = .ok (.iconst 1, 1) := by decide +kernel
theorem dX1_fillSteps_17 : decode cX1_fillSteps 17 = .ok (.isub, 1) := by decide +kernel
theorem dX1_fillSteps_18 : decode cX1_fillSteps 18 = .ok (.iaload, 1) := by decide +kernel
theorem dX1_fillSteps_19 : decode cX1_fillSteps 19 = .ok (.aload_n 0, 1) := by decide +kernel
theorem dX1_fillSteps_20 : decode cX1_fillSteps 20 = .ok (.iload_n 3, 1) := by decide +kernel
theorem dX1_fillSteps_21 : decode cX1_fillSteps 21 = .ok (.iload_n 1, 1) := by decide +kernel
theorem dX1_fillSteps_22 : decode cX1_fillSteps 22 = .ok (.invokestatic 9, 3) := by decide +kernel
theorem dX1_fillSteps_25 : decode cX1_fillSteps 25 = .ok (.iconst 1, 1) := by decide +kernel
theorem dX1_fillSteps_26 : decode cX1_fillSteps 26 = .ok (.isub, 1) := by decide +kernel
theorem dX1_fillSteps_27 : decode cX1_fillSteps 27 = .ok (.iaload, 1) := by decide +kernel
theorem dX1_fillSteps_28 : decode cX1_fillSteps 28 = .ok (.iadd, 1) := by decide +kernel
theorem dX1_fillSteps_29 : decode cX1_fillSteps 29 = .ok (.ldc 15, 2) := by decide +kernel
theorem dX1_fillSteps_31 : decode cX1_fillSteps 31 = .ok (.invokestatic 9, 3) := by decide +kernel
theorem dX1_fillSteps_34 : decode cX1_fillSteps 34 = .ok (.iastore, 1) := by decide +kernel
theorem dX1_fillSteps_35 : decode cX1_fillSteps 35 = .ok (.iinc 3 1, 3) := by decide +kernel
theorem dX1_fillSteps_38 : decode cX1_fillSteps 38 = .ok (.goto (-32), 3) := by decide +kernel
theorem dX1_fillSteps_41 : decode cX1_fillSteps 41 = .ok (.return_, 1) := by decide +kernel
theorem dX1_fillBucket_0 : decode cX1_fillBucket 0 = .ok (.aload_n 2, 1) := by decide +kernel
theorem dX1_fillBucket_1 : decode cX1_fillBucket 1 = .ok (.iconst 0, 1) := by decide +kernel
theorem dX1_fillBucket_2 : decode cX1_fillBucket 2 = .ok (.iconst 0, 1) := by decide +kernel
theorem dX1_fillBucket_3 : decode cX1_fillBucket 3 = .ok (.iastore, 1) := by decide +kernel
theorem dX1_fillBucket_4 : decode cX1_fillBucket 4 = .ok (.iconst 1, 1) := by decide +kernel
theorem dX1_fillBucket_5 : decode cX1_fillBucket 5 = .ok (.istore_n 3, 1) := by decide +kernel
theorem dX1_fillBucket_6 : decode cX1_fillBucket 6 = .ok (.iload_n 3, 1) := by decide +kernel
theorem dX1_fillBucket_7 : decode cX1_fillBucket 7 = .ok (.bipush 40, 2) := by decide +kernel
theorem dX1_fillBucket_9 : decode cX1_fillBucket 9 = .ok (.if_icmp .gt 22, 3) := by decide +kernel
theorem dX1_fillBucket_12 : decode cX1_fillBucket 12 = .ok (.aload_n 2, 1) := by decide +kernel
theorem dX1_fillBucket_13 : decode cX1_fillBucket 13 = .ok (.iload_n 3, 1) := by decide +kernel
theorem dX1_fillBucket_14 : decode cX1_fillBucket 14 = .ok (.iload_n 0, 1) := by decide +kernel
theorem dX1_fillBucket_15 : decode cX1_fillBucket 15 = .ok (.iload_n 1, 1) := by decide +kernel
theorem dX1_fillBucket_16 : decode cX1_fillBucket 16 = .ok (.iload_n 3, 1) := by decide +kernel
theorem dX1_fillBucket_17 : decode cX1_fillBucket 17 = .ok (.imul, 1) := by decide +kernel
theorem dX1_fillBucket_18 : decode cX1_fillBucket 18 = .ok (.iadd, 1) := by decide +kernel
theorem dX1_fillBucket_19 : decode cX1_fillBucket 19 = .ok (.ldc 15, 2) := by decide +kernel
theorem dX1_fillBucket_21 : decode cX1_fillBucket 21 = .ok (.invokestatic 9, 3) := by decide +kernel
theorem dX1_fillBucket_24 : decode cX1_fillBucket 24 = .ok (.iastore, 1) := by decide +kernel
theorem dX1_fillBucket_25 : decode cX1_fillBucket 25 = .ok (.iinc 3 1, 3) := by decide +kernel
theorem dX1_fillBucket_28 : decode cX1_fillBucket 28 = .ok (.goto (-22), 3) := by decide +kernel
theorem dX1_fillBucket_31 : decode cX1_fillBucket 31 = .ok (.return_, 1) := by decide +kernel
theorem dX1_fillLate_0 : decode cX1_fillLate 0 = .ok (.iconst 0, 1) := by decide +kernel
theorem dX1_fillLate_1 : decode cX1_fillLate 1 = .ok (.istore_n 3, 1) := by decide +kernel
theorem dX1_fillLate_2 : decode cX1_fillLate 2 = .ok (.iload_n 3, 1) := by decide +kernel
theorem dX1_fillLate_3 : decode cX1_fillLate 3 = .ok (.bipush 40, 2) := by decide +kernel
theorem dX1_fillLate_5 : decode cX1_fillLate 5 = .ok (.if_icmp .gt 26, 3) := by decide +kernel
theorem dX1_fillLate_8 : decode cX1_fillLate 8 = .ok (.aload_n 2, 1) := by decide +kernel
theorem dX1_fillLate_9 : decode cX1_fillLate 9 = .ok (.iload_n 3, 1) := by decide +kernel
theorem dX1_fillLate_10 : decode cX1_fillLate 10 = .ok (.iload_n 3, 1) := by decide +kernel
theorem dX1_fillLate_11 : decode cX1_fillLate 11 = .ok (.iload_n 0, 1) := by decide +kernel
theorem dX1_fillLate_12 : decode cX1_fillLate 12 = .ok (.if_icmp .gt 7, 3) := by decide +kernel
theorem dX1_fillLate_15 : decode cX1_fillLate 15 = .ok (.iconst 0, 1) := by decide +kernel
theorem dX1_fillLate_16 : decode cX1_fillLate 16 = .ok (.goto 8, 3) := by decide +kernel
theorem dX1_fillLate_19 : decode cX1_fillLate 19 = .ok (.iload_n 1, 1) := by decide +kernel
theorem dX1_fillLate_20 : decode cX1_fillLate 20 = .ok (.iload_n 3, 1) := by decide +kernel
theorem dX1_fillLate_21 : decode cX1_fillLate 21 = .ok (.iload_n 0, 1) := by decide +kernel
theorem dX1_fillLate_22 : decode cX1_fillLate 22 = .ok (.isub, 1) := by decide +kernel
theorem dX1_fillLate_23 : decode cX1_fillLate 23 = .ok (.imul, 1) := by decide +kernel
theorem dX1_fillLate_24 : decode cX1_fillLate 24 = .ok (.iastore, 1) := by decide +kernel
theorem dX1_fillLate_25 : decode cX1_fillLate 25 = .ok (.iinc 3 1, 3) := by decide +kernel
theorem dX1_fillLate_28 : decode cX1_fillLate 28 = .ok (.goto (-26), 3) := by decide +kernel
theorem dX1_fillLate_31 : decode cX1_fillLate 31 = .ok (.return_, 1) := by decide +kernel
theorem dX1_fillSame_0 : decode cX1_fillSame 0 = .ok (.aload_n 0, 1) := by decide +kernel
theorem dX1_fillSame_1 : decode cX1_fillSame 1 = .ok (.iconst 0, 1) := by decide +kernel
theorem dX1_fillSame_2 : decode cX1_fillSame 2 = .ok (.aload_n 1, 1) := by decide +kernel
theorem dX1_fillSame_3 : decode cX1_fillSame 3 = .ok (.iconst 0, 1) := by decide +kernel
theorem dX1_fillSame_4 : decode cX1_fillSame 4 = .ok (.bipush 41, 2) := by decide +kernel
theorem dX1_fillSame_6 : decode cX1_fillSame 6 = .ok (.invokestatic 16, 3) := by decide +kernel
theorem dX1_fillSame_9 : decode cX1_fillSame 9 = .ok (.return_, 1) := by decide +kernel
theorem dX1_fillMade_0 : decode cX1_fillMade 0 = .ok (.iload_n 0, 1) := by decide +kernel
theorem dX1_fillMade_1 : decode cX1_fillMade 1 = .ok (.tableswitch 67 0 3 #[31, 40, 49, 58], 31) := by decide +kernel
theorem dX1_fillMade_32 : decode cX1_fillMade 32 = .ok (.aload_n 1, 1) := by decide +kernel
theorem dX1_fillMade_33 : decode cX1_fillMade 33 = .ok (.aload_n 2, 1) := by decide +kernel
theorem dX1_fillMade_34 : decode cX1_fillMade 34 = .ok (.aload_n 3, 1) := by decide +kernel
theorem dX1_fillMade_35 : decode cX1_fillMade 35 = .ok (.invokestatic 22, 3) := by decide +kernel
theorem dX1_fillMade_38 : decode cX1_fillMade 38 = .ok (.goto 36, 3) := by decide +kernel
theorem dX1_fillMade_41 : decode cX1_fillMade 41 = .ok (.aload_n 1, 1) := by decide +kernel
theorem dX1_fillMade_42 : decode cX1_fillMade 42 = .ok (.aload_n 2, 1) := by decide +kernel
theorem dX1_fillMade_43 : decode cX1_fillMade 43 = .ok (.aload_n 3, 1) := by decide +kernel
theorem dX1_fillMade_44 : decode cX1_fillMade 44 = .ok (.invokestatic 28, 3) := by decide +kernel
theorem dX1_fillMade_47 : decode cX1_fillMade 47 = .ok (.goto 27, 3) := by decide +kernel
theorem dX1_fillMade_50 : decode cX1_fillMade 50 = .ok (.aload_n 1, 1) := by decide +kernel
theorem dX1_fillMade_51 : decode cX1_fillMade 51 = .ok (.aload_n 2, 1) := by decide +kernel
theorem dX1_fillMade_52 : decode cX1_fillMade 52 = .ok (.aload_n 3, 1) := by decide +kernel
theorem dX1_fillMade_53 : decode cX1_fillMade 53 = .ok (.invokestatic 31, 3) := by decide +kernel
theorem dX1_fillMade_56 : decode cX1_fillMade 56 = .ok (.goto 18, 3) := by decide +kernel
theorem dX1_fillMade_59 : decode cX1_fillMade 59 = .ok (.aload_n 1, 1) := by decide +kernel
theorem dX1_fillMade_60 : decode cX1_fillMade 60 = .ok (.aload_n 2, 1) := by decide +kernel
theorem dX1_fillMade_61 : decode cX1_fillMade 61 = .ok (.aload_n 3, 1) := by decide +kernel
theorem dX1_fillMade_62 : decode cX1_fillMade 62 = .ok (.invokestatic 34, 3) := by decide +kernel
theorem dX1_fillMade_65 : decode cX1_fillMade 65 = .ok (.goto 9, 3) := by decide +kernel
theorem dX1_fillMade_68 : decode cX1_fillMade 68 = .ok (.aload_n 1, 1) := by decide +kernel
theorem dX1_fillMade_69 : decode cX1_fillMade 69 = .ok (.aload_n 2, 1) := by decide +kernel
theorem dX1_fillMade_70 : decode cX1_fillMade 70 = .ok (.aload_n 3, 1) := by decide +kernel
theorem dX1_fillMade_71 : decode cX1_fillMade 71 = .ok (.invokestatic 37, 3) := by decide +kernel
theorem dX1_fillMade_74 : decode cX1_fillMade 74 = .ok (.return_, 1) := by decide +kernel
theorem dX1_fillLeast_0 : decode cX1_fillLeast 0 = .ok (.iconst 0, 1) := by decide +kernel
theorem dX1_fillLeast_1 : decode cX1_fillLeast 1 = .ok (.istore_n 3, 1) := by decide +kernel
theorem dX1_fillLeast_2 : decode cX1_fillLeast 2 = .ok (.iload_n 3, 1) := by decide +kernel
theorem dX1_fillLeast_3 : decode cX1_fillLeast 3 = .ok (.bipush 40, 2) := by decide +kernel
theorem dX1_fillLeast_5 : decode cX1_fillLeast 5 = .ok (.if_icmp .gt 21, 3) := by decide +kernel
theorem dX1_fillLeast_8 : decode cX1_fillLeast 8 = .ok (.aload_n 2, 1) := by decide +kernel
theorem dX1_fillLeast_9 : decode cX1_fillLeast 9 = .ok (.iload_n 3, 1) := by decide +kernel
theorem dX1_fillLeast_10 : decode cX1_fillLeast 10 = .ok (.aload_n 0, 1) := by decide +kernel
theorem dX1_fillLeast_11 : decode cX1_fillLeast 11 = .ok (.iload_n 3, 1) := by decide +kernel
theorem dX1_fillLeast_12 : decode cX1_fillLeast 12 = .ok (.iaload, 1) := by decide +kernel
theorem dX1_fillLeast_13 : decode cX1_fillLeast 13 = .ok (.aload_n 1, 1) := by decide +kernel
theorem dX1_fillLeast_14 : decode cX1_fillLeast 14 = .ok (.iload_n 3, 1) := by decide +kernel
theorem dX1_fillLeast_15 : decode cX1_fillLeast 15 = .ok (.iaload, 1) := by decide +kernel
theorem dX1_fillLeast_16 : decode cX1_fillLeast 16 = .ok (.invokestatic 9, 3) := by decide +kernel
theorem dX1_fillLeast_19 : decode cX1_fillLeast 19 = .ok (.iastore, 1) := by decide +kernel
theorem dX1_fillLeast_20 : decode cX1_fillLeast 20 = .ok (.iinc 3 1, 3) := by decide +kernel
theorem dX1_fillLeast_23 : decode cX1_fillLeast 23 = .ok (.goto (-21), 3) := by decide +kernel
theorem dX1_fillLeast_26 : decode cX1_fillLeast 26 = .ok (.return_, 1) := by decide +kernel
theorem dX1_fillSum_0 : decode cX1_fillSum 0 = .ok (.iconst 0, 1) := by decide +kernel
theorem dX1_fillSum_1 : decode cX1_fillSum 1 = .ok (.istore_n 3, 1) := by decide +kernel
theorem dX1_fillSum_2 : decode cX1_fillSum 2 = .ok (.iload_n 3, 1) := by decide +kernel
theorem dX1_fillSum_3 : decode cX1_fillSum 3 = .ok (.bipush 40, 2) := by decide +kernel
theorem dX1_fillSum_5 : decode cX1_fillSum 5 = .ok (.if_icmp .gt 24, 3) := by decide +kernel
theorem dX1_fillSum_8 : decode cX1_fillSum 8 = .ok (.aload_n 2, 1) := by decide +kernel
theorem dX1_fillSum_9 : decode cX1_fillSum 9 = .ok (.iload_n 3, 1) := by decide +kernel
theorem dX1_fillSum_10 : decode cX1_fillSum 10 = .ok (.aload_n 0, 1) := by decide +kernel
theorem dX1_fillSum_11 : decode cX1_fillSum 11 = .ok (.iload_n 3, 1) := by decide +kernel
theorem dX1_fillSum_12 : decode cX1_fillSum 12 = .ok (.iaload, 1) := by decide +kernel
theorem dX1_fillSum_13 : decode cX1_fillSum 13 = .ok (.aload_n 1, 1) := by decide +kernel
theorem dX1_fillSum_14 : decode cX1_fillSum 14 = .ok (.iload_n 3, 1) := by decide +kernel
theorem dX1_fillSum_15 : decode cX1_fillSum 15 = .ok (.iaload, 1) := by decide +kernel
theorem dX1_fillSum_16 : decode cX1_fillSum 16 = .ok (.iadd, 1) := by decide +kernel
theorem dX1_fillSum_17 : decode cX1_fillSum 17 = .ok (.ldc 15, 2) := by decide +kernel
theorem dX1_fillSum_19 : decode cX1_fillSum 19 = .ok (.invokestatic 9, 3) := by decide +kernel
theorem dX1_fillSum_22 : decode cX1_fillSum 22 = .ok (.iastore, 1) := by decide +kernel
theorem dX1_fillSum_23 : decode cX1_fillSum 23 = .ok (.iinc 3 1, 3) := by decide +kernel
theorem dX1_fillSum_26 : decode cX1_fillSum 26 = .ok (.goto (-24), 3) := by decide +kernel
theorem dX1_fillSum_29 : decode cX1_fillSum 29 = .ok (.return_, 1) := by decide +kernel
theorem dX1_fillAlong_0 : decode cX1_fillAlong 0 = .ok (.iconst 0, 1) := by decide +kernel
theorem dX1_fillAlong_1 : decode cX1_fillAlong 1 = .ok (.istore_n 3, 1) := by decide +kernel
theorem dX1_fillAlong_2 : decode cX1_fillAlong 2 = .ok (.iload_n 3, 1) := by decide +kernel
theorem dX1_fillAlong_3 : decode cX1_fillAlong 3 = .ok (.bipush 40, 2) := by decide +kernel
theorem dX1_fillAlong_5 : decode cX1_fillAlong 5 = .ok (.if_icmp .gt 51, 3) := by decide +kernel
theorem dX1_fillAlong_8 : decode cX1_fillAlong 8 = .ok (.ldc 15, 2) := by decide +kernel
theorem dX1_fillAlong_10 : decode cX1_fillAlong 10 = .ok (.istore 4, 2) := by decide +kernel
theorem dX1_fillAlong_12 : decode cX1_fillAlong 12 = .ok (.iconst 0, 1) := by decide +kernel
theorem dX1_fillAlong_13 : decode cX1_fillAlong 13 = .ok (.istore 5, 2) := by decide +kernel
theorem dX1_fillAlong_15 : decode cX1_fillAlong 15 = .ok (.iload 5, 2) := by decide +kernel
theorem dX1_fillAlong_17 : decode cX1_fillAlong 17 = .ok (.iload_n 3, 1) := by decide +kernel
theorem dX1_fillAlong_18 : decode cX1_fillAlong 18 = .ok (.if_icmp .gt 27, 3) := by decide +kernel
theorem dX1_fillAlong_21 : decode cX1_fillAlong 21 = .ok (.iload 4, 2) := by decide +kernel
theorem dX1_fillAlong_23 : decode cX1_fillAlong 23 = .ok (.aload_n 0, 1) := by decide +kernel
theorem dX1_fillAlong_24 : decode cX1_fillAlong 24 = .ok (.iload 5, 2) := by decide +kernel
theorem dX1_fillAlong_26 : decode cX1_fillAlong 26 = .ok (.iaload, 1) := by decide +kernel
theorem dX1_fillAlong_27 : decode cX1_fillAlong 27 = .ok (.aload_n 1, 1) := by decide +kernel
theorem dX1_fillAlong_28 : decode cX1_fillAlong 28 = .ok (.iload_n 3, 1) := by decide +kernel
theorem dX1_fillAlong_29 : decode cX1_fillAlong 29 = .ok (.iload 5, 2) := by decide +kernel
theorem dX1_fillAlong_31 : decode cX1_fillAlong 31 = .ok (.isub, 1) := by decide +kernel
theorem dX1_fillAlong_32 : decode cX1_fillAlong 32 = .ok (.iaload, 1) := by decide +kernel
theorem dX1_fillAlong_33 : decode cX1_fillAlong 33 = .ok (.iadd, 1) := by decide +kernel
theorem dX1_fillAlong_34 : decode cX1_fillAlong 34 = .ok (.invokestatic 9, 3) := by decide +kernel
theorem dX1_fillAlong_37 : decode cX1_fillAlong 37 = .ok (.istore 4, 2) := by decide +kernel
theorem dX1_fillAlong_39 : decode cX1_fillAlong 39 = .ok (.iinc 5 1, 3) := by decide +kernel
theorem dX1_fillAlong_42 : decode cX1_fillAlong 42 = .ok (.goto (-27), 3) := by decide +kernel
theorem dX1_fillAlong_45 : decode cX1_fillAlong 45 = .ok (.aload_n 2, 1) := by decide +kernel
theorem dX1_fillAlong_46 : decode cX1_fillAlong 46 = .ok (.iload_n 3, 1) := by decide +kernel
theorem dX1_fillAlong_47 : decode cX1_fillAlong 47 = .ok (.iload 4, 2) := by decide +kernel
theorem dX1_fillAlong_49 : decode cX1_fillAlong 49 = .ok (.iastore, 1) := by decide +kernel
theorem dX1_fillAlong_50 : decode cX1_fillAlong 50 = .ok (.iinc 3 1, 3) := by decide +kernel
theorem dX1_fillAlong_53 : decode cX1_fillAlong 53 = .ok (.goto (-51), 3) := by decide +kernel
theorem dX1_fillAlong_56 : decode cX1_fillAlong 56 = .ok (.return_, 1) := by decide +kernel
theorem dX1_fillOut_0 : decode cX1_fillOut 0 = .ok (.aload_n 2, 1) := by decide +kernel
theorem dX1_fillOut_1 : decode cX1_fillOut 1 = .ok (.iconst 0, 1) := by decide +kernel
theorem dX1_fillOut_2 : decode cX1_fillOut 2 = .ok (.iconst 0, 1) := by decide +kernel
theorem dX1_fillOut_3 : decode cX1_fillOut 3 = .ok (.iastore, 1) := by decide +kernel
theorem dX1_fillOut_4 : decode cX1_fillOut 4 = .ok (.iconst 1, 1) := by decide +kernel
theorem dX1_fillOut_5 : decode cX1_fillOut 5 = .ok (.istore_n 3, 1) := by decide +kernel
theorem dX1_fillOut_6 : decode cX1_fillOut 6 = .ok (.iload_n 3, 1) := by decide +kernel
theorem dX1_fillOut_7 : decode cX1_fillOut 7 = .ok (.bipush 40, 2) := by decide +kernel
theorem dX1_fillOut_9 : decode cX1_fillOut 9 = .ok (.if_icmp .gt 57, 3) := by decide +kernel
theorem dX1_fillOut_12 : decode cX1_fillOut 12 = .ok (.aload_n 2, 1) := by decide +kernel
theorem dX1_fillOut_13 : decode cX1_fillOut 13 = .ok (.iload_n 3, 1) := by decide +kernel
theorem dX1_fillOut_14 : decode cX1_fillOut 14 = .ok (.iconst 1, 1) := by decide +kernel
theorem dX1_fillOut_15 : decode cX1_fillOut 15 = .ok (.isub, 1) := by decide +kernel
theorem dX1_fillOut_16 : decode cX1_fillOut 16 = .ok (.iaload, 1) := by decide +kernel
theorem dX1_fillOut_17 : decode cX1_fillOut 17 = .ok (.istore 4, 2) := by decide +kernel
theorem dX1_fillOut_19 : decode cX1_fillOut 19 = .ok (.iconst 0, 1) := by decide +kernel
theorem dX1_fillOut_20 : decode cX1_fillOut 20 = .ok (.istore 5, 2) := by decide +kernel
theorem dX1_fillOut_22 : decode cX1_fillOut 22 = .ok (.iload 5, 2) := by decide +kernel
theorem dX1_fillOut_24 : decode cX1_fillOut 24 = .ok (.bipush 40, 2) := by decide +kernel
theorem dX1_fillOut_26 : decode cX1_fillOut 26 = .ok (.iload_n 3, 1) := by decide +kernel
theorem dX1_fillOut_27 : decode cX1_fillOut 27 = .ok (.isub, 1) := by decide +kernel
theorem dX1_fillOut_28 : decode cX1_fillOut 28 = .ok (.if_icmp .gt 27, 3) := by decide +kernel
theorem dX1_fillOut_31 : decode cX1_fillOut 31 = .ok (.iload 4, 2) := by decide +kernel
theorem dX1_fillOut_33 : decode cX1_fillOut 33 = .ok (.aload_n 0, 1) := by decide +kernel
theorem dX1_fillOut_34 : decode cX1_fillOut 34 = .ok (.iload_n 3, 1) := by decide +kernel
theorem dX1_fillOut_35 : decode cX1_fillOut 35 = .ok (.iload 5, 2) := by decide +kernel
theorem dX1_fillOut_37 : decode cX1_fillOut 37 = .ok (.iadd, 1) := by decide +kernel
theorem dX1_fillOut_38 : decode cX1_fillOut 38 = .ok (.iaload, 1) := by decide +kernel
theorem dX1_fillOut_39 : decode cX1_fillOut 39 = .ok (.aload_n 1, 1) := by decide +kernel
theorem dX1_fillOut_40 : decode cX1_fillOut 40 = .ok (.iload 5, 2) := by decide +kernel
theorem dX1_fillOut_42 : decode cX1_fillOut 42 = .ok (.iaload, 1) := by decide +kernel
theorem dX1_fillOut_43 : decode cX1_fillOut 43 = .ok (.isub, 1) := by decide +kernel
theorem dX1_fillOut_44 : decode cX1_fillOut 44 = .ok (.invokestatic 40, 3) := by decide +kernel
theorem dX1_fillOut_47 : decode cX1_fillOut 47 = .ok (.istore 4, 2) := by decide +kernel
theorem dX1_fillOut_49 : decode cX1_fillOut 49 = .ok (.iinc 5 1, 3) := by decide +kernel
theorem dX1_fillOut_52 : decode cX1_fillOut 52 = .ok (.goto (-30), 3) := by decide +kernel
theorem dX1_fillOut_55 : decode cX1_fillOut 55 = .ok (.aload_n 2, 1) := by decide +kernel
theorem dX1_fillOut_56 : decode cX1_fillOut 56 = .ok (.iload_n 3, 1) := by decide +kernel
theorem dX1_fillOut_57 : decode cX1_fillOut 57 = .ok (.iload 4, 2) := by decide +kernel
theorem dX1_fillOut_59 : decode cX1_fillOut 59 = .ok (.iastore, 1) := by decide +kernel
theorem dX1_fillOut_60 : decode cX1_fillOut 60 = .ok (.iinc 3 1, 3) := by decide +kernel
theorem dX1_fillOut_63 : decode cX1_fillOut 63 = .ok (.goto (-57), 3) := by decide +kernel
theorem dX1_fillOut_66 : decode cX1_fillOut 66 = .ok (.return_, 1) := by decide +kernel
theorem dX1_fillLeft_0 : decode cX1_fillLeft 0 = .ok (.iconst 0, 1) := by decide +kernel
theorem dX1_fillLeft_1 : decode cX1_fillLeft 1 = .ok (.istore_n 3, 1) := by decide +kernel
theorem dX1_fillLeft_2 : decode cX1_fillLeft 2 = .ok (.iconst 0, 1) := by decide +kernel
theorem dX1_fillLeft_3 : decode cX1_fillLeft 3 = .ok (.istore 4, 2) := by decide +kernel
theorem dX1_fillLeft_5 : decode cX1_fillLeft 5 = .ok (.iload 4, 2) := by decide +kernel
theorem dX1_fillLeft_7 : decode cX1_fillLeft 7 = .ok (.bipush 40, 2) := by decide +kernel
theorem dX1_fillLeft_9 : decode cX1_fillLeft 9 = .ok (.if_icmp .gt 28, 3) := by decide +kernel
theorem dX1_fillLeft_12 : decode cX1_fillLeft 12 = .ok (.iload_n 3, 1) := by decide +kernel
theorem dX1_fillLeft_13 : decode cX1_fillLeft 13 = .ok (.aload_n 0, 1) := by decide +kernel
theorem dX1_fillLeft_14 : decode cX1_fillLeft 14 = .ok (.iload 4, 2) := by decide +kernel
theorem dX1_fillLeft_16 : decode cX1_fillLeft 16 = .ok (.iaload, 1) := by decide +kernel
theorem dX1_fillLeft_17 : decode cX1_fillLeft 17 = .ok (.aload_n 1, 1) := by decide +kernel
theorem dX1_fillLeft_18 : decode cX1_fillLeft 18 = .ok (.iload 4, 2) := by decide +kernel
theorem dX1_fillLeft_20 : decode cX1_fillLeft 20 = .ok (.iaload, 1) := by decide +kernel
theorem dX1_fillLeft_21 : decode cX1_fillLeft 21 = .ok (.isub, 1) := by decide +kernel
theorem dX1_fillLeft_22 : decode cX1_fillLeft 22 = .ok (.invokestatic 40, 3) := by decide +kernel
theorem dX1_fillLeft_25 : decode cX1_fillLeft 25 = .ok (.istore_n 3, 1) := by decide +kernel
theorem dX1_fillLeft_26 : decode cX1_fillLeft 26 = .ok (.aload_n 2, 1) := by decide +kernel
theorem dX1_fillLeft_27 : decode cX1_fillLeft 27 = .ok (.iload 4, 2) := by decide +kernel
theorem dX1_fillLeft_29 : decode cX1_fillLeft 29 = .ok (.iload_n 3, 1) := by decide +kernel
theorem dX1_fillLeft_30 : decode cX1_fillLeft 30 = .ok (.iastore, 1) := by decide +kernel
theorem dX1_fillLeft_31 : decode cX1_fillLeft 31 = .ok (.iinc 4 1, 3) := by decide +kernel
theorem dX1_fillLeft_34 : decode cX1_fillLeft 34 = .ok (.goto (-29), 3) := by decide +kernel
theorem dX1_fillLeft_37 : decode cX1_fillLeft 37 = .ok (.return_, 1) := by decide +kernel
theorem dX1_fillHeldBack_0 : decode cX1_fillHeldBack 0 = .ok (.iconst 0, 1) := by decide +kernel
theorem dX1_fillHeldBack_1 : decode cX1_fillHeldBack 1 = .ok (.istore_n 3, 1) := by decide +kernel
theorem dX1_fillHeldBack_2 : decode cX1_fillHeldBack 2 = .ok (.iload_n 3, 1) := by decide +kernel
theorem dX1_fillHeldBack_3 : decode cX1_fillHeldBack 3 = .ok (.bipush 40, 2) := by decide +kernel
theorem dX1_fillHeldBack_5 : decode cX1_fillHeldBack 5 = .ok (.if_icmp .gt 26, 3) := by decide +kernel
theorem dX1_fillHeldBack_8 : decode cX1_fillHeldBack 8 = .ok (.aload_n 2, 1) := by decide +kernel
theorem dX1_fillHeldBack_9 : decode cX1_fillHeldBack 9 = .ok (.iload_n 3, 1) := by decide +kernel
theorem dX1_fillHeldBack_10 : decode cX1_fillHeldBack 10 = .ok (.iload_n 3, 1) := by decide +kernel
theorem dX1_fillHeldBack_11 : decode cX1_fillHeldBack 11 = .ok (.iload_n 1, 1) := by decide +kernel
theorem dX1_fillHeldBack_12 : decode cX1_fillHeldBack 12 = .ok (.if_icmp .ge 7, 3) := by decide +kernel
theorem dX1_fillHeldBack_15 : decode cX1_fillHeldBack 15 = .ok (.iconst 0, 1) := by decide +kernel
theorem dX1_fillHeldBack_16 : decode cX1_fillHeldBack 16 = .ok (.goto 8, 3) := by decide +kernel
theorem dX1_fillHeldBack_19 : decode cX1_fillHeldBack 19 = .ok (.aload_n 0, 1) := by decide +kernel
theorem dX1_fillHeldBack_20 : decode cX1_fillHeldBack 20 = .ok (.iload_n 3, 1) := by decide +kernel
theorem dX1_fillHeldBack_21 : decode cX1_fillHeldBack 21 = .ok (.iload_n 1, 1) := by decide +kernel
theorem dX1_fillHeldBack_22 : decode cX1_fillHeldBack 22 = .ok (.isub, 1) := by decide +kernel
theorem dX1_fillHeldBack_23 : decode cX1_fillHeldBack 23 = .ok (.iaload, 1) := by decide +kernel
theorem dX1_fillHeldBack_24 : decode cX1_fillHeldBack 24 = .ok (.iastore, 1) := by decide +kernel
theorem dX1_fillHeldBack_25 : decode cX1_fillHeldBack 25 = .ok (.iinc 3 1, 3) := by decide +kernel
theorem dX1_fillHeldBack_28 : decode cX1_fillHeldBack 28 = .ok (.goto (-26), 3) := by decide +kernel
theorem dX1_fillHeldBack_31 : decode cX1_fillHeldBack 31 = .ok (.return_, 1) := by decide +kernel
theorem dX1_fillAhead_0 : decode cX1_fillAhead 0 = .ok (.aload_n 2, 1) := by decide +kernel
theorem dX1_fillAhead_1 : decode cX1_fillAhead 1 = .ok (.iconst 0, 1) := by decide +kernel
theorem dX1_fillAhead_2 : decode cX1_fillAhead 2 = .ok (.iconst 0, 1) := by decide +kernel
theorem dX1_fillAhead_3 : decode cX1_fillAhead 3 = .ok (.iastore, 1) := by decide +kernel
theorem dX1_fillAhead_4 : decode cX1_fillAhead 4 = .ok (.iconst 1, 1) := by decide +kernel
theorem dX1_fillAhead_5 : decode cX1_fillAhead 5 = .ok (.istore_n 3, 1) := by decide +kernel
theorem dX1_fillAhead_6 : decode cX1_fillAhead 6 = .ok (.iload_n 3, 1) := by decide +kernel
theorem dX1_fillAhead_7 : decode cX1_fillAhead 7 = .ok (.bipush 40, 2) := by decide +kernel
theorem dX1_fillAhead_9 : decode cX1_fillAhead 9 = .ok (.if_icmp .gt 22, 3) := by decide +kernel
theorem dX1_fillAhead_12 : decode cX1_fillAhead 12 = .ok (.aload_n 2, 1) := by decide +kernel
theorem dX1_fillAhead_13 : decode cX1_fillAhead 13 = .ok (.iload_n 3, 1) := by decide +kernel
theorem dX1_fillAhead_14 : decode cX1_fillAhead 14 = .ok (.aload_n 0, 1) := by decide +kernel
theorem dX1_fillAhead_15 : decode cX1_fillAhead 15 = .ok (.iload_n 3, 1) := by decide +kernel
theorem dX1_fillAhead_16 : decode cX1_fillAhead 16 = .ok (.iload_n 1, 1) := by decide +kernel
theorem dX1_fillAhead_17 : decode cX1_fillAhead 17 = .ok (.iadd, 1) := by decide +kernel
theorem dX1_fillAhead_18 : decode cX1_fillAhead 18 = .ok (.bipush 40, 2) := by decide +kernel
theorem dX1_fillAhead_20 : decode cX1_fillAhead 20 = .ok (.invokestatic 9, 3) := by decide +kernel
theorem dX1_fillAhead_23 : decode cX1_fillAhead 23 = .ok (.iaload, 1) := by decide +kernel
theorem dX1_fillAhead_24 : decode cX1_fillAhead 24 = .ok (.iastore, 1) := by decide +kernel
theorem dX1_fillAhead_25 : decode cX1_fillAhead 25 = .ok (.iinc 3 1, 3) := by decide +kernel
theorem dX1_fillAhead_28 : decode cX1_fillAhead 28 = .ok (.goto (-22), 3) := by decide +kernel
theorem dX1_fillAhead_31 : decode cX1_fillAhead 31 = .ok (.return_, 1) := by decide +kernel
theorem dX1_longestWait_0 : decode cX1_longestWait 0 = .ok (.iconst 0, 1) := by decide +kernel
theorem dX1_longestWait_1 : decode cX1_longestWait 1 = .ok (.istore_n 3, 1) := by decide +kernel
theorem dX1_longestWait_2 : decode cX1_longestWait 2 = .ok (.iconst 0, 1) := by decide +kernel
theorem dX1_longestWait_3 : decode cX1_longestWait 3 = .ok (.istore 4, 2) := by decide +kernel
theorem dX1_longestWait_5 : decode cX1_longestWait 5 = .ok (.iconst 0, 1) := by decide +kernel
theorem dX1_longestWait_6 : decode cX1_longestWait 6 = .ok (.istore 5, 2) := by decide +kernel
theorem dX1_longestWait_8 : decode cX1_longestWait 8 = .ok (.iload 5, 2) := by decide +kernel
theorem dX1_longestWait_10 : decode cX1_longestWait 10 = .ok (.iload_n 2, 1) := by decide +kernel
theorem dX1_longestWait_11 : decode cX1_longestWait 11 = .ok (.if_icmp .gt 62, 3) := by decide +kernel
theorem dX1_longestWait_14 : decode cX1_longestWait 14 = .ok (.iload 4, 2) := by decide +kernel
theorem dX1_longestWait_16 : decode cX1_longestWait 16 = .ok (.iload 5, 2) := by decide +kernel
theorem dX1_longestWait_18 : decode cX1_longestWait 18 = .ok (.invokestatic 40, 3) := by decide +kernel
theorem dX1_longestWait_21 : decode cX1_longestWait 21 = .ok (.istore 4, 2) := by decide +kernel
theorem dX1_longestWait_23 : decode cX1_longestWait 23 = .ok (.iload 4, 2) := by decide +kernel
theorem dX1_longestWait_25 : decode cX1_longestWait 25 = .ok (.bipush 40, 2) := by decide +kernel
theorem dX1_longestWait_27 : decode cX1_longestWait 27 = .ok (.if_icmp .gt 20, 3) := by decide +kernel
theorem dX1_longestWait_30 : decode cX1_longestWait 30 = .ok (.aload_n 1, 1) := by decide +kernel
theorem dX1_longestWait_31 : decode cX1_longestWait 31 = .ok (.iload 4, 2) := by decide +kernel
theorem dX1_longestWait_33 : decode cX1_longestWait 33 = .ok (.iaload, 1) := by decide +kernel
theorem dX1_longestWait_34 : decode cX1_longestWait 34 = .ok (.aload_n 0, 1) := by decide +kernel
theorem dX1_longestWait_35 : decode cX1_longestWait 35 = .ok (.iload 5, 2) := by decide +kernel
theorem dX1_longestWait_37 : decode cX1_longestWait 37 = .ok (.iaload, 1) := by decide +kernel
theorem dX1_longestWait_38 : decode cX1_longestWait 38 = .ok (.if_icmp .ge 9, 3) := by decide +kernel
theorem dX1_longestWait_41 : decode cX1_longestWait 41 = .ok (.iinc 4 1, 3) := by decide +kernel
theorem dX1_longestWait_44 : decode cX1_longestWait 44 = .ok (.goto (-21), 3) := by decide +kernel
theorem dX1_longestWait_47 : decode cX1_longestWait 47 = .ok (.iload 4, 2) := by decide +kernel
theorem dX1_longestWait_49 : decode cX1_longestWait 49 = .ok (.bipush 40, 2) := by decide +kernel
theorem dX1_longestWait_51 : decode cX1_longestWait 51 = .ok (.if_icmp .le 6, 3) := by decide +kernel
theorem dX1_longestWait_54 : decode cX1_longestWait 54 = .ok (.bipush (-9), 2) := by decide +kernel
theorem dX1_longestWait_56 : decode cX1_longestWait 56 = .ok (.ireturn, 1) := by decide +kernel
theorem dX1_longestWait_57 : decode cX1_longestWait 57 = .ok (.iload_n 3, 1) := by decide +kernel
theorem dX1_longestWait_58 : decode cX1_longestWait 58 = .ok (.iload 4, 2) := by decide +kernel
theorem dX1_longestWait_60 : decode cX1_longestWait 60 = .ok (.iload 5, 2) := by decide +kernel
theorem dX1_longestWait_62 : decode cX1_longestWait 62 = .ok (.isub, 1) := by decide +kernel
theorem dX1_longestWait_63 : decode cX1_longestWait 63 = .ok (.invokestatic 40, 3) := by decide +kernel
theorem dX1_longestWait_66 : decode cX1_longestWait 66 = .ok (.istore_n 3, 1) := by decide +kernel
theorem dX1_longestWait_67 : decode cX1_longestWait 67 = .ok (.iinc 5 1, 3) := by decide +kernel
theorem dX1_longestWait_70 : decode cX1_longestWait 70 = .ok (.goto (-62), 3) := by decide +kernel
theorem dX1_longestWait_73 : decode cX1_longestWait 73 = .ok (.iload_n 3, 1) := by decide +kernel
theorem dX1_longestWait_74 : decode cX1_longestWait 74 = .ok (.ireturn, 1) := by decide +kernel
theorem dX1_greatestHeap_0 : decode cX1_greatestHeap 0 = .ok (.iconst 0, 1) := by decide +kernel
theorem dX1_greatestHeap_1 : decode cX1_greatestHeap 1 = .ok (.istore_n 2, 1) := by decide +kernel
theorem dX1_greatestHeap_2 : decode cX1_greatestHeap 2 = .ok (.iconst 0, 1) := by decide +kernel
theorem dX1_greatestHeap_3 : decode cX1_greatestHeap 3 = .ok (.istore_n 3, 1) := by decide +kernel
theorem dX1_greatestHeap_4 : decode cX1_greatestHeap 4 = .ok (.iload_n 3, 1) := by decide +kernel
theorem dX1_greatestHeap_5 : decode cX1_greatestHeap 5 = .ok (.bipush 40, 2) := by decide +kernel
theorem dX1_greatestHeap_7 : decode cX1_greatestHeap 7 = .ok (.if_icmp .gt 21, 3) := by decide +kernel
theorem dX1_greatestHeap_10 : decode cX1_greatestHeap 10 = .ok (.iload_n 2, 1) := by decide +kernel
theorem dX1_greatestHeap_11 : decode cX1_greatestHeap 11 = .ok (.aload_n 0, 1) := by decide +kernel
theorem dX1_greatestHeap_12 : decode cX1_greatestHeap 12 = .ok (.iload_n 3, 1) := by decide +kernel
theorem dX1_greatestHeap_13 : decode cX1_greatestHeap 13 = .ok (.iaload, 1) := by decide +kernel
theorem dX1_greatestHeap_14 : decode cX1_greatestHeap 14 = .ok (.aload_n 1, 1) := by decide +kernel
theorem dX1_greatestHeap_15 : decode cX1_greatestHeap 15 = .ok (.iload_n 3, 1) := by decide +kernel
theorem dX1_greatestHeap_16 : decode cX1_greatestHeap 16 = .ok (.iaload, 1) := by decide +kernel
theorem dX1_greatestHeap_17 : decode cX1_greatestHeap 17 = .ok (.isub, 1) := by decide +kernel
theorem dX1_greatestHeap_18 : decode cX1_greatestHeap 18 = .ok (.invokestatic 40, 3) := by decide +kernel
theorem dX1_greatestHeap_21 : decode cX1_greatestHeap 21 = .ok (.istore_n 2, 1) := by decide +kernel
theorem dX1_greatestHeap_22 : decode cX1_greatestHeap 22 = .ok (.iinc 3 1, 3) := by decide +kernel
theorem dX1_greatestHeap_25 : decode cX1_greatestHeap 25 = .ok (.goto (-21), 3) := by decide +kernel
theorem dX1_greatestHeap_28 : decode cX1_greatestHeap 28 = .ok (.iload_n 2, 1) := by decide +kernel
theorem dX1_greatestHeap_29 : decode cX1_greatestHeap 29 = .ok (.ireturn, 1) := by decide +kernel
theorem dX2_init_0 : decode cX2_init 0 = .ok (.aload_n 0, 1) := by decide +kernel
theorem dX2_init_1 : decode cX2_init 1 = .ok (.invokespecial 3, 3) := by decide +kernel
theorem dX2_init_4 : decode cX2_init 4 = .ok (.aload_n 0, 1) := by decide +kernel
theorem dX2_init_5 : decode cX2_init 5 = .ok (.bipush 41, 2) := by decide +kernel
theorem dX2_init_7 : decode cX2_init 7 = .ok (.newarray .int, 2) := by decide +kernel
theorem dX2_init_9 : decode cX2_init 9 = .ok (.putfield 9, 3) := by decide +kernel
theorem dX2_init_12 : decode cX2_init 12 = .ok (.aload_n 0, 1) := by decide +kernel
theorem dX2_init_13 : decode cX2_init 13 = .ok (.bipush 41, 2) := by decide +kernel
theorem dX2_init_15 : decode cX2_init 15 = .ok (.newarray .int, 2) := by decide +kernel
theorem dX2_init_17 : decode cX2_init 17 = .ok (.putfield 15, 3) := by decide +kernel
theorem dX2_init_20 : decode cX2_init 20 = .ok (.aload_n 0, 1) := by decide +kernel
theorem dX2_init_21 : decode cX2_init 21 = .ok (.iconst 0, 1) := by decide +kernel
theorem dX2_init_22 : decode cX2_init 22 = .ok (.putfield 18, 3) := by decide +kernel
theorem dX2_init_25 : decode cX2_init 25 = .ok (.return_, 1) := by decide +kernel
theorem dX2_replaceBy_0 : decode cX2_replaceBy 0 = .ok (.aload_n 0, 1) := by decide +kernel
theorem dX2_replaceBy_1 : decode cX2_replaceBy 1 = .ok (.iload_n 2, 1) := by decide +kernel
theorem dX2_replaceBy_2 : decode cX2_replaceBy 2 = .ok (.putfield 18, 3) := by decide +kernel
theorem dX2_replaceBy_5 : decode cX2_replaceBy 5 = .ok (.aload_n 0, 1) := by decide +kernel
theorem dX2_replaceBy_6 : decode cX2_replaceBy 6 = .ok (.getfield 9, 3) := by decide +kernel
theorem dX2_replaceBy_9 : decode cX2_replaceBy 9 = .ok (.iconst 0, 1) := by decide +kernel
theorem dX2_replaceBy_10 : decode cX2_replaceBy 10 = .ok (.iconst 0, 1) := by decide +kernel
theorem dX2_replaceBy_11 : decode cX2_replaceBy 11 = .ok (.iastore, 1) := by decide +kernel
theorem dX2_replaceBy_12 : decode cX2_replaceBy 12 = .ok (.iconst 1, 1) := by decide +kernel
theorem dX2_replaceBy_13 : decode cX2_replaceBy 13 = .ok (.istore_n 3, 1) := by decide +kernel
theorem dX2_replaceBy_14 : decode cX2_replaceBy 14 = .ok (.iload_n 3, 1) := by decide +kernel
theorem dX2_replaceBy_15 : decode cX2_replaceBy 15 = .ok (.bipush 40, 2) := by decide +kernel
theorem dX2_replaceBy_17 : decode cX2_replaceBy 17 = .ok (.if_icmp .gt 38, 3) := by decide +kernel
theorem dX2_replaceBy_20 : decode cX2_replaceBy 20 = .ok (.aload_n 0, 1) := by decide +kernel
theorem dX2_replaceBy_21 : decode cX2_replaceBy 21 = .ok (.getfield 9, 3) := by decide +kernel
theorem dX2_replaceBy_24 : decode cX2_replaceBy 24 = .ok (.iload_n 3, 1) := by decide +kernel
theorem dX2_replaceBy_25 : decode cX2_replaceBy 25 = .ok (.aload_n 0, 1) := by decide +kernel
theorem dX2_replaceBy_26 : decode cX2_replaceBy 26 = .ok (.getfield 9, 3) := by decide +kernel
theorem dX2_replaceBy_29 : decode cX2_replaceBy 29 = .ok (.iload_n 3, 1) := by decide +kernel
theorem dX2_replaceBy_30 : decode cX2_replaceBy 30 = .ok (.iconst 1, 1) := by decide +kernel
theorem dX2_replaceBy_31 : decode cX2_replaceBy 31 = .ok (.isub, 1) := by decide +kernel
theorem dX2_replaceBy_32 : decode cX2_replaceBy 32 = .ok (.iaload, 1) := by decide +kernel
theorem dX2_replaceBy_33 : decode cX2_replaceBy 33 = .ok (.iload_n 3, 1) := by decide +kernel
theorem dX2_replaceBy_34 : decode cX2_replaceBy 34 = .ok (.iload_n 2, 1) := by decide +kernel
theorem dX2_replaceBy_35 : decode cX2_replaceBy 35 = .ok (.if_icmp .gt 11, 3) := by decide +kernel
theorem dX2_replaceBy_38 : decode cX2_replaceBy 38 = .ok (.aload_n 1, 1) := by decide +kernel
theorem dX2_replaceBy_39 : decode cX2_replaceBy 39 = .ok (.iload_n 3, 1) := by decide +kernel
theorem dX2_replaceBy_40 : decode cX2_replaceBy 40 = .ok (.iconst 1, 1) := by decide +kernel
theorem dX2_replaceBy_41 : decode cX2_replaceBy 41 = .ok (.isub, 1) := by decide +kernel
theorem dX2_replaceBy_42 : decode cX2_replaceBy 42 = .ok (.iaload, 1) := by decide +kernel
theorem dX2_replaceBy_43 : decode cX2_replaceBy 43 = .ok (.goto 4, 3) := by decide +kernel
theorem dX2_replaceBy_46 : decode cX2_replaceBy 46 = .ok (.iconst 0, 1) := by decide +kernel
theorem dX2_replaceBy_47 : decode cX2_replaceBy 47 = .ok (.iadd, 1) := by decide +kernel
theorem dX2_replaceBy_48 : decode cX2_replaceBy 48 = .ok (.iastore, 1) := by decide +kernel
theorem dX2_replaceBy_49 : decode cX2_replaceBy 49 = .ok (.iinc 3 1, 3) := by decide +kernel
theorem dX2_replaceBy_52 : decode cX2_replaceBy 52 = .ok (.goto (-38), 3) := by decide +kernel
theorem dX2_replaceBy_55 : decode cX2_replaceBy 55 = .ok (.return_, 1) := by decide +kernel
theorem dX2_firstBreak_0 : decode cX2_firstBreak 0 = .ok (.iconst 1, 1) := by decide +kernel
theorem dX2_firstBreak_1 : decode cX2_firstBreak 1 = .ok (.istore_n 2, 1) := by decide +kernel
theorem dX2_firstBreak_2 : decode cX2_firstBreak 2 = .ok (.iload_n 2, 1) := by decide +kernel
theorem dX2_firstBreak_3 : decode cX2_firstBreak 3 = .ok (.aload_n 0, 1) := by decide +kernel
theorem dX2_firstBreak_4 : decode cX2_firstBreak 4 = .ok (.getfield 18, 3) := by decide +kernel
theorem dX2_firstBreak_7 : decode cX2_firstBreak 7 = .ok (.if_icmp .gt 51, 3) := by decide +kernel
theorem dX2_firstBreak_10 : decode cX2_firstBreak 10 = .ok (.iload_n 2, 1) := by decide +kernel
theorem dX2_firstBreak_11 : decode cX2_firstBreak 11 = .ok (.iconst 1, 1) := by decide +kernel
theorem dX2_firstBreak_12 : decode cX2_firstBreak 12 = .ok (.isub, 1) := by decide +kernel
theorem dX2_firstBreak_13 : decode cX2_firstBreak 13 = .ok (.istore_n 3, 1) := by decide +kernel
theorem dX2_firstBreak_14 : decode cX2_firstBreak 14 = .ok (.iload_n 3, 1) := by decide +kernel
theorem dX2_firstBreak_15 : decode cX2_firstBreak 15 = .ok (.ifCond .lt 37, 3) := by decide +kernel
theorem dX2_firstBreak_18 : decode cX2_firstBreak 18 = .ok (.aload_n 0, 1) := by decide +kernel
theorem dX2_firstBreak_19 : decode cX2_firstBreak 19 = .ok (.getfield 9, 3) := by decide +kernel
theorem dX2_firstBreak_22 : decode cX2_firstBreak 22 = .ok (.iload_n 2, 1) := by decide +kernel
theorem dX2_firstBreak_23 : decode cX2_firstBreak 23 = .ok (.iaload, 1) := by decide +kernel
theorem dX2_firstBreak_24 : decode cX2_firstBreak 24 = .ok (.aload_n 0, 1) := by decide +kernel
theorem dX2_firstBreak_25 : decode cX2_firstBreak 25 = .ok (.getfield 9, 3) := by decide +kernel
theorem dX2_firstBreak_28 : decode cX2_firstBreak 28 = .ok (.iload_n 3, 1) := by decide +kernel
theorem dX2_firstBreak_29 : decode cX2_firstBreak 29 = .ok (.iaload, 1) := by decide +kernel
theorem dX2_firstBreak_30 : decode cX2_firstBreak 30 = .ok (.isub, 1) := by decide +kernel
theorem dX2_firstBreak_31 : decode cX2_firstBreak 31 = .ok (.aload_n 1, 1) := by decide +kernel
theorem dX2_firstBreak_32 : decode cX2_firstBreak 32 = .ok (.iload_n 2, 1) := by decide +kernel
theorem dX2_firstBreak_33 : decode cX2_firstBreak 33 = .ok (.iload_n 3, 1) := by decide +kernel
theorem dX2_firstBreak_34 : decode cX2_firstBreak 34 = .ok (.isub, 1) := by decide +kernel
theorem dX2_firstBreak_35 : decode cX2_firstBreak 35 = .ok (.iaload, 1) := by decide +kernel
theorem dX2_firstBreak_36 : decode cX2_firstBreak 36 = .ok (.if_icmp .le 10, 3) := by decide +kernel
theorem dX2_firstBreak_39 : decode cX2_firstBreak 39 = .ok (.bipush 100, 2) := by decide +kernel
theorem dX2_firstBreak_41 : decode cX2_firstBreak 41 = .ok (.iload_n 2, 1) := by decide +kernel
theorem dX2_firstBreak_42 : decode cX2_firstBreak 42 = .ok (.imul, 1) := by decide +kernel
theorem dX2_firstBreak_43 : decode cX2_firstBreak 43 = .ok (.iload_n 3, 1) := by decide +kernel
theorem dX2_firstBreak_44 : decode cX2_firstBreak 44 = .ok (.iadd, 1) := by decide +kernel
theorem dX2_firstBreak_45 : decode cX2_firstBreak 45 = .ok (.ireturn, 1) := by decide +kernel
theorem dX2_firstBreak_46 : decode cX2_firstBreak 46 = .ok (.iinc 3 (-1), 3) := by decide +kernel
theorem dX2_firstBreak_49 : decode cX2_firstBreak 49 = .ok (.goto (-35), 3) := by decide +kernel
theorem dX2_firstBreak_52 : decode cX2_firstBreak 52 = .ok (.iinc 2 1, 3) := by decide +kernel
theorem dX2_firstBreak_55 : decode cX2_firstBreak 55 = .ok (.goto (-53), 3) := by decide +kernel
theorem dX2_firstBreak_58 : decode cX2_firstBreak 58 = .ok (.bipush (-9), 2) := by decide +kernel
theorem dX2_firstBreak_60 : decode cX2_firstBreak 60 = .ok (.ireturn, 1) := by decide +kernel
theorem dX2_leastBurst_0 : decode cX2_leastBurst 0 = .ok (.iconst 0, 1) := by decide +kernel
theorem dX2_leastBurst_1 : decode cX2_leastBurst 1 = .ok (.istore_n 2, 1) := by decide +kernel
theorem dX2_leastBurst_2 : decode cX2_leastBurst 2 = .ok (.iconst 0, 1) := by decide +kernel
theorem dX2_leastBurst_3 : decode cX2_leastBurst 3 = .ok (.istore_n 3, 1) := by decide +kernel
theorem dX2_leastBurst_4 : decode cX2_leastBurst 4 = .ok (.iconst 1, 1) := by decide +kernel
theorem dX2_leastBurst_5 : decode cX2_leastBurst 5 = .ok (.istore 4, 2) := by decide +kernel
theorem dX2_leastBurst_7 : decode cX2_leastBurst 7 = .ok (.iload 4, 2) := by decide +kernel
theorem dX2_leastBurst_9 : decode cX2_leastBurst 9 = .ok (.aload_n 0, 1) := by decide +kernel
theorem dX2_leastBurst_10 : decode cX2_leastBurst 10 = .ok (.getfield 18, 3) := by decide +kernel
theorem dX2_leastBurst_13 : decode cX2_leastBurst 13 = .ok (.if_icmp .gt 39, 3) := by decide +kernel
theorem dX2_leastBurst_16 : decode cX2_leastBurst 16 = .ok (.aload_n 0, 1) := by decide +kernel
theorem dX2_leastBurst_17 : decode cX2_leastBurst 17 = .ok (.getfield 9, 3) := by decide +kernel
theorem dX2_leastBurst_20 : decode cX2_leastBurst 20 = .ok (.iload 4, 2) := by decide +kernel
theorem dX2_leastBurst_22 : decode cX2_leastBurst 22 = .ok (.iaload, 1) := by decide +kernel
theorem dX2_leastBurst_23 : decode cX2_leastBurst 23 = .ok (.iload_n 1, 1) := by decide +kernel
theorem dX2_leastBurst_24 : decode cX2_leastBurst 24 = .ok (.iload 4, 2) := by decide +kernel
theorem dX2_leastBurst_26 : decode cX2_leastBurst 26 = .ok (.imul, 1) := by decide +kernel
theorem dX2_leastBurst_27 : decode cX2_leastBurst 27 = .ok (.isub, 1) := by decide +kernel
theorem dX2_leastBurst_28 : decode cX2_leastBurst 28 = .ok (.istore 5, 2) := by decide +kernel
theorem dX2_leastBurst_30 : decode cX2_leastBurst 30 = .ok (.iload_n 2, 1) := by decide +kernel
theorem dX2_leastBurst_31 : decode cX2_leastBurst 31 = .ok (.iload 5, 2) := by decide +kernel
theorem dX2_leastBurst_33 : decode cX2_leastBurst 33 = .ok (.iload_n 3, 1) := by decide +kernel
theorem dX2_leastBurst_34 : decode cX2_leastBurst 34 = .ok (.isub, 1) := by decide +kernel
theorem dX2_leastBurst_35 : decode cX2_leastBurst 35 = .ok (.invokestatic 22, 3) := by decide +kernel
theorem dX2_leastBurst_38 : decode cX2_leastBurst 38 = .ok (.istore_n 2, 1) := by decide +kernel
theorem dX2_leastBurst_39 : decode cX2_leastBurst 39 = .ok (.iload_n 3, 1) := by decide +kernel
theorem dX2_leastBurst_40 : decode cX2_leastBurst 40 = .ok (.iload 5, 2) := by decide +kernel
theorem dX2_leastBurst_42 : decode cX2_leastBurst 42 = .ok (.invokestatic 28, 3) := by decide +kernel
theorem dX2_leastBurst_45 : decode cX2_leastBurst 45 = .ok (.istore_n 3, 1) := by decide +kernel
theorem dX2_leastBurst_46 : decode cX2_leastBurst 46 = .ok (.iinc 4 1, 3) := by decide +kernel
theorem dX2_leastBurst_49 : decode cX2_leastBurst 49 = .ok (.goto (-42), 3) := by decide +kernel
theorem dX2_leastBurst_52 : decode cX2_leastBurst 52 = .ok (.iload_n 2, 1) := by decide +kernel
theorem dX2_leastBurst_53 : decode cX2_leastBurst 53 = .ok (.ireturn, 1) := by decide +kernel
theorem dX2_shapeBy_0 : decode cX2_shapeBy 0 = .ok (.aload_n 0, 1) := by decide +kernel
theorem dX2_shapeBy_1 : decode cX2_shapeBy 1 = .ok (.getfield 9, 3) := by decide +kernel
theorem dX2_shapeBy_4 : decode cX2_shapeBy 4 = .ok (.aload_n 1, 1) := by decide +kernel
theorem dX2_shapeBy_5 : decode cX2_shapeBy 5 = .ok (.aload_n 0, 1) := by decide +kernel
theorem dX2_shapeBy_6 : decode cX2_shapeBy 6 = .ok (.getfield 15, 3) := by decide +kernel
theorem dX2_shapeBy_9 : decode cX2_shapeBy 9 = .ok (.invokestatic 31, 3) := by decide +kernel
theorem dX2_shapeBy_12 : decode cX2_shapeBy 12 = .ok (.return_, 1) := by decide +kernel
theorem dX2_mostHeld_0 : decode cX2_mostHeld 0 = .ok (.aload_n 0, 1) := by decide +kernel
theorem dX2_mostHeld_1 : decode cX2_mostHeld 1 = .ok (.getfield 9, 3) := by decide +kernel
theorem dX2_mostHeld_4 : decode cX2_mostHeld 4 = .ok (.aload_n 0, 1) := by decide +kernel
theorem dX2_mostHeld_5 : decode cX2_mostHeld 5 = .ok (.getfield 15, 3) := by decide +kernel
theorem dX2_mostHeld_8 : decode cX2_mostHeld 8 = .ok (.invokestatic 37, 3) := by decide +kernel
theorem dX2_mostHeld_11 : decode cX2_mostHeld 11 = .ok (.ireturn, 1) := by decide +kernel
theorem dX2_latestOfShaped_0 : decode cX2_latestOfShaped 0 = .ok (.aload_n 0, 1) := by decide +kernel
theorem dX2_latestOfShaped_1 : decode cX2_latestOfShaped 1 = .ok (.getfield 9, 3) := by decide +kernel
theorem dX2_latestOfShaped_4 : decode cX2_latestOfShaped 4 = .ok (.aload_n 0, 1) := by decide +kernel
theorem dX2_latestOfShaped_5 : decode cX2_latestOfShaped 5 = .ok (.getfield 15, 3) := by decide +kernel
theorem dX2_latestOfShaped_8 : decode cX2_latestOfShaped 8 = .ok (.bipush 40, 2) := by decide +kernel
theorem dX2_latestOfShaped_10 : decode cX2_latestOfShaped 10 = .ok (.invokestatic 41, 3) := by decide +kernel
theorem dX2_latestOfShaped_13 : decode cX2_latestOfShaped 13 = .ok (.ireturn, 1) := by decide +kernel
theorem dX3_init_0 : decode cX3_init 0 = .ok (.aload_n 0, 1) := by decide +kernel
theorem dX3_init_1 : decode cX3_init 1 = .ok (.invokespecial 3, 3) := by decide +kernel
theorem dX3_init_4 : decode cX3_init 4 = .ok (.aload_n 0, 1) := by decide +kernel
theorem dX3_init_5 : decode cX3_init 5 = .ok (.iconst 4, 1) := by decide +kernel
theorem dX3_init_6 : decode cX3_init 6 = .ok (.bipush 60, 2) := by decide +kernel
theorem dX3_init_8 : decode cX3_init 8 = .ok (.multianewarray 9 2, 4) := by decide +kernel
theorem dX3_init_12 : decode cX3_init 12 = .ok (.putfield 11, 3) := by decide +kernel
theorem dX3_init_15 : decode cX3_init 15 = .ok (.aload_n 0, 1) := by decide +kernel
theorem dX3_init_16 : decode cX3_init 16 = .ok (.iconst 4, 1) := by decide +kernel
theorem dX3_init_17 : decode cX3_init 17 = .ok (.newarray .int, 2) := by decide +kernel
theorem dX3_init_19 : decode cX3_init 19 = .ok (.putfield 16, 3) := by decide +kernel
theorem dX3_init_22 : decode cX3_init 22 = .ok (.aload_n 0, 1) := by decide +kernel
theorem dX3_init_23 : decode cX3_init 23 = .ok (.iconst 4, 1) := by decide +kernel
theorem dX3_init_24 : decode cX3_init 24 = .ok (.newarray .int, 2) := by decide +kernel
theorem dX3_init_26 : decode cX3_init 26 = .ok (.putfield 20, 3) := by decide +kernel
theorem dX3_init_29 : decode cX3_init 29 = .ok (.aload_n 0, 1) := by decide +kernel
theorem dX3_init_30 : decode cX3_init 30 = .ok (.getfield 16, 3) := by decide +kernel
theorem dX3_init_33 : decode cX3_init 33 = .ok (.iconst (-1), 1) := by decide +kernel
theorem dX3_init_34 : decode cX3_init 34 = .ok (.invokestatic 23, 3) := by decide +kernel
theorem dX3_init_37 : decode cX3_init 37 = .ok (.return_, 1) := by decide +kernel
theorem dX3_has_0 : decode cX3_has 0 = .ok (.iload_n 1, 1) := by decide +kernel
theorem dX3_has_1 : decode cX3_has 1 = .ok (.ifCond .lt 12, 3) := by decide +kernel
theorem dX3_has_4 : decode cX3_has 4 = .ok (.iload_n 1, 1) := by decide +kernel
theorem dX3_has_5 : decode cX3_has 5 = .ok (.iconst 4, 1) := by decide +kernel
theorem dX3_has_6 : decode cX3_has 6 = .ok (.if_icmp .ge 7, 3) := by decide +kernel
theorem dX3_has_9 : decode cX3_has 9 = .ok (.iconst 1, 1) := by decide +kernel
theorem dX3_has_10 : decode cX3_has 10 = .ok (.goto 4, 3) := by decide +kernel
theorem dX3_has_13 : decode cX3_has 13 = .ok (.iconst 0, 1) := by decide +kernel
theorem dX3_has_14 : decode cX3_has 14 = .ok (.ireturn, 1) := by decide +kernel
theorem dX3_isLane_0 : decode cX3_isLane 0 = .ok (.iload_n 1, 1) := by decide +kernel
theorem dX3_isLane_1 : decode cX3_isLane 1 = .ok (.ifCond .lt 12, 3) := by decide +kernel
theorem dX3_isLane_4 : decode cX3_isLane 4 = .ok (.iload_n 1, 1) := by decide +kernel
theorem dX3_isLane_5 : decode cX3_isLane 5 = .ok (.iconst 3, 1) := by decide +kernel
theorem dX3_isLane_6 : decode cX3_isLane 6 = .ok (.if_icmp .ge 7, 3) := by decide +kernel
theorem dX3_isLane_9 : decode cX3_isLane 9 = .ok (.iconst 1, 1) := by decide +kernel
theorem dX3_isLane_10 : decode cX3_isLane 10 = .ok (.goto 4, 3) := by decide +kernel
theorem dX3_isLane_13 : decode cX3_isLane 13 = .ok (.iconst 0, 1) := by decide +kernel
theorem dX3_isLane_14 : decode cX3_isLane 14 = .ok (.ireturn, 1) := by decide +kernel
theorem dX3_renew_0 : decode cX3_renew 0 = .ok (.aload_n 0, 1) := by decide +kernel
theorem dX3_renew_1 : decode cX3_renew 1 = .ok (.iload_n 1, 1) := by decide +kernel
theorem dX3_renew_2 : decode cX3_renew 2 = .ok (.invokevirtual 29, 3) := by decide +kernel
theorem dX3_renew_5 : decode cX3_renew 5 = .ok (.ifCond .ne 5, 3) := by decide +kernel
theorem dX3_renew_8 : decode cX3_renew 8 = .ok (.iconst (-1), 1) := by decide +kernel
theorem dX3_renew_9 : decode cX3_renew 9 = .ok (.ireturn, 1) := by decide +kernel
theorem dX3_renew_10 : decode cX3_renew 10 = .ok (.aload_n 0, 1) := by decide +kernel
theorem dX3_renew_11 : decode cX3_renew 11 = .ok (.iload_n 2, 1) := by decide +kernel
theorem dX3_renew_12 : decode cX3_renew 12 = .ok (.invokevirtual 33, 3) := by decide +kernel
theorem dX3_renew_15 : decode cX3_renew 15 = .ok (.ifCond .eq 9, 3) := by decide +kernel
theorem dX3_renew_18 : decode cX3_renew 18 = .ok (.iload_n 3, 1) := by decide +kernel
theorem dX3_renew_19 : decode cX3_renew 19 = .ok (.bipush 60, 2) := by decide +kernel
theorem dX3_renew_21 : decode cX3_renew 21 = .ok (.if_icmp .le 6, 3) := by decide +kernel
theorem dX3_renew_24 : decode cX3_renew 24 = .ok (.bipush (-2), 2) := by decide +kernel
theorem dX3_renew_26 : decode cX3_renew 26 = .ok (.ireturn, 1) := by decide +kernel
theorem dX3_renew_27 : decode cX3_renew 27 = .ok (.iload_n 3, 1) := by decide +kernel
theorem dX3_renew_28 : decode cX3_renew 28 = .ok (.ifCond .ge 6, 3) := by decide +kernel
theorem dX3_renew_31 : decode cX3_renew 31 = .ok (.bipush (-14), 2) := by decide +kernel
theorem dX3_renew_33 : decode cX3_renew 33 = .ok (.ireturn, 1) := by decide +kernel
theorem dX3_renew_34 : decode cX3_renew 34 = .ok (.aload_n 0, 1) := by decide +kernel
theorem dX3_renew_35 : decode cX3_renew 35 = .ok (.getfield 11, 3) := by decide +kernel
theorem dX3_renew_38 : decode cX3_renew 38 = .ok (.iload_n 1, 1) := by decide +kernel
theorem dX3_renew_39 : decode cX3_renew 39 = .ok (.aaload, 1) := by decide +kernel
theorem dX3_renew_40 : decode cX3_renew 40 = .ok (.iconst 0, 1) := by decide +kernel
theorem dX3_renew_41 : decode cX3_renew 41 = .ok (.invokestatic 23, 3) := by decide +kernel
theorem dX3_renew_44 : decode cX3_renew 44 = .ok (.aload_n 0, 1) := by decide +kernel
theorem dX3_renew_45 : decode cX3_renew 45 = .ok (.getfield 16, 3) := by decide +kernel
theorem dX3_renew_48 : decode cX3_renew 48 = .ok (.iload_n 1, 1) := by decide +kernel
theorem dX3_renew_49 : decode cX3_renew 49 = .ok (.iload_n 3, 1) := by decide +kernel
theorem dX3_renew_50 : decode cX3_renew 50 = .ok (.iastore, 1) := by decide +kernel
theorem dX3_renew_51 : decode cX3_renew 51 = .ok (.aload_n 0, 1) := by decide +kernel
theorem dX3_renew_52 : decode cX3_renew 52 = .ok (.getfield 20, 3) := by decide +kernel
theorem dX3_renew_55 : decode cX3_renew 55 = .ok (.iload_n 1, 1) := by decide +kernel
theorem dX3_renew_56 : decode cX3_renew 56 = .ok (.iload_n 2, 1) := by decide +kernel
theorem dX3_renew_57 : decode cX3_renew 57 = .ok (.iastore, 1) := by decide +kernel
theorem dX3_renew_58 : decode cX3_renew 58 = .ok (.iconst 1, 1) := by decide +kernel
theorem dX3_renew_59 : decode cX3_renew 59 = .ok (.ireturn, 1) := by decide +kernel
theorem dX3_drop_0 : decode cX3_drop 0 = .ok (.aload_n 0, 1) := by decide +kernel
theorem dX3_drop_1 : decode cX3_drop 1 = .ok (.getfield 16, 3) := by decide +kernel
theorem dX3_drop_4 : decode cX3_drop 4 = .ok (.iload_n 1, 1) := by decide +kernel
theorem dX3_drop_5 : decode cX3_drop 5 = .ok (.iaload, 1) := by decide +kernel
theorem dX3_drop_6 : decode cX3_drop 6 = .ok (.iconst (-1), 1) := by decide +kernel
theorem dX3_drop_7 : decode cX3_drop 7 = .ok (.if_icmp .ne 7, 3) := by decide +kernel
theorem dX3_drop_10 : decode cX3_drop 10 = .ok (.iconst 0, 1) := by decide +kernel
theorem dX3_drop_11 : decode cX3_drop 11 = .ok (.goto 4, 3) := by decide +kernel
theorem dX3_drop_14 : decode cX3_drop 14 = .ok (.iconst 1, 1) := by decide +kernel
theorem dX3_drop_15 : decode cX3_drop 15 = .ok (.istore_n 2, 1) := by decide +kernel
theorem dX3_drop_16 : decode cX3_drop 16 = .ok (.aload_n 0, 1) := by decide +kernel
theorem dX3_drop_17 : decode cX3_drop 17 = .ok (.getfield 16, 3) := by decide +kernel
theorem dX3_drop_20 : decode cX3_drop 20 = .ok (.iload_n 1, 1) := by decide +kernel
theorem dX3_drop_21 : decode cX3_drop 21 = .ok (.iconst (-1), 1) := by decide +kernel
theorem dX3_drop_22 : decode cX3_drop 22 = .ok (.iastore, 1) := by decide +kernel
theorem dX3_drop_23 : decode cX3_drop 23 = .ok (.iload_n 2, 1) := by decide +kernel
theorem dX3_drop_24 : decode cX3_drop 24 = .ok (.ireturn, 1) := by decide +kernel
theorem dX3_write_0 : decode cX3_write 0 = .ok (.aload_n 0, 1) := by decide +kernel
theorem dX3_write_1 : decode cX3_write 1 = .ok (.iload_n 1, 1) := by decide +kernel
theorem dX3_write_2 : decode cX3_write 2 = .ok (.invokevirtual 29, 3) := by decide +kernel
theorem dX3_write_5 : decode cX3_write 5 = .ok (.ifCond .ne 5, 3) := by decide +kernel
theorem dX3_write_8 : decode cX3_write 8 = .ok (.iconst (-1), 1) := by decide +kernel
theorem dX3_write_9 : decode cX3_write 9 = .ok (.ireturn, 1) := by decide +kernel
theorem dX3_write_10 : decode cX3_write 10 = .ok (.aload_n 0, 1) := by decide +kernel
theorem dX3_write_11 : decode cX3_write 11 = .ok (.getfield 16, 3) := by decide +kernel
theorem dX3_write_14 : decode cX3_write 14 = .ok (.iload_n 1, 1) := by decide +kernel
theorem dX3_write_15 : decode cX3_write 15 = .ok (.iaload, 1) := by decide +kernel
theorem dX3_write_16 : decode cX3_write 16 = .ok (.iconst (-1), 1) := by decide +kernel
theorem dX3_write_17 : decode cX3_write 17 = .ok (.if_icmp .ne 6, 3) := by decide +kernel
theorem dX3_write_20 : decode cX3_write 20 = .ok (.bipush (-11), 2) := by decide +kernel
theorem dX3_write_22 : decode cX3_write 22 = .ok (.ireturn, 1) := by decide +kernel
theorem dX3_write_23 : decode cX3_write 23 = .ok (.iload_n 2, 1) := by decide +kernel
theorem dX3_write_24 : decode cX3_write 24 = .ok (.ifCond .lt 13, 3) := by decide +kernel
theorem dX3_write_27 : decode cX3_write 27 = .ok (.iload_n 2, 1) := by decide +kernel
theorem dX3_write_28 : decode cX3_write 28 = .ok (.aload_n 0, 1) := by decide +kernel
theorem dX3_write_29 : decode cX3_write 29 = .ok (.getfield 16, 3) := by decide +kernel
theorem dX3_write_32 : decode cX3_write 32 = .ok (.iload_n 1, 1) := by decide +kernel
theorem dX3_write_33 : decode cX3_write 33 = .ok (.iaload, 1) := by decide +kernel
theorem dX3_write_34 : decode cX3_write 34 = .ok (.if_icmp .lt 6, 3) := by decide +kernel
theorem dX3_write_37 : decode cX3_write 37 = .ok (.bipush (-13), 2) := by decide +kernel
theorem dX3_write_39 : decode cX3_write 39 = .ok (.ireturn, 1) := by decide +kernel
theorem dX3_write_40 : decode cX3_write 40 = .ok (.aload_n 0, 1) := by decide +kernel
theorem dX3_write_41 : decode cX3_write 41 = .ok (.getfield 11, 3) := by decide +kernel
theorem dX3_write_44 : decode cX3_write 44 = .ok (.iload_n 1, 1) := by decide +kernel
theorem dX3_write_45 : decode cX3_write 45 = .ok (.aaload, 1) := by decide +kernel
theorem dX3_write_46 : decode cX3_write 46 = .ok (.iload_n 2, 1) := by decide +kernel
theorem dX3_write_47 : decode cX3_write 47 = .ok (.aload_n 0, 1) := by decide +kernel
theorem dX3_write_48 : decode cX3_write 48 = .ok (.iload_n 3, 1) := by decide +kernel
theorem dX3_write_49 : decode cX3_write 49 = .ok (.aload_n 0, 1) := by decide +kernel
theorem dX3_write_50 : decode cX3_write 50 = .ok (.getfield 20, 3) := by decide +kernel
theorem dX3_write_53 : decode cX3_write 53 = .ok (.iload_n 1, 1) := by decide +kernel
theorem dX3_write_54 : decode cX3_write 54 = .ok (.iaload, 1) := by decide +kernel
theorem dX3_write_55 : decode cX3_write 55 = .ok (.invokevirtual 36, 3) := by decide +kernel
theorem dX3_write_58 : decode cX3_write 58 = .ok (.iastore, 1) := by decide +kernel
theorem dX3_write_59 : decode cX3_write 59 = .ok (.iconst 1, 1) := by decide +kernel
theorem dX3_write_60 : decode cX3_write 60 = .ok (.ireturn, 1) := by decide +kernel
theorem dX3_cut_0 : decode cX3_cut 0 = .ok (.iload_n 2, 1) := by decide +kernel
theorem dX3_cut_1 : decode cX3_cut 1 = .ok (.ifCond .ne 6, 3) := by decide +kernel
theorem dX3_cut_4 : decode cX3_cut 4 = .ok (.iload_n 1, 1) := by decide +kernel
theorem dX3_cut_5 : decode cX3_cut 5 = .ok (.i2b, 1) := by decide +kernel
theorem dX3_cut_6 : decode cX3_cut 6 = .ok (.ireturn, 1) := by decide +kernel
theorem dX3_cut_7 : decode cX3_cut 7 = .ok (.iload_n 2, 1) := by decide +kernel
theorem dX3_cut_8 : decode cX3_cut 8 = .ok (.iconst 1, 1) := by decide +kernel
theorem dX3_cut_9 : decode cX3_cut 9 = .ok (.if_icmp .ne 8, 3) := by decide +kernel
theorem dX3_cut_12 : decode cX3_cut 12 = .ok (.iload_n 1, 1) := by decide +kernel
theorem dX3_cut_13 : decode cX3_cut 13 = .ok (.i2s, 1) := by decide +kernel
theorem dX3_cut_14 : decode cX3_cut 14 = .ok (.goto 4, 3) := by decide +kernel
theorem dX3_cut_17 : decode cX3_cut 17 = .ok (.iload_n 1, 1) := by decide +kernel
theorem dX3_cut_18 : decode cX3_cut 18 = .ok (.ireturn, 1) := by decide +kernel
theorem dX3_whyUnread_0 : decode cX3_whyUnread 0 = .ok (.aload_n 0, 1) := by decide +kernel
theorem dX3_whyUnread_1 : decode cX3_whyUnread 1 = .ok (.iload_n 1, 1) := by decide +kernel
theorem dX3_whyUnread_2 : decode cX3_whyUnread 2 = .ok (.iload_n 3, 1) := by decide +kernel
theorem dX3_whyUnread_3 : decode cX3_whyUnread 3 = .ok (.invokevirtual 40, 3) := by decide +kernel
theorem dX3_whyUnread_6 : decode cX3_whyUnread 6 = .ok (.istore 4, 2) := by decide +kernel
theorem dX3_whyUnread_8 : decode cX3_whyUnread 8 = .ok (.iload 4, 2) := by decide +kernel
theorem dX3_whyUnread_10 : decode cX3_whyUnread 10 = .ok (.ifCond .eq 6, 3) := by decide +kernel
theorem dX3_whyUnread_13 : decode cX3_whyUnread 13 = .ok (.iload 4, 2) := by decide +kernel
theorem dX3_whyUnread_15 : decode cX3_whyUnread 15 = .ok (.ireturn, 1) := by decide +kernel
theorem dX3_whyUnread_16 : decode cX3_whyUnread 16 = .ok (.iload_n 2, 1) := by decide +kernel
theorem dX3_whyUnread_17 : decode cX3_whyUnread 17 = .ok (.ifCond .lt 13, 3) := by decide +kernel
theorem dX3_whyUnread_20 : decode cX3_whyUnread 20 = .ok (.iload_n 2, 1) := by decide +kernel
theorem dX3_whyUnread_21 : decode cX3_whyUnread 21 = .ok (.aload_n 0, 1) := by decide +kernel
theorem dX3_whyUnread_22 : decode cX3_whyUnread 22 = .ok (.getfield 16, 3) := by decide +kernel
theorem dX3_whyUnread_25 : decode cX3_whyUnread 25 = .ok (.iload_n 1, 1) := by decide +kernel
theorem dX3_whyUnread_26 : decode cX3_whyUnread 26 = .ok (.iaload, 1) := by decide +kernel
theorem dX3_whyUnread_27 : decode cX3_whyUnread 27 = .ok (.if_icmp .lt 8, 3) := by decide +kernel
theorem dX3_whyUnread_30 : decode cX3_whyUnread 30 = .ok (.bipush (-13), 2) := by decide +kernel
theorem dX3_whyUnread_32 : decode cX3_whyUnread 32 = .ok (.goto 4, 3) := by decide +kernel
theorem dX3_whyUnread_35 : decode cX3_whyUnread 35 = .ok (.iconst 0, 1) := by decide +kernel
theorem dX3_whyUnread_36 : decode cX3_whyUnread 36 = .ok (.ireturn, 1) := by decide +kernel
theorem dX3_whyUntaken_0 : decode cX3_whyUntaken 0 = .ok (.aload_n 0, 1) := by decide +kernel
theorem dX3_whyUntaken_1 : decode cX3_whyUntaken 1 = .ok (.iload_n 1, 1) := by decide +kernel
theorem dX3_whyUntaken_2 : decode cX3_whyUntaken 2 = .ok (.invokevirtual 29, 3) := by decide +kernel
theorem dX3_whyUntaken_5 : decode cX3_whyUntaken 5 = .ok (.ifCond .ne 5, 3) := by decide +kernel
theorem dX3_whyUntaken_8 : decode cX3_whyUntaken 8 = .ok (.iconst (-1), 1) := by decide +kernel
theorem dX3_whyUntaken_9 : decode cX3_whyUntaken 9 = .ok (.ireturn, 1) := by decide +kernel
theorem dX3_whyUntaken_10 : decode cX3_whyUntaken 10 = .ok (.aload_n 0, 1) := by decide +kernel
theorem dX3_whyUntaken_11 : decode cX3_whyUntaken 11 = .ok (.iload_n 2, 1) := by decide +kernel
theorem dX3_whyUntaken_12 : decode cX3_whyUntaken 12 = .ok (.invokevirtual 33, 3) := by decide +kernel
theorem dX3_whyUntaken_15 : decode cX3_whyUntaken 15 = .ok (.ifCond .ne 6, 3) := by decide +kernel
theorem dX3_whyUntaken_18 : decode cX3_whyUntaken 18 = .ok (.bipush (-2), 2) := by decide +kernel
theorem dX3_whyUntaken_20 : decode cX3_whyUntaken 20 = .ok (.ireturn, 1) := by decide +kernel
theorem dX3_whyUntaken_21 : decode cX3_whyUntaken 21 = .ok (.aload_n 0, 1) := by decide +kernel
theorem dX3_whyUntaken_22 : decode cX3_whyUntaken 22 = .ok (.getfield 16, 3) := by decide +kernel
theorem dX3_whyUntaken_25 : decode cX3_whyUntaken 25 = .ok (.iload_n 1, 1) := by decide +kernel
theorem dX3_whyUntaken_26 : decode cX3_whyUntaken 26 = .ok (.iaload, 1) := by decide +kernel
theorem dX3_whyUntaken_27 : decode cX3_whyUntaken 27 = .ok (.iconst (-1), 1) := by decide +kernel
theorem dX3_whyUntaken_28 : decode cX3_whyUntaken 28 = .ok (.if_icmp .ne 6, 3) := by decide +kernel
theorem dX3_whyUntaken_31 : decode cX3_whyUntaken 31 = .ok (.bipush (-11), 2) := by decide +kernel
theorem dX3_whyUntaken_33 : decode cX3_whyUntaken 33 = .ok (.ireturn, 1) := by decide +kernel
theorem dX3_whyUntaken_34 : decode cX3_whyUntaken 34 = .ok (.aload_n 0, 1) := by decide +kernel
theorem dX3_whyUntaken_35 : decode cX3_whyUntaken 35 = .ok (.getfield 20, 3) := by decide +kernel
theorem dX3_whyUntaken_38 : decode cX3_whyUntaken 38 = .ok (.iload_n 1, 1) := by decide +kernel
theorem dX3_whyUntaken_39 : decode cX3_whyUntaken 39 = .ok (.iaload, 1) := by decide +kernel
theorem dX3_whyUntaken_40 : decode cX3_whyUntaken 40 = .ok (.iload_n 2, 1) := by decide +kernel
theorem dX3_whyUntaken_41 : decode cX3_whyUntaken 41 = .ok (.if_icmp .ne 7, 3) := by decide +kernel
theorem dX3_whyUntaken_44 : decode cX3_whyUntaken 44 = .ok (.iconst 0, 1) := by decide +kernel
theorem dX3_whyUntaken_45 : decode cX3_whyUntaken 45 = .ok (.goto 5, 3) := by decide +kernel
theorem dX3_whyUntaken_48 : decode cX3_whyUntaken 48 = .ok (.bipush (-12), 2) := by decide +kernel
theorem dX3_whyUntaken_50 : decode cX3_whyUntaken 50 = .ok (.ireturn, 1) := by decide +kernel
theorem dX3_take_0 : decode cX3_take 0 = .ok (.aload_n 0, 1) := by decide +kernel
theorem dX3_take_1 : decode cX3_take 1 = .ok (.iload_n 1, 1) := by decide +kernel
theorem dX3_take_2 : decode cX3_take 2 = .ok (.iload_n 2, 1) := by decide +kernel
theorem dX3_take_3 : decode cX3_take 3 = .ok (.invokevirtual 40, 3) := by decide +kernel
theorem dX3_take_6 : decode cX3_take 6 = .ok (.istore 6, 2) := by decide +kernel
theorem dX3_take_8 : decode cX3_take 8 = .ok (.iload 6, 2) := by decide +kernel
theorem dX3_take_10 : decode cX3_take 10 = .ok (.ifCond .eq 6, 3) := by decide +kernel
theorem dX3_take_13 : decode cX3_take 13 = .ok (.iload 6, 2) := by decide +kernel
theorem dX3_take_15 : decode cX3_take 15 = .ok (.ireturn, 1) := by decide +kernel
theorem dX3_take_16 : decode cX3_take 16 = .ok (.iload 4, 2) := by decide +kernel
theorem dX3_take_18 : decode cX3_take 18 = .ok (.ifCond .ge 6, 3) := by decide +kernel
theorem dX3_take_21 : decode cX3_take 21 = .ok (.bipush (-14), 2) := by decide +kernel
theorem dX3_take_23 : decode cX3_take 23 = .ok (.ireturn, 1) := by decide +kernel
theorem dX3_take_24 : decode cX3_take 24 = .ok (.aload_n 0, 1) := by decide +kernel
theorem dX3_take_25 : decode cX3_take 25 = .ok (.iload_n 1, 1) := by decide +kernel
theorem dX3_take_26 : decode cX3_take 26 = .ok (.iload_n 3, 1) := by decide +kernel
theorem dX3_take_27 : decode cX3_take 27 = .ok (.iload 4, 2) := by decide +kernel
theorem dX3_take_29 : decode cX3_take 29 = .ok (.invokevirtual 43, 3) := by decide +kernel
theorem dX3_take_32 : decode cX3_take 32 = .ok (.ifCond .eq 6, 3) := by decide +kernel
theorem dX3_take_35 : decode cX3_take 35 = .ok (.bipush (-13), 2) := by decide +kernel
theorem dX3_take_37 : decode cX3_take 37 = .ok (.ireturn, 1) := by decide +kernel
theorem dX3_take_38 : decode cX3_take 38 = .ok (.aload_n 0, 1) := by decide +kernel
theorem dX3_take_39 : decode cX3_take 39 = .ok (.getfield 11, 3) := by decide +kernel
theorem dX3_take_42 : decode cX3_take 42 = .ok (.iload_n 1, 1) := by decide +kernel
theorem dX3_take_43 : decode cX3_take 43 = .ok (.aaload, 1) := by decide +kernel
theorem dX3_take_44 : decode cX3_take 44 = .ok (.iload_n 3, 1) := by decide +kernel
theorem dX3_take_45 : decode cX3_take 45 = .ok (.aload 5, 2) := by decide +kernel
theorem dX3_take_47 : decode cX3_take 47 = .ok (.iconst 0, 1) := by decide +kernel
theorem dX3_take_48 : decode cX3_take 48 = .ok (.iload 4, 2) := by decide +kernel
theorem dX3_take_50 : decode cX3_take 50 = .ok (.invokestatic 47, 3) := by decide +kernel
theorem dX3_take_53 : decode cX3_take 53 = .ok (.iconst 0, 1) := by decide +kernel
theorem dX3_take_54 : decode cX3_take 54 = .ok (.ireturn, 1) := by decide +kernel
theorem dX3_bring_0 : decode cX3_bring 0 = .ok (.aload_n 0, 1) := by decide +kernel
theorem dX3_bring_1 : decode cX3_bring 1 = .ok (.iload_n 1, 1) := by decide +kernel
theorem dX3_bring_2 : decode cX3_bring 2 = .ok (.invokevirtual 29, 3) := by decide +kernel
theorem dX3_bring_5 : decode cX3_bring 5 = .ok (.ifCond .eq 11, 3) := by decide +kernel
theorem dX3_bring_8 : decode cX3_bring 8 = .ok (.aload_n 0, 1) := by decide +kernel
theorem dX3_bring_9 : decode cX3_bring 9 = .ok (.iload_n 3, 1) := by decide +kernel
theorem dX3_bring_10 : decode cX3_bring 10 = .ok (.invokevirtual 29, 3) := by decide +kernel
theorem dX3_bring_13 : decode cX3_bring 13 = .ok (.ifCond .ne 5, 3) := by decide +kernel
theorem dX3_bring_16 : decode cX3_bring 16 = .ok (.iconst (-1), 1) := by decide +kernel
theorem dX3_bring_17 : decode cX3_bring 17 = .ok (.ireturn, 1) := by decide +kernel
theorem dX3_bring_18 : decode cX3_bring 18 = .ok (.aload_n 0, 1) := by decide +kernel
theorem dX3_bring_19 : decode cX3_bring 19 = .ok (.getfield 16, 3) := by decide +kernel
theorem dX3_bring_22 : decode cX3_bring 22 = .ok (.iload_n 1, 1) := by decide +kernel
theorem dX3_bring_23 : decode cX3_bring 23 = .ok (.iaload, 1) := by decide +kernel
theorem dX3_bring_24 : decode cX3_bring 24 = .ok (.iconst (-1), 1) := by decide +kernel
theorem dX3_bring_25 : decode cX3_bring 25 = .ok (.if_icmp .eq 13, 3) := by decide +kernel
theorem dX3_bring_28 : decode cX3_bring 28 = .ok (.aload_n 0, 1) := by decide +kernel
theorem dX3_bring_29 : decode cX3_bring 29 = .ok (.getfield 16, 3) := by decide +kernel
theorem dX3_bring_32 : decode cX3_bring 32 = .ok (.iload_n 3, 1) := by decide +kernel
theorem dX3_bring_33 : decode cX3_bring 33 = .ok (.iaload, 1) := by decide +kernel
theorem dX3_bring_34 : decode cX3_bring 34 = .ok (.iconst (-1), 1) := by decide +kernel
theorem dX3_bring_35 : decode cX3_bring 35 = .ok (.if_icmp .ne 6, 3) := by decide +kernel
theorem dX3_bring_38 : decode cX3_bring 38 = .ok (.bipush (-11), 2) := by decide +kernel
theorem dX3_bring_40 : decode cX3_bring 40 = .ok (.ireturn, 1) := by decide +kernel
theorem dX3_bring_41 : decode cX3_bring 41 = .ok (.aload_n 0, 1) := by decide +kernel
theorem dX3_bring_42 : decode cX3_bring 42 = .ok (.getfield 20, 3) := by decide +kernel
theorem dX3_bring_45 : decode cX3_bring 45 = .ok (.iload_n 1, 1) := by decide +kernel
theorem dX3_bring_46 : decode cX3_bring 46 = .ok (.iaload, 1) := by decide +kernel
theorem dX3_bring_47 : decode cX3_bring 47 = .ok (.aload_n 0, 1) := by decide +kernel
theorem dX3_bring_48 : decode cX3_bring 48 = .ok (.getfield 20, 3) := by decide +kernel
theorem dX3_bring_51 : decode cX3_bring 51 = .ok (.iload_n 3, 1) := by decide +kernel
theorem dX3_bring_52 : decode cX3_bring 52 = .ok (.iaload, 1) := by decide +kernel
theorem dX3_bring_53 : decode cX3_bring 53 = .ok (.if_icmp .eq 6, 3) := by decide +kernel
theorem dX3_bring_56 : decode cX3_bring 56 = .ok (.bipush (-12), 2) := by decide +kernel
theorem dX3_bring_58 : decode cX3_bring 58 = .ok (.ireturn, 1) := by decide +kernel
theorem dX3_bring_59 : decode cX3_bring 59 = .ok (.aload_n 0, 1) := by decide +kernel
theorem dX3_bring_60 : decode cX3_bring 60 = .ok (.iload_n 1, 1) := by decide +kernel
theorem dX3_bring_61 : decode cX3_bring 61 = .ok (.iload_n 2, 1) := by decide +kernel
theorem dX3_bring_62 : decode cX3_bring 62 = .ok (.iload 5, 2) := by decide +kernel
theorem dX3_bring_64 : decode cX3_bring 64 = .ok (.invokevirtual 43, 3) := by decide +kernel
theorem dX3_bring_67 : decode cX3_bring 67 = .ok (.ifCond .ne 15, 3) := by decide +kernel
theorem dX3_bring_70 : decode cX3_bring 70 = .ok (.aload_n 0, 1) := by decide +kernel
theorem dX3_bring_71 : decode cX3_bring 71 = .ok (.iload_n 3, 1) := by decide +kernel
theorem dX3_bring_72 : decode cX3_bring 72 = .ok (.iload 4, 2) := by decide +kernel
theorem dX3_bring_74 : decode cX3_bring 74 = .ok (.iload 5, 2) := by decide +kernel
theorem dX3_bring_76 : decode cX3_bring 76 = .ok (.invokevirtual 43, 3) := by decide +kernel
theorem dX3_bring_79 : decode cX3_bring 79 = .ok (.ifCond .eq 6, 3) := by decide +kernel
theorem dX3_bring_82 : decode cX3_bring 82 = .ok (.bipush (-13), 2) := by decide +kernel
theorem dX3_bring_84 : decode cX3_bring 84 = .ok (.ireturn, 1) := by decide +kernel
theorem dX3_bring_85 : decode cX3_bring 85 = .ok (.aload_n 0, 1) := by decide +kernel
theorem dX3_bring_86 : decode cX3_bring 86 = .ok (.getfield 11, 3) := by decide +kernel
theorem dX3_bring_89 : decode cX3_bring 89 = .ok (.iload_n 1, 1) := by decide +kernel
theorem dX3_bring_90 : decode cX3_bring 90 = .ok (.aaload, 1) := by decide +kernel
theorem dX3_bring_91 : decode cX3_bring 91 = .ok (.iload_n 2, 1) := by decide +kernel
theorem dX3_bring_92 : decode cX3_bring 92 = .ok (.aload_n 0, 1) := by decide +kernel
theorem dX3_bring_93 : decode cX3_bring 93 = .ok (.getfield 11, 3) := by decide +kernel
theorem dX3_bring_96 : decode cX3_bring 96 = .ok (.iload_n 3, 1) := by decide +kernel
theorem dX3_bring_97 : decode cX3_bring 97 = .ok (.aaload, 1) := by decide +kernel
theorem dX3_bring_98 : decode cX3_bring 98 = .ok (.iload 4, 2) := by decide +kernel
theorem dX3_bring_100 : decode cX3_bring 100 = .ok (.iload 5, 2) := by decide +kernel
theorem dX3_bring_102 : decode cX3_bring 102 = .ok (.invokestatic 47, 3) := by decide +kernel
theorem dX3_bring_105 : decode cX3_bring 105 = .ok (.iload 5, 2) := by decide +kernel
theorem dX3_bring_107 : decode cX3_bring 107 = .ok (.ireturn, 1) := by decide +kernel
theorem dX3_isBeyond_0 : decode cX3_isBeyond 0 = .ok (.iload_n 2, 1) := by decide +kernel
theorem dX3_isBeyond_1 : decode cX3_isBeyond 1 = .ok (.ifCond .lt 29, 3) := by decide +kernel
theorem dX3_isBeyond_4 : decode cX3_isBeyond 4 = .ok (.iload_n 3, 1) := by decide +kernel
theorem dX3_isBeyond_5 : decode cX3_isBeyond 5 = .ok (.ifCond .lt 25, 3) := by decide +kernel
theorem dX3_isBeyond_8 : decode cX3_isBeyond 8 = .ok (.iload_n 2, 1) := by decide +kernel
theorem dX3_isBeyond_9 : decode cX3_isBeyond 9 = .ok (.aload_n 0, 1) := by decide +kernel
theorem dX3_isBeyond_10 : decode cX3_isBeyond 10 = .ok (.getfield 16, 3) := by decide +kernel
theorem dX3_isBeyond_13 : decode cX3_isBeyond 13 = .ok (.iload_n 1, 1) := by decide +kernel
theorem dX3_isBeyond_14 : decode cX3_isBeyond 14 = .ok (.iaload, 1) := by decide +kernel
theorem dX3_isBeyond_15 : decode cX3_isBeyond 15 = .ok (.if_icmp .gt 15, 3) := by decide +kernel
theorem dX3_isBeyond_18 : decode cX3_isBeyond 18 = .ok (.iload_n 3, 1) := by decide +kernel
theorem dX3_isBeyond_19 : decode cX3_isBeyond 19 = .ok (.aload_n 0, 1) := by decide +kernel
theorem dX3_isBeyond_20 : decode cX3_isBeyond 20 = .ok (.getfield 16, 3) := by decide +kernel
theorem dX3_isBeyond_23 : decode cX3_isBeyond 23 = .ok (.iload_n 1, 1) := by decide +kernel
theorem dX3_isBeyond_24 : decode cX3_isBeyond 24 = .ok (.iaload, 1) := by decide +kernel
theorem dX3_isBeyond_25 : decode cX3_isBeyond 25 = .ok (.iload_n 2, 1) := by decide +kernel
theorem dX3_isBeyond_26 : decode cX3_isBeyond 26 = .ok (.isub, 1) := by decide +kernel
theorem dX3_isBeyond_27 : decode cX3_isBeyond 27 = .ok (.if_icmp .le 7, 3) := by decide +kernel
theorem dX3_isBeyond_30 : decode cX3_isBeyond 30 = .ok (.iconst 1, 1) := by decide +kernel
theorem dX3_isBeyond_31 : decode cX3_isBeyond 31 = .ok (.goto 4, 3) := by decide +kernel
theorem dX3_isBeyond_34 : decode cX3_isBeyond 34 = .ok (.iconst 0, 1) := by decide +kernel
theorem dX3_isBeyond_35 : decode cX3_isBeyond 35 = .ok (.ireturn, 1) := by decide +kernel
theorem dX4_init_0 : decode cX4_init 0 = .ok (.aload_n 0, 1) := by decide +kernel
theorem dX4_init_1 : decode cX4_init 1 = .ok (.invokespecial 3, 3) := by decide +kernel
theorem dX4_init_4 : decode cX4_init 4 = .ok (.aload_n 0, 1) := by decide +kernel
theorem dX4_init_5 : decode cX4_init 5 = .ok (.bipush 24, 2) := by decide +kernel
theorem dX4_init_7 : decode cX4_init 7 = .ok (.bipush 41, 2) := by decide +kernel
theorem dX4_init_9 : decode cX4_init 9 = .ok (.multianewarray 9 2, 4) := by decide +kernel
theorem dX4_init_13 : decode cX4_init 13 = .ok (.putfield 11, 3) := by decide +kernel
theorem dX4_init_16 : decode cX4_init 16 = .ok (.aload_n 0, 1) := by decide +kernel
theorem dX4_init_17 : decode cX4_init 17 = .ok (.bipush 24, 2) := by decide +kernel
theorem dX4_init_19 : decode cX4_init 19 = .ok (.newarray .int, 2) := by decide +kernel
theorem dX4_init_21 : decode cX4_init 21 = .ok (.putfield 16, 3) := by decide +kernel
theorem dX4_init_24 : decode cX4_init 24 = .ok (.aload_n 0, 1) := by decide +kernel
theorem dX4_init_25 : decode cX4_init 25 = .ok (.iconst 0, 1) := by decide +kernel
theorem dX4_init_26 : decode cX4_init 26 = .ok (.putfield 20, 3) := by decide +kernel
theorem dX4_init_29 : decode cX4_init 29 = .ok (.return_, 1) := by decide +kernel
theorem dX4_has_0 : decode cX4_has 0 = .ok (.iload_n 1, 1) := by decide +kernel
theorem dX4_has_1 : decode cX4_has 1 = .ok (.ifCond .lt 15, 3) := by decide +kernel
theorem dX4_has_4 : decode cX4_has 4 = .ok (.iload_n 1, 1) := by decide +kernel
theorem dX4_has_5 : decode cX4_has 5 = .ok (.aload_n 0, 1) := by decide +kernel
theorem dX4_has_6 : decode cX4_has 6 = .ok (.getfield 20, 3) := by decide +kernel
theorem dX4_has_9 : decode cX4_has 9 = .ok (.if_icmp .ge 7, 3) := by decide +kernel
theorem dX4_has_12 : decode cX4_has 12 = .ok (.iconst 1, 1) := by decide +kernel
theorem dX4_has_13 : decode cX4_has 13 = .ok (.goto 4, 3) := by decide +kernel
theorem dX4_has_16 : decode cX4_has 16 = .ok (.iconst 0, 1) := by decide +kernel
theorem dX4_has_17 : decode cX4_has 17 = .ok (.ireturn, 1) := by decide +kernel
theorem dX4_isFull_0 : decode cX4_isFull 0 = .ok (.aload_n 0, 1) := by decide +kernel
theorem dX4_isFull_1 : decode cX4_isFull 1 = .ok (.getfield 20, 3) := by decide +kernel
theorem dX4_isFull_4 : decode cX4_isFull 4 = .ok (.bipush 24, 2) := by decide +kernel
theorem dX4_isFull_6 : decode cX4_isFull 6 = .ok (.if_icmp .lt 7, 3) := by decide +kernel
theorem dX4_isFull_9 : decode cX4_isFull 9 = .ok (.iconst 1, 1) := by decide +kernel
theorem dX4_isFull_10 : decode cX4_isFull 10 = .ok (.goto 4, 3) := by decide +kernel
theorem dX4_isFull_13 : decode cX4_isFull 13 = .ok (.iconst 0, 1) := by decide +kernel
theorem dX4_isFull_14 : decode cX4_isFull 14 = .ok (.ireturn, 1) := by decide +kernel
theorem dX4_row_0 : decode cX4_row 0 = .ok (.aload_n 0, 1) := by decide +kernel
theorem dX4_row_1 : decode cX4_row 1 = .ok (.getfield 11, 3) := by decide +kernel
theorem dX4_row_4 : decode cX4_row 4 = .ok (.iload_n 1, 1) := by decide +kernel
theorem dX4_row_5 : decode cX4_row 5 = .ok (.aaload, 1) := by decide +kernel
theorem dX4_row_6 : decode cX4_row 6 = .ok (.areturn, 1) := by decide +kernel
theorem dX4_nextRow_0 : decode cX4_nextRow 0 = .ok (.aload_n 0, 1) := by decide +kernel
theorem dX4_nextRow_1 : decode cX4_nextRow 1 = .ok (.getfield 11, 3) := by decide +kernel
theorem dX4_nextRow_4 : decode cX4_nextRow 4 = .ok (.aload_n 0, 1) := by decide +kernel
theorem dX4_nextRow_5 : decode cX4_nextRow 5 = .ok (.getfield 20, 3) := by decide +kernel
theorem dX4_nextRow_8 : decode cX4_nextRow 8 = .ok (.aaload, 1) := by decide +kernel
theorem dX4_nextRow_9 : decode cX4_nextRow 9 = .ok (.areturn, 1) := by decide +kernel
theorem dX4_keepNext_0 : decode cX4_keepNext 0 = .ok (.aload_n 0, 1) := by decide +kernel
theorem dX4_keepNext_1 : decode cX4_keepNext 1 = .ok (.getfield 16, 3) := by decide +kernel
theorem dX4_keepNext_4 : decode cX4_keepNext 4 = .ok (.aload_n 0, 1) := by decide +kernel
theorem dX4_keepNext_5 : decode cX4_keepNext 5 = .ok (.getfield 20, 3) := by decide +kernel
theorem dX4_keepNext_8 : decode cX4_keepNext 8 = .ok (.iload_n 1, 1) := by decide +kernel
theorem dX4_keepNext_9 : decode cX4_keepNext 9 = .ok (.iastore, 1) := by decide +kernel
theorem dX4_keepNext_10 : decode cX4_keepNext 10 = .ok (.aload_n 0, 1) := by decide +kernel
theorem dX4_keepNext_11 : decode cX4_keepNext 11 = .ok (.dup, 1) := by decide +kernel
theorem dX4_keepNext_12 : decode cX4_keepNext 12 = .ok (.getfield 20, 3) := by decide +kernel
theorem dX4_keepNext_15 : decode cX4_keepNext 15 = .ok (.iconst 1, 1) := by decide +kernel
theorem dX4_keepNext_16 : decode cX4_keepNext 16 = .ok (.iadd, 1) := by decide +kernel
theorem dX4_keepNext_17 : decode cX4_keepNext 17 = .ok (.putfield 20, 3) := by decide +kernel
theorem dX4_keepNext_20 : decode cX4_keepNext 20 = .ok (.aload_n 0, 1) := by decide +kernel
theorem dX4_keepNext_21 : decode cX4_keepNext 21 = .ok (.getfield 20, 3) := by decide +kernel
theorem dX4_keepNext_24 : decode cX4_keepNext 24 = .ok (.iconst 1, 1) := by decide +kernel
theorem dX4_keepNext_25 : decode cX4_keepNext 25 = .ok (.isub, 1) := by decide +kernel
theorem dX4_keepNext_26 : decode cX4_keepNext 26 = .ok (.ireturn, 1) := by decide +kernel
theorem dX5_init_0 : decode cX5_init 0 = .ok (.aload_n 0, 1) := by decide +kernel
theorem dX5_init_1 : decode cX5_init 1 = .ok (.invokespecial 3, 3) := by decide +kernel
theorem dX5_init_4 : decode cX5_init 4 = .ok (.aload_n 0, 1) := by decide +kernel
theorem dX5_init_5 : decode cX5_init 5 = .ok (.bipush 60, 2) := by decide +kernel
theorem dX5_init_7 : decode cX5_init 7 = .ok (.newarray .int, 2) := by decide +kernel
theorem dX5_init_9 : decode cX5_init 9 = .ok (.putfield 9, 3) := by decide +kernel
theorem dX5_init_12 : decode cX5_init 12 = .ok (.aload_n 0, 1) := by decide +kernel
theorem dX5_init_13 : decode cX5_init 13 = .ok (.bipush 41, 2) := by decide +kernel
theorem dX5_init_15 : decode cX5_init 15 = .ok (.newarray .int, 2) := by decide +kernel
theorem dX5_init_17 : decode cX5_init 17 = .ok (.putfield 15, 3) := by decide +kernel
theorem dX5_init_20 : decode cX5_init 20 = .ok (.aload_n 0, 1) := by decide +kernel
theorem dX5_init_21 : decode cX5_init 21 = .ok (.bipush 41, 2) := by decide +kernel
theorem dX5_init_23 : decode cX5_init 23 = .ok (.newarray .int, 2) := by decide +kernel
theorem dX5_init_25 : decode cX5_init 25 = .ok (.putfield 18, 3) := by decide +kernel
theorem dX5_init_28 : decode cX5_init 28 = .ok (.aload_n 0, 1) := by decide +kernel
theorem dX5_init_29 : decode cX5_init 29 = .ok (.iconst 0, 1) := by decide +kernel
theorem dX5_init_30 : decode cX5_init 30 = .ok (.putfield 21, 3) := by decide +kernel
theorem dX5_init_33 : decode cX5_init 33 = .ok (.aload_n 0, 1) := by decide +kernel
theorem dX5_init_34 : decode cX5_init 34 = .ok (.iconst 0, 1) := by decide +kernel
theorem dX5_init_35 : decode cX5_init 35 = .ok (.putfield 25, 3) := by decide +kernel
theorem dX5_init_38 : decode cX5_init 38 = .ok (.aload_n 0, 1) := by decide +kernel
theorem dX5_init_39 : decode cX5_init 39 = .ok (.iconst 0, 1) := by decide +kernel
theorem dX5_init_40 : decode cX5_init 40 = .ok (.putfield 28, 3) := by decide +kernel
theorem dX5_init_43 : decode cX5_init 43 = .ok (.aload_n 0, 1) := by decide +kernel
theorem dX5_init_44 : decode cX5_init 44 = .ok (.iconst 0, 1) := by decide +kernel
theorem dX5_init_45 : decode cX5_init 45 = .ok (.putfield 31, 3) := by decide +kernel
theorem dX5_init_48 : decode cX5_init 48 = .ok (.aload_n 0, 1) := by decide +kernel
theorem dX5_init_49 : decode cX5_init 49 = .ok (.iconst (-1), 1) := by decide +kernel
theorem dX5_init_50 : decode cX5_init 50 = .ok (.putfield 34, 3) := by decide +kernel
theorem dX5_init_53 : decode cX5_init 53 = .ok (.return_, 1) := by decide +kernel
theorem dX5_read_0 : decode cX5_read 0 = .ok (.aload_n 1, 1) := by decide +kernel
theorem dX5_read_1 : decode cX5_read 1 = .ok (.iconst 0, 1) := by decide +kernel
theorem dX5_read_2 : decode cX5_read 2 = .ok (.aload_n 0, 1) := by decide +kernel
theorem dX5_read_3 : decode cX5_read 3 = .ok (.getfield 9, 3) := by decide +kernel
theorem dX5_read_6 : decode cX5_read 6 = .ok (.iconst 0, 1) := by decide +kernel
theorem dX5_read_7 : decode cX5_read 7 = .ok (.iload_n 2, 1) := by decide +kernel
theorem dX5_read_8 : decode cX5_read 8 = .ok (.invokestatic 37, 3) := by decide +kernel
theorem dX5_read_11 : decode cX5_read 11 = .ok (.aload_n 0, 1) := by decide +kernel
theorem dX5_read_12 : decode cX5_read 12 = .ok (.iload_n 2, 1) := by decide +kernel
theorem dX5_read_13 : decode cX5_read 13 = .ok (.putfield 25, 3) := by decide +kernel
theorem dX5_read_16 : decode cX5_read 16 = .ok (.aload_n 0, 1) := by decide +kernel
theorem dX5_read_17 : decode cX5_read 17 = .ok (.iconst 0, 1) := by decide +kernel
theorem dX5_read_18 : decode cX5_read 18 = .ok (.putfield 28, 3) := by decide +kernel
theorem dX5_read_21 : decode cX5_read 21 = .ok (.aload_n 0, 1) := by decide +kernel
theorem dX5_read_22 : decode cX5_read 22 = .ok (.iconst 0, 1) := by decide +kernel
theorem dX5_read_23 : decode cX5_read 23 = .ok (.putfield 31, 3) := by decide +kernel
theorem dX5_read_26 : decode cX5_read 26 = .ok (.aload_n 0, 1) := by decide +kernel
theorem dX5_read_27 : decode cX5_read 27 = .ok (.iconst (-1), 1) := by decide +kernel
theorem dX5_read_28 : decode cX5_read 28 = .ok (.putfield 34, 3) := by decide +kernel
theorem dX5_read_31 : decode cX5_read 31 = .ok (.aload_n 0, 1) := by decide +kernel
theorem dX5_read_32 : decode cX5_read 32 = .ok (.invokevirtual 43, 3) := by decide +kernel
theorem dX5_read_35 : decode cX5_read 35 = .ok (.aload_n 0, 1) := by decide +kernel
theorem dX5_read_36 : decode cX5_read 36 = .ok (.getfield 15, 3) := by decide +kernel
theorem dX5_read_39 : decode cX5_read 39 = .ok (.aload_n 0, 1) := by decide +kernel
theorem dX5_read_40 : decode cX5_read 40 = .ok (.getfield 18, 3) := by decide +kernel
theorem dX5_read_43 : decode cX5_read 43 = .ok (.invokestatic 46, 3) := by decide +kernel
theorem dX5_read_46 : decode cX5_read 46 = .ok (.iconst 1, 1) := by decide +kernel
theorem dX5_read_47 : decode cX5_read 47 = .ok (.istore_n 3, 1) := by decide +kernel
theorem dX5_read_48 : decode cX5_read 48 = .ok (.iload_n 3, 1) := by decide +kernel
theorem dX5_read_49 : decode cX5_read 49 = .ok (.bipush 6, 2) := by decide +kernel
theorem dX5_read_51 : decode cX5_read 51 = .ok (.if_icmp .ge 28, 3) := by decide +kernel
theorem dX5_read_54 : decode cX5_read 54 = .ok (.aload_n 0, 1) := by decide +kernel
theorem dX5_read_55 : decode cX5_read 55 = .ok (.invokevirtual 52, 3) := by decide +kernel
theorem dX5_read_58 : decode cX5_read 58 = .ok (.ifCond .eq 21, 3) := by decide +kernel
theorem dX5_read_61 : decode cX5_read 61 = .ok (.aload_n 0, 1) := by decide +kernel
theorem dX5_read_62 : decode cX5_read 62 = .ok (.invokevirtual 56, 3) := by decide +kernel
theorem dX5_read_65 : decode cX5_read 65 = .ok (.aload_n 0, 1) := by decide +kernel
theorem dX5_read_66 : decode cX5_read 66 = .ok (.invokevirtual 43, 3) := by decide +kernel
theorem dX5_read_69 : decode cX5_read 69 = .ok (.aload_n 0, 1) := by decide +kernel
theorem dX5_read_70 : decode cX5_read 70 = .ok (.invokevirtual 59, 3) := by decide +kernel
theorem dX5_read_73 : decode cX5_read 73 = .ok (.iinc 3 1, 3) := by decide +kernel
theorem dX5_read_76 : decode cX5_read 76 = .ok (.goto (-28), 3) := by decide +kernel
theorem dX5_read_79 : decode cX5_read 79 = .ok (.aload_n 0, 1) := by decide +kernel
theorem dX5_read_80 : decode cX5_read 80 = .ok (.invokevirtual 52, 3) := by decide +kernel
theorem dX5_read_83 : decode cX5_read 83 = .ok (.ifCond .eq 11, 3) := by decide +kernel
theorem dX5_read_86 : decode cX5_read 86 = .ok (.aload_n 0, 1) := by decide +kernel
theorem dX5_read_87 : decode cX5_read 87 = .ok (.aload_n 0, 1) := by decide +kernel
theorem dX5_read_88 : decode cX5_read 88 = .ok (.getfield 28, 3) := by decide +kernel
theorem dX5_read_91 : decode cX5_read 91 = .ok (.putfield 34, 3) := by decide +kernel
theorem dX5_read_94 : decode cX5_read 94 = .ok (.aload_n 0, 1) := by decide +kernel
theorem dX5_read_95 : decode cX5_read 95 = .ok (.getfield 34, 3) := by decide +kernel
theorem dX5_read_98 : decode cX5_read 98 = .ok (.ireturn, 1) := by decide +kernel
theorem dX5_goesOn_0 : decode cX5_goesOn 0 = .ok (.aload_n 0, 1) := by decide +kernel
theorem dX5_goesOn_1 : decode cX5_goesOn 1 = .ok (.getfield 34, 3) := by decide +kernel
theorem dX5_goesOn_4 : decode cX5_goesOn 4 = .ok (.iconst (-1), 1) := by decide +kernel
theorem dX5_goesOn_5 : decode cX5_goesOn 5 = .ok (.if_icmp .ne 18, 3) := by decide +kernel
theorem dX5_goesOn_8 : decode cX5_goesOn 8 = .ok (.aload_n 0, 1) := by decide +kernel
theorem dX5_goesOn_9 : decode cX5_goesOn 9 = .ok (.getfield 28, 3) := by decide +kernel
theorem dX5_goesOn_12 : decode cX5_goesOn 12 = .ok (.aload_n 0, 1) := by decide +kernel
theorem dX5_goesOn_13 : decode cX5_goesOn 13 = .ok (.getfield 25, 3) := by decide +kernel
theorem dX5_goesOn_16 : decode cX5_goesOn 16 = .ok (.if_icmp .ge 7, 3) := by decide +kernel
theorem dX5_goesOn_19 : decode cX5_goesOn 19 = .ok (.iconst 1, 1) := by decide +kernel
theorem dX5_goesOn_20 : decode cX5_goesOn 20 = .ok (.goto 4, 3) := by decide +kernel
theorem dX5_goesOn_23 : decode cX5_goesOn 23 = .ok (.iconst 0, 1) := by decide +kernel
theorem dX5_goesOn_24 : decode cX5_goesOn 24 = .ok (.ireturn, 1) := by decide +kernel
theorem dX5_readSign_0 : decode cX5_readSign 0 = .ok (.aload_n 0, 1) := by decide +kernel
theorem dX5_readSign_1 : decode cX5_readSign 1 = .ok (.invokevirtual 62, 3) := by decide +kernel
theorem dX5_readSign_4 : decode cX5_readSign 4 = .ok (.istore_n 1, 1) := by decide +kernel
theorem dX5_readSign_5 : decode cX5_readSign 5 = .ok (.iload_n 1, 1) := by decide +kernel
theorem dX5_readSign_6 : decode cX5_readSign 6 = .ok (.bipush 38, 2) := by decide +kernel
theorem dX5_readSign_8 : decode cX5_readSign 8 = .ok (.if_icmp .eq 9, 3) := by decide +kernel
theorem dX5_readSign_11 : decode cX5_readSign 11 = .ok (.iload_n 1, 1) := by decide +kernel
theorem dX5_readSign_12 : decode cX5_readSign 12 = .ok (.bipush 43, 2) := by decide +kernel
theorem dX5_readSign_14 : decode cX5_readSign 14 = .ok (.if_icmp .ne 7, 3) := by decide +kernel
theorem dX5_readSign_17 : decode cX5_readSign 17 = .ok (.iconst 1, 1) := by decide +kernel
theorem dX5_readSign_18 : decode cX5_readSign 18 = .ok (.goto 4, 3) := by decide +kernel
theorem dX5_readSign_21 : decode cX5_readSign 21 = .ok (.iconst 0, 1) := by decide +kernel
theorem dX5_readSign_22 : decode cX5_readSign 22 = .ok (.istore_n 2, 1) := by decide +kernel
theorem dX5_readSign_23 : decode cX5_readSign 23 = .ok (.iload_n 2, 1) := by decide +kernel
theorem dX5_readSign_24 : decode cX5_readSign 24 = .ok (.ifCond .eq 36, 3) := by decide +kernel
theorem dX5_readSign_27 : decode cX5_readSign 27 = .ok (.aload_n 0, 1) := by decide +kernel
theorem dX5_readSign_28 : decode cX5_readSign 28 = .ok (.getfield 31, 3) := by decide +kernel
theorem dX5_readSign_31 : decode cX5_readSign 31 = .ok (.ifCond .eq 11, 3) := by decide +kernel
theorem dX5_readSign_34 : decode cX5_readSign 34 = .ok (.aload_n 0, 1) := by decide +kernel
theorem dX5_readSign_35 : decode cX5_readSign 35 = .ok (.getfield 31, 3) := by decide +kernel
theorem dX5_readSign_38 : decode cX5_readSign 38 = .ok (.iload_n 1, 1) := by decide +kernel
theorem dX5_readSign_39 : decode cX5_readSign 39 = .ok (.if_icmp .ne 21, 3) := by decide +kernel
theorem dX5_readSign_42 : decode cX5_readSign 42 = .ok (.aload_n 0, 1) := by decide +kernel
theorem dX5_readSign_43 : decode cX5_readSign 43 = .ok (.iload_n 1, 1) := by decide +kernel
theorem dX5_readSign_44 : decode cX5_readSign 44 = .ok (.putfield 31, 3) := by decide +kernel
theorem dX5_readSign_47 : decode cX5_readSign 47 = .ok (.aload_n 0, 1) := by decide +kernel
theorem dX5_readSign_48 : decode cX5_readSign 48 = .ok (.dup, 1) := by decide +kernel
theorem dX5_readSign_49 : decode cX5_readSign 49 = .ok (.getfield 28, 3) := by decide +kernel
theorem dX5_readSign_52 : decode cX5_readSign 52 = .ok (.iconst 1, 1) := by decide +kernel
theorem dX5_readSign_53 : decode cX5_readSign 53 = .ok (.iadd, 1) := by decide +kernel
theorem dX5_readSign_54 : decode cX5_readSign 54 = .ok (.putfield 28, 3) := by decide +kernel
theorem dX5_readSign_57 : decode cX5_readSign 57 = .ok (.goto 11, 3) := by decide +kernel
theorem dX5_readSign_60 : decode cX5_readSign 60 = .ok (.aload_n 0, 1) := by decide +kernel
theorem dX5_readSign_61 : decode cX5_readSign 61 = .ok (.aload_n 0, 1) := by decide +kernel
theorem dX5_readSign_62 : decode cX5_readSign 62 = .ok (.getfield 28, 3) := by decide +kernel
theorem dX5_readSign_65 : decode cX5_readSign 65 = .ok (.putfield 34, 3) := by decide +kernel
theorem dX5_readSign_68 : decode cX5_readSign 68 = .ok (.return_, 1) := by decide +kernel
theorem dX5_readItem_0 : decode cX5_readItem 0 = .ok (.aload_n 0, 1) := by decide +kernel
theorem dX5_readItem_1 : decode cX5_readItem 1 = .ok (.getfield 34, 3) := by decide +kernel
theorem dX5_readItem_4 : decode cX5_readItem 4 = .ok (.iconst (-1), 1) := by decide +kernel
theorem dX5_readItem_5 : decode cX5_readItem 5 = .ok (.if_icmp .eq 4, 3) := by decide +kernel
theorem dX5_readItem_8 : decode cX5_readItem 8 = .ok (.return_, 1) := by decide +kernel
theorem dX5_readItem_9 : decode cX5_readItem 9 = .ok (.aload_n 0, 1) := by decide +kernel
theorem dX5_readItem_10 : decode cX5_readItem 10 = .ok (.invokevirtual 62, 3) := by decide +kernel
theorem dX5_readItem_13 : decode cX5_readItem 13 = .ok (.istore_n 1, 1) := by decide +kernel
theorem dX5_readItem_14 : decode cX5_readItem 14 = .ok (.iload_n 1, 1) := by decide +kernel
theorem dX5_readItem_15 : decode cX5_readItem 15 = .ok (.bipush 98, 2) := by decide +kernel
theorem dX5_readItem_17 : decode cX5_readItem 17 = .ok (.if_icmp .ne 41, 3) := by decide +kernel
theorem dX5_readItem_20 : decode cX5_readItem 20 = .ok (.aload_n 0, 1) := by decide +kernel
theorem dX5_readItem_21 : decode cX5_readItem 21 = .ok (.dup, 1) := by decide +kernel
theorem dX5_readItem_22 : decode cX5_readItem 22 = .ok (.getfield 28, 3) := by decide +kernel
theorem dX5_readItem_25 : decode cX5_readItem 25 = .ok (.iconst 1, 1) := by decide +kernel
theorem dX5_readItem_26 : decode cX5_readItem 26 = .ok (.iadd, 1) := by decide +kernel
theorem dX5_readItem_27 : decode cX5_readItem 27 = .ok (.putfield 28, 3) := by decide +kernel
theorem dX5_readItem_30 : decode cX5_readItem 30 = .ok (.aload_n 0, 1) := by decide +kernel
theorem dX5_readItem_31 : decode cX5_readItem 31 = .ok (.sipush 9999, 3) := by decide +kernel
theorem dX5_readItem_34 : decode cX5_readItem 34 = .ok (.invokevirtual 66, 3) := by decide +kernel
theorem dX5_readItem_37 : decode cX5_readItem 37 = .ok (.istore_n 2, 1) := by decide +kernel
theorem dX5_readItem_38 : decode cX5_readItem 38 = .ok (.iload_n 2, 1) := by decide +kernel
theorem dX5_readItem_39 : decode cX5_readItem 39 = .ok (.aload_n 0, 1) := by decide +kernel
theorem dX5_readItem_40 : decode cX5_readItem 40 = .ok (.invokevirtual 70, 3) := by decide +kernel
theorem dX5_readItem_43 : decode cX5_readItem 43 = .ok (.aload_n 0, 1) := by decide +kernel
theorem dX5_readItem_44 : decode cX5_readItem 44 = .ok (.getfield 15, 3) := by decide +kernel
theorem dX5_readItem_47 : decode cX5_readItem 47 = .ok (.invokestatic 73, 3) := by decide +kernel
theorem dX5_readItem_50 : decode cX5_readItem 50 = .ok (.aload_n 0, 1) := by decide +kernel
theorem dX5_readItem_51 : decode cX5_readItem 51 = .ok (.iconst 1, 1) := by decide +kernel
theorem dX5_readItem_52 : decode cX5_readItem 52 = .ok (.putfield 21, 3) := by decide +kernel
theorem dX5_readItem_55 : decode cX5_readItem 55 = .ok (.goto 63, 3) := by decide +kernel
theorem dX5_readItem_58 : decode cX5_readItem 58 = .ok (.iload_n 1, 1) := by decide +kernel
theorem dX5_readItem_59 : decode cX5_readItem 59 = .ok (.bipush 108, 2) := by decide +kernel
theorem dX5_readItem_61 : decode cX5_readItem 61 = .ok (.if_icmp .ne 40, 3) := by decide +kernel
theorem dX5_readItem_64 : decode cX5_readItem 64 = .ok (.aload_n 0, 1) := by decide +kernel
theorem dX5_readItem_65 : decode cX5_readItem 65 = .ok (.dup, 1) := by decide +kernel
theorem dX5_readItem_66 : decode cX5_readItem 66 = .ok (.getfield 28, 3) := by decide +kernel
theorem dX5_readItem_69 : decode cX5_readItem 69 = .ok (.iconst 1, 1) := by decide +kernel
theorem dX5_readItem_70 : decode cX5_readItem 70 = .ok (.iadd, 1) := by decide +kernel
theorem dX5_readItem_71 : decode cX5_readItem 71 = .ok (.putfield 28, 3) := by decide +kernel
theorem dX5_readItem_74 : decode cX5_readItem 74 = .ok (.aload_n 0, 1) := by decide +kernel
theorem dX5_readItem_75 : decode cX5_readItem 75 = .ok (.bipush 40, 2) := by decide +kernel
theorem dX5_readItem_77 : decode cX5_readItem 77 = .ok (.invokevirtual 66, 3) := by decide +kernel
theorem dX5_readItem_80 : decode cX5_readItem 80 = .ok (.istore_n 2, 1) := by decide +kernel
theorem dX5_readItem_81 : decode cX5_readItem 81 = .ok (.iload_n 2, 1) := by decide +kernel
theorem dX5_readItem_82 : decode cX5_readItem 82 = .ok (.aload_n 0, 1) := by decide +kernel
theorem dX5_readItem_83 : decode cX5_readItem 83 = .ok (.invokevirtual 70, 3) := by decide +kernel
theorem dX5_readItem_86 : decode cX5_readItem 86 = .ok (.aload_n 0, 1) := by decide +kernel
theorem dX5_readItem_87 : decode cX5_readItem 87 = .ok (.getfield 15, 3) := by decide +kernel
theorem dX5_readItem_90 : decode cX5_readItem 90 = .ok (.invokestatic 77, 3) := by decide +kernel
theorem dX5_readItem_93 : decode cX5_readItem 93 = .ok (.aload_n 0, 1) := by decide +kernel
theorem dX5_readItem_94 : decode cX5_readItem 94 = .ok (.iconst 2, 1) := by decide +kernel
theorem dX5_readItem_95 : decode cX5_readItem 95 = .ok (.putfield 21, 3) := by decide +kernel
theorem dX5_readItem_98 : decode cX5_readItem 98 = .ok (.goto 20, 3) := by decide +kernel
theorem dX5_readItem_101 : decode cX5_readItem 101 = .ok (.iconst 0, 1) := by decide +kernel
theorem dX5_readItem_102 : decode cX5_readItem 102 = .ok (.aload_n 0, 1) := by decide +kernel
theorem dX5_readItem_103 : decode cX5_readItem 103 = .ok (.invokevirtual 70, 3) := by decide +kernel
theorem dX5_readItem_106 : decode cX5_readItem 106 = .ok (.aload_n 0, 1) := by decide +kernel
theorem dX5_readItem_107 : decode cX5_readItem 107 = .ok (.getfield 15, 3) := by decide +kernel
theorem dX5_readItem_110 : decode cX5_readItem 110 = .ok (.invokestatic 77, 3) := by decide +kernel
theorem dX5_readItem_113 : decode cX5_readItem 113 = .ok (.aload_n 0, 1) := by decide +kernel
theorem dX5_readItem_114 : decode cX5_readItem 114 = .ok (.iconst 0, 1) := by decide +kernel
theorem dX5_readItem_115 : decode cX5_readItem 115 = .ok (.putfield 21, 3) := by decide +kernel
theorem dX5_readItem_118 : decode cX5_readItem 118 = .ok (.return_, 1) := by decide +kernel
theorem dX5_joinItem_0 : decode cX5_joinItem 0 = .ok (.aload_n 0, 1) := by decide +kernel
theorem dX5_joinItem_1 : decode cX5_joinItem 1 = .ok (.getfield 34, 3) := by decide +kernel
theorem dX5_joinItem_4 : decode cX5_joinItem 4 = .ok (.iconst (-1), 1) := by decide +kernel
theorem dX5_joinItem_5 : decode cX5_joinItem 5 = .ok (.if_icmp .eq 4, 3) := by decide +kernel
theorem dX5_joinItem_8 : decode cX5_joinItem 8 = .ok (.return_, 1) := by decide +kernel
theorem dX5_joinItem_9 : decode cX5_joinItem 9 = .ok (.aload_n 0, 1) := by decide +kernel
theorem dX5_joinItem_10 : decode cX5_joinItem 10 = .ok (.getfield 31, 3) := by decide +kernel
theorem dX5_joinItem_13 : decode cX5_joinItem 13 = .ok (.bipush 38, 2) := by decide +kernel
theorem dX5_joinItem_15 : decode cX5_joinItem 15 = .ok (.if_icmp .ne 21, 3) := by decide +kernel
theorem dX5_joinItem_18 : decode cX5_joinItem 18 = .ok (.aload_n 0, 1) := by decide +kernel
theorem dX5_joinItem_19 : decode cX5_joinItem 19 = .ok (.getfield 18, 3) := by decide +kernel
theorem dX5_joinItem_22 : decode cX5_joinItem 22 = .ok (.aload_n 0, 1) := by decide +kernel
theorem dX5_joinItem_23 : decode cX5_joinItem 23 = .ok (.getfield 15, 3) := by decide +kernel
theorem dX5_joinItem_26 : decode cX5_joinItem 26 = .ok (.aload_n 0, 1) := by decide +kernel
theorem dX5_joinItem_27 : decode cX5_joinItem 27 = .ok (.getfield 18, 3) := by decide +kernel
theorem dX5_joinItem_30 : decode cX5_joinItem 30 = .ok (.invokestatic 80, 3) := by decide +kernel
theorem dX5_joinItem_33 : decode cX5_joinItem 33 = .ok (.goto 18, 3) := by decide +kernel
theorem dX5_joinItem_36 : decode cX5_joinItem 36 = .ok (.aload_n 0, 1) := by decide +kernel
theorem dX5_joinItem_37 : decode cX5_joinItem 37 = .ok (.getfield 18, 3) := by decide +kernel
theorem dX5_joinItem_40 : decode cX5_joinItem 40 = .ok (.aload_n 0, 1) := by decide +kernel
theorem dX5_joinItem_41 : decode cX5_joinItem 41 = .ok (.getfield 15, 3) := by decide +kernel
theorem dX5_joinItem_44 : decode cX5_joinItem 44 = .ok (.aload_n 0, 1) := by decide +kernel
theorem dX5_joinItem_45 : decode cX5_joinItem 45 = .ok (.getfield 18, 3) := by decide +kernel
theorem dX5_joinItem_48 : decode cX5_joinItem 48 = .ok (.invokestatic 84, 3) := by decide +kernel
theorem dX5_joinItem_51 : decode cX5_joinItem 51 = .ok (.aload_n 0, 1) := by decide +kernel
theorem dX5_joinItem_52 : decode cX5_joinItem 52 = .ok (.iconst 0, 1) := by decide +kernel
theorem dX5_joinItem_53 : decode cX5_joinItem 53 = .ok (.putfield 21, 3) := by decide +kernel
theorem dX5_joinItem_56 : decode cX5_joinItem 56 = .ok (.return_, 1) := by decide +kernel
theorem dX5_readPace_0 : decode cX5_readPace 0 = .ok (.aload_n 0, 1) := by decide +kernel
theorem dX5_readPace_1 : decode cX5_readPace 1 = .ok (.getfield 34, 3) := by decide +kernel
theorem dX5_readPace_4 : decode cX5_readPace 4 = .ok (.iconst (-1), 1) := by decide +kernel
theorem dX5_readPace_5 : decode cX5_readPace 5 = .ok (.if_icmp .eq 5, 3) := by decide +kernel
theorem dX5_readPace_8 : decode cX5_readPace 8 = .ok (.iconst 0, 1) := by decide +kernel
theorem dX5_readPace_9 : decode cX5_readPace 9 = .ok (.ireturn, 1) := by decide +kernel
theorem dX5_readPace_10 : decode cX5_readPace 10 = .ok (.aload_n 0, 1) := by decide +kernel
theorem dX5_readPace_11 : decode cX5_readPace 11 = .ok (.invokevirtual 62, 3) := by decide +kernel
theorem dX5_readPace_14 : decode cX5_readPace 14 = .ok (.bipush 114, 2) := by decide +kernel
theorem dX5_readPace_16 : decode cX5_readPace 16 = .ok (.if_icmp .eq 13, 3) := by decide +kernel
theorem dX5_readPace_19 : decode cX5_readPace 19 = .ok (.aload_n 0, 1) := by decide +kernel
theorem dX5_readPace_20 : decode cX5_readPace 20 = .ok (.aload_n 0, 1) := by decide +kernel
theorem dX5_readPace_21 : decode cX5_readPace 21 = .ok (.getfield 28, 3) := by decide +kernel
theorem dX5_readPace_24 : decode cX5_readPace 24 = .ok (.putfield 34, 3) := by decide +kernel
theorem dX5_readPace_27 : decode cX5_readPace 27 = .ok (.iconst 0, 1) := by decide +kernel
theorem dX5_readPace_28 : decode cX5_readPace 28 = .ok (.ireturn, 1) := by decide +kernel
theorem dX5_readPace_29 : decode cX5_readPace 29 = .ok (.aload_n 0, 1) := by decide +kernel
theorem dX5_readPace_30 : decode cX5_readPace 30 = .ok (.dup, 1) := by decide +kernel
theorem dX5_readPace_31 : decode cX5_readPace 31 = .ok (.getfield 28, 3) := by decide +kernel
theorem dX5_readPace_34 : decode cX5_readPace 34 = .ok (.iconst 1, 1) := by decide +kernel
theorem dX5_readPace_35 : decode cX5_readPace 35 = .ok (.iadd, 1) := by decide +kernel
theorem dX5_readPace_36 : decode cX5_readPace 36 = .ok (.putfield 28, 3) := by decide +kernel
theorem dX5_readPace_39 : decode cX5_readPace 39 = .ok (.aload_n 0, 1) := by decide +kernel
theorem dX5_readPace_40 : decode cX5_readPace 40 = .ok (.sipush 999, 3) := by decide +kernel
theorem dX5_readPace_43 : decode cX5_readPace 43 = .ok (.invokevirtual 66, 3) := by decide +kernel
theorem dX5_readPace_46 : decode cX5_readPace 46 = .ok (.ireturn, 1) := by decide +kernel
theorem dX5_readNumber_0 : decode cX5_readNumber 0 = .ok (.aload_n 0, 1) := by decide +kernel
theorem dX5_readNumber_1 : decode cX5_readNumber 1 = .ok (.getfield 28, 3) := by decide +kernel
theorem dX5_readNumber_4 : decode cX5_readNumber 4 = .ok (.istore_n 2, 1) := by decide +kernel
theorem dX5_readNumber_5 : decode cX5_readNumber 5 = .ok (.iconst 0, 1) := by decide +kernel
theorem dX5_readNumber_6 : decode cX5_readNumber 6 = .ok (.istore_n 3, 1) := by decide +kernel
theorem dX5_readNumber_7 : decode cX5_readNumber 7 = .ok (.iconst 0, 1) := by decide +kernel
theorem dX5_readNumber_8 : decode cX5_readNumber 8 = .ok (.istore 4, 2) := by decide +kernel
theorem dX5_readNumber_10 : decode cX5_readNumber 10 = .ok (.iload 4, 2) := by decide +kernel
theorem dX5_readNumber_12 : decode cX5_readNumber 12 = .ok (.iconst 4, 1) := by decide +kernel
theorem dX5_readNumber_13 : decode cX5_readNumber 13 = .ok (.if_icmp .ge 42, 3) := by decide +kernel
theorem dX5_readNumber_16 : decode cX5_readNumber 16 = .ok (.aload_n 0, 1) := by decide +kernel
theorem dX5_readNumber_17 : decode cX5_readNumber 17 = .ok (.invokevirtual 62, 3) := by decide +kernel
theorem dX5_readNumber_20 : decode cX5_readNumber 20 = .ok (.invokestatic 87, 3) := by decide +kernel
theorem dX5_readNumber_23 : decode cX5_readNumber 23 = .ok (.ifCond .eq 32, 3) := by decide +kernel
theorem dX5_readNumber_26 : decode cX5_readNumber 26 = .ok (.bipush 10, 2) := by decide +kernel
theorem dX5_readNumber_28 : decode cX5_readNumber 28 = .ok (.iload_n 3, 1) := by decide +kernel
theorem dX5_readNumber_29 : decode cX5_readNumber 29 = .ok (.imul, 1) := by decide +kernel
theorem dX5_readNumber_30 : decode cX5_readNumber 30 = .ok (.aload_n 0, 1) := by decide +kernel
theorem dX5_readNumber_31 : decode cX5_readNumber 31 = .ok (.invokevirtual 62, 3) := by decide +kernel
theorem dX5_readNumber_34 : decode cX5_readNumber 34 = .ok (.iadd, 1) := by decide +kernel
theorem dX5_readNumber_35 : decode cX5_readNumber 35 = .ok (.bipush 48, 2) := by decide +kernel
theorem dX5_readNumber_37 : decode cX5_readNumber 37 = .ok (.isub, 1) := by decide +kernel
theorem dX5_readNumber_38 : decode cX5_readNumber 38 = .ok (.istore_n 3, 1) := by decide +kernel
theorem dX5_readNumber_39 : decode cX5_readNumber 39 = .ok (.aload_n 0, 1) := by decide +kernel
theorem dX5_readNumber_40 : decode cX5_readNumber 40 = .ok (.dup, 1) := by decide +kernel
theorem dX5_readNumber_41 : decode cX5_readNumber 41 = .ok (.getfield 28, 3) := by decide +kernel
theorem dX5_readNumber_44 : decode cX5_readNumber 44 = .ok (.iconst 1, 1) := by decide +kernel
theorem dX5_readNumber_45 : decode cX5_readNumber 45 = .ok (.iadd, 1) := by decide +kernel
theorem dX5_readNumber_46 : decode cX5_readNumber 46 = .ok (.putfield 28, 3) := by decide +kernel
theorem dX5_readNumber_49 : decode cX5_readNumber 49 = .ok (.iinc 4 1, 3) := by decide +kernel
theorem dX5_readNumber_52 : decode cX5_readNumber 52 = .ok (.goto (-42), 3) := by decide +kernel
theorem dX5_readNumber_55 : decode cX5_readNumber 55 = .ok (.aload_n 0, 1) := by decide +kernel
theorem dX5_readNumber_56 : decode cX5_readNumber 56 = .ok (.getfield 28, 3) := by decide +kernel
theorem dX5_readNumber_59 : decode cX5_readNumber 59 = .ok (.iload_n 2, 1) := by decide +kernel
theorem dX5_readNumber_60 : decode cX5_readNumber 60 = .ok (.if_icmp .eq 8, 3) := by decide +kernel
theorem dX5_readNumber_63 : decode cX5_readNumber 63 = .ok (.iload_n 3, 1) := by decide +kernel
theorem dX5_readNumber_64 : decode cX5_readNumber 64 = .ok (.iload_n 1, 1) := by decide +kernel
theorem dX5_readNumber_65 : decode cX5_readNumber 65 = .ok (.if_icmp .le 8, 3) := by decide +kernel
theorem dX5_readNumber_68 : decode cX5_readNumber 68 = .ok (.aload_n 0, 1) := by decide +kernel
theorem dX5_readNumber_69 : decode cX5_readNumber 69 = .ok (.iload_n 2, 1) := by decide +kernel
theorem dX5_readNumber_70 : decode cX5_readNumber 70 = .ok (.putfield 34, 3) := by decide +kernel
theorem dX5_readNumber_73 : decode cX5_readNumber 73 = .ok (.iload_n 3, 1) := by decide +kernel
theorem dX5_readNumber_74 : decode cX5_readNumber 74 = .ok (.ireturn, 1) := by decide +kernel
theorem dX5_codeHere_0 : decode cX5_codeHere 0 = .ok (.aload_n 0, 1) := by decide +kernel
theorem dX5_codeHere_1 : decode cX5_codeHere 1 = .ok (.getfield 28, 3) := by decide +kernel
theorem dX5_codeHere_4 : decode cX5_codeHere 4 = .ok (.aload_n 0, 1) := by decide +kernel
theorem dX5_codeHere_5 : decode cX5_codeHere 5 = .ok (.getfield 25, 3) := by decide +kernel
theorem dX5_codeHere_8 : decode cX5_codeHere 8 = .ok (.if_icmp .ge 15, 3) := by decide +kernel
theorem dX5_codeHere_11 : decode cX5_codeHere 11 = .ok (.aload_n 0, 1) := by decide +kernel
theorem dX5_codeHere_12 : decode cX5_codeHere 12 = .ok (.getfield 9, 3) := by decide +kernel
theorem dX5_codeHere_15 : decode cX5_codeHere 15 = .ok (.aload_n 0, 1) := by decide +kernel
theorem dX5_codeHere_16 : decode cX5_codeHere 16 = .ok (.getfield 28, 3) := by decide +kernel
theorem dX5_codeHere_19 : decode cX5_codeHere 19 = .ok (.iaload, 1) := by decide +kernel
theorem dX5_codeHere_20 : decode cX5_codeHere 20 = .ok (.goto 4, 3) := by decide +kernel
theorem dX5_codeHere_23 : decode cX5_codeHere 23 = .ok (.iconst 0, 1) := by decide +kernel
theorem dX5_codeHere_24 : decode cX5_codeHere 24 = .ok (.ireturn, 1) := by decide +kernel
theorem dX5_isDigit_0 : decode cX5_isDigit 0 = .ok (.iload_n 0, 1) := by decide +kernel
theorem dX5_isDigit_1 : decode cX5_isDigit 1 = .ok (.bipush 48, 2) := by decide +kernel
theorem dX5_isDigit_3 : decode cX5_isDigit 3 = .ok (.if_icmp .lt 13, 3) := by decide +kernel
theorem dX5_isDigit_6 : decode cX5_isDigit 6 = .ok (.iload_n 0, 1) := by decide +kernel
theorem dX5_isDigit_7 : decode cX5_isDigit 7 = .ok (.bipush 57, 2) := by decide +kernel
theorem dX5_isDigit_9 : decode cX5_isDigit 9 = .ok (.if_icmp .gt 7, 3) := by decide +kernel
theorem dX5_isDigit_12 : decode cX5_isDigit 12 = .ok (.iconst 1, 1) := by decide +kernel
theorem dX5_isDigit_13 : decode cX5_isDigit 13 = .ok (.goto 4, 3) := by decide +kernel
theorem dX5_isDigit_16 : decode cX5_isDigit 16 = .ok (.iconst 0, 1) := by decide +kernel
theorem dX5_isDigit_17 : decode cX5_isDigit 17 = .ok (.ireturn, 1) := by decide +kernel
theorem dJ7_fill_53178_0 : decode cJ7_fill_53178 0 = .ok (.iconst 0, 1) := by decide +kernel
theorem dJ7_fill_53178_1 : decode cJ7_fill_53178 1 = .ok (.istore_n 2, 1) := by decide +kernel
theorem dJ7_fill_53178_2 : decode cJ7_fill_53178 2 = .ok (.aload_n 0, 1) := by decide +kernel
theorem dJ7_fill_53178_3 : decode cJ7_fill_53178 3 = .ok (.arraylength, 1) := by decide +kernel
theorem dJ7_fill_53178_4 : decode cJ7_fill_53178 4 = .ok (.istore_n 3, 1) := by decide +kernel
theorem dJ7_fill_53178_5 : decode cJ7_fill_53178 5 = .ok (.iload_n 2, 1) := by decide +kernel
theorem dJ7_fill_53178_6 : decode cJ7_fill_53178 6 = .ok (.iload_n 3, 1) := by decide +kernel
theorem dJ7_fill_53178_7 : decode cJ7_fill_53178 7 = .ok (.if_icmp .ge 13, 3) := by decide +kernel
theorem dJ7_fill_53178_10 : decode cJ7_fill_53178 10 = .ok (.aload_n 0, 1) := by decide +kernel
theorem dJ7_fill_53178_11 : decode cJ7_fill_53178 11 = .ok (.iload_n 2, 1) := by decide +kernel
theorem dJ7_fill_53178_12 : decode cJ7_fill_53178 12 = .ok (.iload_n 1, 1) := by decide +kernel
theorem dJ7_fill_53178_13 : decode cJ7_fill_53178 13 = .ok (.iastore, 1) := by decide +kernel
theorem dJ7_fill_53178_14 : decode cJ7_fill_53178 14 = .ok (.iinc 2 1, 3) := by decide +kernel
theorem dJ7_fill_53178_17 : decode cJ7_fill_53178 17 = .ok (.goto (-12), 3) := by decide +kernel
theorem dJ7_fill_53178_20 : decode cJ7_fill_53178 20 = .ok (.return_, 1) := by decide +kernel
