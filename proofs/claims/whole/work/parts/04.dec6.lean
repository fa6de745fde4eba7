theorem dX6_init_0 : decode cX6_init 0 = .ok (.aload_n 0, 1) := by decide +kernel
theorem dX6_init_1 : decode cX6_init 1 = .ok (.invokespecial 3, 3) := by decide +kernel
theorem dX6_init_4 : decode cX6_init 4 = .ok (.aload_n 0, 1) := by decide +kernel
theorem dX6_init_5 : decode cX6_init 5 = .ok (.new 9, 3) := by decide +kernel
theorem dX6_init_8 : decode cX6_init 8 = .ok (.dup, 1) := by decide +kernel
theorem dX6_init_9 : decode cX6_init 9 = .ok (.invokespecial 11, 3) := by decide +kernel
theorem dX6_init_12 : decode cX6_init 12 = .ok (.putfield 12, 3) := by decide +kernel
theorem dX6_init_15 : decode cX6_init 15 = .ok (.aload_n 0, 1) := by decide +kernel
theorem dX6_init_16 : decode cX6_init 16 = .ok (.new 18, 3) := by decide +kernel
theorem dX6_init_19 : decode cX6_init 19 = .ok (.dup, 1) := by decide +kernel
theorem dX6_init_20 : decode cX6_init 20 = .ok (.invokespecial 20, 3) := by decide +kernel
theorem dX6_init_23 : decode cX6_init 23 = .ok (.putfield 21, 3) := by decide +kernel
theorem dX6_init_26 : decode cX6_init 26 = .ok (.aload_n 0, 1) := by decide +kernel
theorem dX6_init_27 : decode cX6_init 27 = .ok (.new 25, 3) := by decide +kernel
theorem dX6_init_30 : decode cX6_init 30 = .ok (.dup, 1) := by decide +kernel
theorem dX6_init_31 : decode cX6_init 31 = .ok (.invokespecial 27, 3) := by decide +kernel
theorem dX6_init_34 : decode cX6_init 34 = .ok (.putfield 28, 3) := by decide +kernel
theorem dX6_init_37 : decode cX6_init 37 = .ok (.aload_n 0, 1) := by decide +kernel
theorem dX6_init_38 : decode cX6_init 38 = .ok (.new 32, 3) := by decide +kernel
theorem dX6_init_41 : decode cX6_init 41 = .ok (.dup, 1) := by decide +kernel
theorem dX6_init_42 : decode cX6_init 42 = .ok (.invokespecial 34, 3) := by decide +kernel
theorem dX6_init_45 : decode cX6_init 45 = .ok (.putfield 35, 3) := by decide +kernel
theorem dX6_init_48 : decode cX6_init 48 = .ok (.aload_n 0, 1) := by decide +kernel
theorem dX6_init_49 : decode cX6_init 49 = .ok (.new 39, 3) := by decide +kernel
theorem dX6_init_52 : decode cX6_init 52 = .ok (.dup, 1) := by decide +kernel
theorem dX6_init_53 : decode cX6_init 53 = .ok (.invokespecial 41, 3) := by decide +kernel
theorem dX6_init_56 : decode cX6_init 56 = .ok (.putfield 42, 3) := by decide +kernel
theorem dX6_init_59 : decode cX6_init 59 = .ok (.aload_n 0, 1) := by decide +kernel
theorem dX6_init_60 : decode cX6_init 60 = .ok (.bipush 60, 2) := by decide +kernel
theorem dX6_init_62 : decode cX6_init 62 = .ok (.newarray .int, 2) := by decide +kernel
theorem dX6_init_64 : decode cX6_init 64 = .ok (.putfield 46, 3) := by decide +kernel
theorem dX6_init_67 : decode cX6_init 67 = .ok (.aload_n 0, 1) := by decide +kernel
theorem dX6_init_68 : decode cX6_init 68 = .ok (.bipush 41, 2) := by decide +kernel
theorem dX6_init_70 : decode cX6_init 70 = .ok (.newarray .int, 2) := by decide +kernel
theorem dX6_init_72 : decode cX6_init 72 = .ok (.putfield 50, 3) := by decide +kernel
theorem dX6_init_75 : decode cX6_init 75 = .ok (.aload_n 0, 1) := by decide +kernel
theorem dX6_init_76 : decode cX6_init 76 = .ok (.iconst 0, 1) := by decide +kernel
theorem dX6_init_77 : decode cX6_init 77 = .ok (.putfield 53, 3) := by decide +kernel
theorem dX6_init_80 : decode cX6_init 80 = .ok (.aload_n 0, 1) := by decide +kernel
theorem dX6_init_81 : decode cX6_init 81 = .ok (.iconst 0, 1) := by decide +kernel
theorem dX6_init_82 : decode cX6_init 82 = .ok (.putfield 57, 3) := by decide +kernel
theorem dX6_init_85 : decode cX6_init 85 = .ok (.return_, 1) := by decide +kernel
theorem dX6_steps_0 : decode cX6_steps 0 = .ok (.aload_n 0, 1) := by decide +kernel
theorem dX6_steps_1 : decode cX6_steps 1 = .ok (.aload_n 0, 1) := by decide +kernel
theorem dX6_steps_2 : decode cX6_steps 2 = .ok (.iload_n 1, 1) := by decide +kernel
theorem dX6_steps_3 : decode cX6_steps 3 = .ok (.iload_n 2, 1) := by decide +kernel
theorem dX6_steps_4 : decode cX6_steps 4 = .ok (.iload_n 3, 1) := by decide +kernel
theorem dX6_steps_5 : decode cX6_steps 5 = .ok (.iload 4, 2) := by decide +kernel
theorem dX6_steps_7 : decode cX6_steps 7 = .ok (.invokevirtual 60, 3) := by decide +kernel
theorem dX6_steps_10 : decode cX6_steps 10 = .ok (.invokevirtual 64, 3) := by decide +kernel
theorem dX6_steps_13 : decode cX6_steps 13 = .ok (.ireturn, 1) := by decide +kernel
theorem dX6_bucket_0 : decode cX6_bucket 0 = .ok (.iload_n 1, 1) := by decide +kernel
theorem dX6_bucket_1 : decode cX6_bucket 1 = .ok (.sipush 9999, 3) := by decide +kernel
theorem dX6_bucket_4 : decode cX6_bucket 4 = .ok (.invokestatic 68, 3) := by decide +kernel
theorem dX6_bucket_7 : decode cX6_bucket 7 = .ok (.ifCond .eq 13, 3) := by decide +kernel
theorem dX6_bucket_10 : decode cX6_bucket 10 = .ok (.iload_n 2, 1) := by decide +kernel
theorem dX6_bucket_11 : decode cX6_bucket 11 = .ok (.sipush 999, 3) := by decide +kernel
theorem dX6_bucket_14 : decode cX6_bucket 14 = .ok (.invokestatic 68, 3) := by decide +kernel
theorem dX6_bucket_17 : decode cX6_bucket 17 = .ok (.ifCond .ne 6, 3) := by decide +kernel
theorem dX6_bucket_20 : decode cX6_bucket 20 = .ok (.bipush (-2), 2) := by decide +kernel
theorem dX6_bucket_22 : decode cX6_bucket 22 = .ok (.ireturn, 1) := by decide +kernel
theorem dX6_bucket_23 : decode cX6_bucket 23 = .ok (.aload_n 0, 1) := by decide +kernel
theorem dX6_bucket_24 : decode cX6_bucket 24 = .ok (.getfield 12, 3) := by decide +kernel
theorem dX6_bucket_27 : decode cX6_bucket 27 = .ok (.invokevirtual 72, 3) := by decide +kernel
theorem dX6_bucket_30 : decode cX6_bucket 30 = .ok (.ifCond .eq 6, 3) := by decide +kernel
theorem dX6_bucket_33 : decode cX6_bucket 33 = .ok (.bipush (-4), 2) := by decide +kernel
theorem dX6_bucket_35 : decode cX6_bucket 35 = .ok (.ireturn, 1) := by decide +kernel
theorem dX6_bucket_36 : decode cX6_bucket 36 = .ok (.iload_n 1, 1) := by decide +kernel
theorem dX6_bucket_37 : decode cX6_bucket 37 = .ok (.iload_n 2, 1) := by decide +kernel
theorem dX6_bucket_38 : decode cX6_bucket 38 = .ok (.aload_n 0, 1) := by decide +kernel
theorem dX6_bucket_39 : decode cX6_bucket 39 = .ok (.getfield 12, 3) := by decide +kernel
theorem dX6_bucket_42 : decode cX6_bucket 42 = .ok (.invokevirtual 76, 3) := by decide +kernel
theorem dX6_bucket_45 : decode cX6_bucket 45 = .ok (.invokestatic 80, 3) := by decide +kernel
theorem dX6_bucket_48 : decode cX6_bucket 48 = .ok (.aload_n 0, 1) := by decide +kernel
theorem dX6_bucket_49 : decode cX6_bucket 49 = .ok (.getfield 12, 3) := by decide +kernel
theorem dX6_bucket_52 : decode cX6_bucket 52 = .ok (.iconst 1, 1) := by decide +kernel
theorem dX6_bucket_53 : decode cX6_bucket 53 = .ok (.invokevirtual 86, 3) := by decide +kernel
theorem dX6_bucket_56 : decode cX6_bucket 56 = .ok (.ireturn, 1) := by decide +kernel
theorem dX6_late_0 : decode cX6_late 0 = .ok (.iload_n 1, 1) := by decide +kernel
theorem dX6_late_1 : decode cX6_late 1 = .ok (.bipush 40, 2) := by decide +kernel
theorem dX6_late_3 : decode cX6_late 3 = .ok (.invokestatic 68, 3) := by decide +kernel
theorem dX6_late_6 : decode cX6_late 6 = .ok (.ifCond .eq 13, 3) := by decide +kernel
theorem dX6_late_9 : decode cX6_late 9 = .ok (.iload_n 2, 1) := by decide +kernel
theorem dX6_late_10 : decode cX6_late 10 = .ok (.sipush 999, 3) := by decide +kernel
theorem dX6_late_13 : decode cX6_late 13 = .ok (.invokestatic 68, 3) := by decide +kernel
theorem dX6_late_16 : decode cX6_late 16 = .ok (.ifCond .ne 6, 3) := by decide +kernel
theorem dX6_late_19 : decode cX6_late 19 = .ok (.bipush (-2), 2) := by decide +kernel
theorem dX6_late_21 : decode cX6_late 21 = .ok (.ireturn, 1) := by decide +kernel
theorem dX6_late_22 : decode cX6_late 22 = .ok (.aload_n 0, 1) := by decide +kernel
theorem dX6_late_23 : decode cX6_late 23 = .ok (.getfield 12, 3) := by decide +kernel
theorem dX6_late_26 : decode cX6_late 26 = .ok (.invokevirtual 72, 3) := by decide +kernel
theorem dX6_late_29 : decode cX6_late 29 = .ok (.ifCond .eq 6, 3) := by decide +kernel
theorem dX6_late_32 : decode cX6_late 32 = .ok (.bipush (-4), 2) := by decide +kernel
theorem dX6_late_34 : decode cX6_late 34 = .ok (.ireturn, 1) := by decide +kernel
theorem dX6_late_35 : decode cX6_late 35 = .ok (.iload_n 1, 1) := by decide +kernel
theorem dX6_late_36 : decode cX6_late 36 = .ok (.iload_n 2, 1) := by decide +kernel
theorem dX6_late_37 : decode cX6_late 37 = .ok (.aload_n 0, 1) := by decide +kernel
theorem dX6_late_38 : decode cX6_late 38 = .ok (.getfield 12, 3) := by decide +kernel
theorem dX6_late_41 : decode cX6_late 41 = .ok (.invokevirtual 76, 3) := by decide +kernel
theorem dX6_late_44 : decode cX6_late 44 = .ok (.invokestatic 89, 3) := by decide +kernel
theorem dX6_late_47 : decode cX6_late 47 = .ok (.aload_n 0, 1) := by decide +kernel
theorem dX6_late_48 : decode cX6_late 48 = .ok (.getfield 12, 3) := by decide +kernel
theorem dX6_late_51 : decode cX6_late 51 = .ok (.iconst 2, 1) := by decide +kernel
theorem dX6_late_52 : decode cX6_late 52 = .ok (.invokevirtual 86, 3) := by decide +kernel
theorem dX6_late_55 : decode cX6_late 55 = .ok (.ireturn, 1) := by decide +kernel
theorem dX6_text_0 : decode cX6_text 0 = .ok (.aload_n 0, 1) := by decide +kernel
theorem dX6_text_1 : decode cX6_text 1 = .ok (.aload_n 0, 1) := by decide +kernel
theorem dX6_text_2 : decode cX6_text 2 = .ok (.iload_n 1, 1) := by decide +kernel
theorem dX6_text_3 : decode cX6_text 3 = .ok (.iload_n 2, 1) := by decide +kernel
theorem dX6_text_4 : decode cX6_text 4 = .ok (.iload_n 3, 1) := by decide +kernel
theorem dX6_text_5 : decode cX6_text 5 = .ok (.iload 4, 2) := by decide +kernel
theorem dX6_text_7 : decode cX6_text 7 = .ok (.invokevirtual 92, 3) := by decide +kernel
theorem dX6_text_10 : decode cX6_text 10 = .ok (.invokevirtual 64, 3) := by decide +kernel
theorem dX6_text_13 : decode cX6_text 13 = .ok (.ireturn, 1) := by decide +kernel
theorem dX6_at_0 : decode cX6_at 0 = .ok (.aload_n 0, 1) := by decide +kernel
theorem dX6_at_1 : decode cX6_at 1 = .ok (.getfield 12, 3) := by decide +kernel
theorem dX6_at_4 : decode cX6_at 4 = .ok (.iload_n 1, 1) := by decide +kernel
theorem dX6_at_5 : decode cX6_at 5 = .ok (.invokevirtual 95, 3) := by decide +kernel
theorem dX6_at_8 : decode cX6_at 8 = .ok (.ifCond .ne 5, 3) := by decide +kernel
theorem dX6_at_11 : decode cX6_at 11 = .ok (.iconst (-1), 1) := by decide +kernel
theorem dX6_at_12 : decode cX6_at 12 = .ok (.ireturn, 1) := by decide +kernel
theorem dX6_at_13 : decode cX6_at 13 = .ok (.iload_n 2, 1) := by decide +kernel
theorem dX6_at_14 : decode cX6_at 14 = .ok (.bipush 40, 2) := by decide +kernel
theorem dX6_at_16 : decode cX6_at 16 = .ok (.invokestatic 68, 3) := by decide +kernel
theorem dX6_at_19 : decode cX6_at 19 = .ok (.ifCond .ne 6, 3) := by decide +kernel
theorem dX6_at_22 : decode cX6_at 22 = .ok (.bipush (-2), 2) := by decide +kernel
theorem dX6_at_24 : decode cX6_at 24 = .ok (.ireturn, 1) := by decide +kernel
theorem dX6_at_25 : decode cX6_at 25 = .ok (.aload_n 0, 1) := by decide +kernel
theorem dX6_at_26 : decode cX6_at 26 = .ok (.getfield 12, 3) := by decide +kernel
theorem dX6_at_29 : decode cX6_at 29 = .ok (.iload_n 1, 1) := by decide +kernel
theorem dX6_at_30 : decode cX6_at 30 = .ok (.invokevirtual 99, 3) := by decide +kernel
theorem dX6_at_33 : decode cX6_at 33 = .ok (.iload_n 2, 1) := by decide +kernel
theorem dX6_at_34 : decode cX6_at 34 = .ok (.iaload, 1) := by decide +kernel
theorem dX6_at_35 : decode cX6_at 35 = .ok (.ireturn, 1) := by decide +kernel
theorem dX6_stepsOf_0 : decode cX6_stepsOf 0 = .ok (.aload_n 0, 1) := by decide +kernel
theorem dX6_stepsOf_1 : decode cX6_stepsOf 1 = .ok (.getfield 35, 3) := by decide +kernel
theorem dX6_stepsOf_4 : decode cX6_stepsOf 4 = .ok (.iload_n 1, 1) := by decide +kernel
theorem dX6_stepsOf_5 : decode cX6_stepsOf 5 = .ok (.iload_n 2, 1) := by decide +kernel
theorem dX6_stepsOf_6 : decode cX6_stepsOf 6 = .ok (.iload_n 3, 1) := by decide +kernel
theorem dX6_stepsOf_7 : decode cX6_stepsOf 7 = .ok (.iload 4, 2) := by decide +kernel
theorem dX6_stepsOf_9 : decode cX6_stepsOf 9 = .ok (.aload_n 0, 1) := by decide +kernel
theorem dX6_stepsOf_10 : decode cX6_stepsOf 10 = .ok (.getfield 46, 3) := by decide +kernel
theorem dX6_stepsOf_13 : decode cX6_stepsOf 13 = .ok (.invokevirtual 103, 3) := by decide +kernel
theorem dX6_stepsOf_16 : decode cX6_stepsOf 16 = .ok (.istore 5, 2) := by decide +kernel
theorem dX6_stepsOf_18 : decode cX6_stepsOf 18 = .ok (.iload 5, 2) := by decide +kernel
theorem dX6_stepsOf_20 : decode cX6_stepsOf 20 = .ok (.ifCond .eq 6, 3) := by decide +kernel
theorem dX6_stepsOf_23 : decode cX6_stepsOf 23 = .ok (.iload 5, 2) := by decide +kernel
theorem dX6_stepsOf_25 : decode cX6_stepsOf 25 = .ok (.ireturn, 1) := by decide +kernel
theorem dX6_stepsOf_26 : decode cX6_stepsOf 26 = .ok (.aload_n 0, 1) := by decide +kernel
theorem dX6_stepsOf_27 : decode cX6_stepsOf 27 = .ok (.iload 4, 2) := by decide +kernel
theorem dX6_stepsOf_29 : decode cX6_stepsOf 29 = .ok (.invokevirtual 107, 3) := by decide +kernel
theorem dX6_stepsOf_32 : decode cX6_stepsOf 32 = .ok (.ifCond .ne 6, 3) := by decide +kernel
theorem dX6_stepsOf_35 : decode cX6_stepsOf 35 = .ok (.bipush (-2), 2) := by decide +kernel
theorem dX6_stepsOf_37 : decode cX6_stepsOf 37 = .ok (.ireturn, 1) := by decide +kernel
theorem dX6_stepsOf_38 : decode cX6_stepsOf 38 = .ok (.aload_n 0, 1) := by decide +kernel
theorem dX6_stepsOf_39 : decode cX6_stepsOf 39 = .ok (.getfield 12, 3) := by decide +kernel
theorem dX6_stepsOf_42 : decode cX6_stepsOf 42 = .ok (.invokevirtual 72, 3) := by decide +kernel
theorem dX6_stepsOf_45 : decode cX6_stepsOf 45 = .ok (.ifCond .eq 6, 3) := by decide +kernel
theorem dX6_stepsOf_48 : decode cX6_stepsOf 48 = .ok (.bipush (-4), 2) := by decide +kernel
theorem dX6_stepsOf_50 : decode cX6_stepsOf 50 = .ok (.ireturn, 1) := by decide +kernel
theorem dX6_stepsOf_51 : decode cX6_stepsOf 51 = .ok (.aload_n 0, 1) := by decide +kernel
theorem dX6_stepsOf_52 : decode cX6_stepsOf 52 = .ok (.getfield 46, 3) := by decide +kernel
theorem dX6_stepsOf_55 : decode cX6_stepsOf 55 = .ok (.iload 4, 2) := by decide +kernel
theorem dX6_stepsOf_57 : decode cX6_stepsOf 57 = .ok (.aload_n 0, 1) := by decide +kernel
theorem dX6_stepsOf_58 : decode cX6_stepsOf 58 = .ok (.getfield 12, 3) := by decide +kernel
theorem dX6_stepsOf_61 : decode cX6_stepsOf 61 = .ok (.invokevirtual 76, 3) := by decide +kernel
theorem dX6_stepsOf_64 : decode cX6_stepsOf 64 = .ok (.invokestatic 110, 3) := by decide +kernel
theorem dX6_stepsOf_67 : decode cX6_stepsOf 67 = .ok (.aload_n 0, 1) := by decide +kernel
theorem dX6_stepsOf_68 : decode cX6_stepsOf 68 = .ok (.getfield 12, 3) := by decide +kernel
theorem dX6_stepsOf_71 : decode cX6_stepsOf 71 = .ok (.iconst 0, 1) := by decide +kernel
theorem dX6_stepsOf_72 : decode cX6_stepsOf 72 = .ok (.invokevirtual 86, 3) := by decide +kernel
theorem dX6_stepsOf_75 : decode cX6_stepsOf 75 = .ok (.ireturn, 1) := by decide +kernel
theorem dX6_stairOfText_0 : decode cX6_stairOfText 0 = .ok (.aload_n 0, 1) := by decide +kernel
theorem dX6_stairOfText_1 : decode cX6_stairOfText 1 = .ok (.getfield 35, 3) := by decide +kernel
theorem dX6_stairOfText_4 : decode cX6_stairOfText 4 = .ok (.iload_n 1, 1) := by decide +kernel
theorem dX6_stairOfText_5 : decode cX6_stairOfText 5 = .ok (.iload_n 2, 1) := by decide +kernel
theorem dX6_stairOfText_6 : decode cX6_stairOfText 6 = .ok (.iload_n 3, 1) := by decide +kernel
theorem dX6_stairOfText_7 : decode cX6_stairOfText 7 = .ok (.iload 4, 2) := by decide +kernel
theorem dX6_stairOfText_9 : decode cX6_stairOfText 9 = .ok (.aload_n 0, 1) := by decide +kernel
theorem dX6_stairOfText_10 : decode cX6_stairOfText 10 = .ok (.getfield 46, 3) := by decide +kernel
theorem dX6_stairOfText_13 : decode cX6_stairOfText 13 = .ok (.invokevirtual 103, 3) := by decide +kernel
theorem dX6_stairOfText_16 : decode cX6_stairOfText 16 = .ok (.istore 5, 2) := by decide +kernel
theorem dX6_stairOfText_18 : decode cX6_stairOfText 18 = .ok (.iload 5, 2) := by decide +kernel
theorem dX6_stairOfText_20 : decode cX6_stairOfText 20 = .ok (.ifCond .eq 6, 3) := by decide +kernel
theorem dX6_stairOfText_23 : decode cX6_stairOfText 23 = .ok (.iload 5, 2) := by decide +kernel
theorem dX6_stairOfText_25 : decode cX6_stairOfText 25 = .ok (.ireturn, 1) := by decide +kernel
theorem dX6_stairOfText_26 : decode cX6_stairOfText 26 = .ok (.aload_n 0, 1) := by decide +kernel
theorem dX6_stairOfText_27 : decode cX6_stairOfText 27 = .ok (.getfield 42, 3) := by decide +kernel
theorem dX6_stairOfText_30 : decode cX6_stairOfText 30 = .ok (.aload_n 0, 1) := by decide +kernel
theorem dX6_stairOfText_31 : decode cX6_stairOfText 31 = .ok (.getfield 46, 3) := by decide +kernel
theorem dX6_stairOfText_34 : decode cX6_stairOfText 34 = .ok (.iload 4, 2) := by decide +kernel
theorem dX6_stairOfText_36 : decode cX6_stairOfText 36 = .ok (.invokevirtual 114, 3) := by decide +kernel
theorem dX6_stairOfText_39 : decode cX6_stairOfText 39 = .ok (.istore 6, 2) := by decide +kernel
theorem dX6_stairOfText_41 : decode cX6_stairOfText 41 = .ok (.iload 6, 2) := by decide +kernel
theorem dX6_stairOfText_43 : decode cX6_stairOfText 43 = .ok (.iconst (-1), 1) := by decide +kernel
theorem dX6_stairOfText_44 : decode cX6_stairOfText 44 = .ok (.if_icmp .eq 9, 3) := by decide +kernel
theorem dX6_stairOfText_47 : decode cX6_stairOfText 47 = .ok (.bipush (-100), 2) := by decide +kernel
theorem dX6_stairOfText_49 : decode cX6_stairOfText 49 = .ok (.iload 6, 2) := by decide +kernel
theorem dX6_stairOfText_51 : decode cX6_stairOfText 51 = .ok (.isub, 1) := by decide +kernel
theorem dX6_stairOfText_52 : decode cX6_stairOfText 52 = .ok (.ireturn, 1) := by decide +kernel
theorem dX6_stairOfText_53 : decode cX6_stairOfText 53 = .ok (.aload_n 0, 1) := by decide +kernel
theorem dX6_stairOfText_54 : decode cX6_stairOfText 54 = .ok (.getfield 12, 3) := by decide +kernel
theorem dX6_stairOfText_57 : decode cX6_stairOfText 57 = .ok (.invokevirtual 72, 3) := by decide +kernel
theorem dX6_stairOfText_60 : decode cX6_stairOfText 60 = .ok (.ifCond .eq 6, 3) := by decide +kernel
theorem dX6_stairOfText_63 : decode cX6_stairOfText 63 = .ok (.bipush (-4), 2) := by decide +kernel
theorem dX6_stairOfText_65 : decode cX6_stairOfText 65 = .ok (.ireturn, 1) := by decide +kernel
theorem dX6_stairOfText_66 : decode cX6_stairOfText 66 = .ok (.aload_n 0, 1) := by decide +kernel
theorem dX6_stairOfText_67 : decode cX6_stairOfText 67 = .ok (.getfield 42, 3) := by decide +kernel
theorem dX6_stairOfText_70 : decode cX6_stairOfText 70 = .ok (.getfield 118, 3) := by decide +kernel
theorem dX6_stairOfText_73 : decode cX6_stairOfText 73 = .ok (.aload_n 0, 1) := by decide +kernel
theorem dX6_stairOfText_74 : decode cX6_stairOfText 74 = .ok (.getfield 12, 3) := by decide +kernel
theorem dX6_stairOfText_77 : decode cX6_stairOfText 77 = .ok (.invokevirtual 76, 3) := by decide +kernel
theorem dX6_stairOfText_80 : decode cX6_stairOfText 80 = .ok (.invokestatic 121, 3) := by decide +kernel
theorem dX6_stairOfText_83 : decode cX6_stairOfText 83 = .ok (.aload_n 0, 1) := by decide +kernel
theorem dX6_stairOfText_84 : decode cX6_stairOfText 84 = .ok (.getfield 12, 3) := by decide +kernel
theorem dX6_stairOfText_87 : decode cX6_stairOfText 87 = .ok (.aload_n 0, 1) := by decide +kernel
theorem dX6_stairOfText_88 : decode cX6_stairOfText 88 = .ok (.getfield 42, 3) := by decide +kernel
theorem dX6_stairOfText_91 : decode cX6_stairOfText 91 = .ok (.getfield 125, 3) := by decide +kernel
theorem dX6_stairOfText_94 : decode cX6_stairOfText 94 = .ok (.invokevirtual 86, 3) := by decide +kernel
theorem dX6_stairOfText_97 : decode cX6_stairOfText 97 = .ok (.ireturn, 1) := by decide +kernel
theorem dX6_isRowOfSteps_0 : decode cX6_isRowOfSteps 0 = .ok (.iload_n 1, 1) := by decide +kernel
theorem dX6_isRowOfSteps_1 : decode cX6_isRowOfSteps 1 = .ok (.iconst 1, 1) := by decide +kernel
theorem dX6_isRowOfSteps_2 : decode cX6_isRowOfSteps 2 = .ok (.if_icmp .lt 9, 3) := by decide +kernel
theorem dX6_isRowOfSteps_5 : decode cX6_isRowOfSteps 5 = .ok (.iload_n 1, 1) := by decide +kernel
theorem dX6_isRowOfSteps_6 : decode cX6_isRowOfSteps 6 = .ok (.bipush 40, 2) := by decide +kernel
theorem dX6_isRowOfSteps_8 : decode cX6_isRowOfSteps 8 = .ok (.if_icmp .le 5, 3) := by decide +kernel
theorem dX6_isRowOfSteps_11 : decode cX6_isRowOfSteps 11 = .ok (.iconst 0, 1) := by decide +kernel
theorem dX6_isRowOfSteps_12 : decode cX6_isRowOfSteps 12 = .ok (.ireturn, 1) := by decide +kernel
theorem dX6_isRowOfSteps_13 : decode cX6_isRowOfSteps 13 = .ok (.iconst 0, 1) := by decide +kernel
theorem dX6_isRowOfSteps_14 : decode cX6_isRowOfSteps 14 = .ok (.istore_n 2, 1) := by decide +kernel
theorem dX6_isRowOfSteps_15 : decode cX6_isRowOfSteps 15 = .ok (.iload_n 2, 1) := by decide +kernel
theorem dX6_isRowOfSteps_16 : decode cX6_isRowOfSteps 16 = .ok (.iload_n 1, 1) := by decide +kernel
theorem dX6_isRowOfSteps_17 : decode cX6_isRowOfSteps 17 = .ok (.if_icmp .ge 26, 3) := by decide +kernel
theorem dX6_isRowOfSteps_20 : decode cX6_isRowOfSteps 20 = .ok (.aload_n 0, 1) := by decide +kernel
theorem dX6_isRowOfSteps_21 : decode cX6_isRowOfSteps 21 = .ok (.getfield 46, 3) := by decide +kernel
theorem dX6_isRowOfSteps_24 : decode cX6_isRowOfSteps 24 = .ok (.iload_n 2, 1) := by decide +kernel
theorem dX6_isRowOfSteps_25 : decode cX6_isRowOfSteps 25 = .ok (.iaload, 1) := by decide +kernel
theorem dX6_isRowOfSteps_26 : decode cX6_isRowOfSteps 26 = .ok (.sipush 999, 3) := by decide +kernel
theorem dX6_isRowOfSteps_29 : decode cX6_isRowOfSteps 29 = .ok (.invokestatic 68, 3) := by decide +kernel
theorem dX6_isRowOfSteps_32 : decode cX6_isRowOfSteps 32 = .ok (.ifCond .ne 5, 3) := by decide +kernel
theorem dX6_isRowOfSteps_35 : decode cX6_isRowOfSteps 35 = .ok (.iconst 0, 1) := by decide +kernel
theorem dX6_isRowOfSteps_36 : decode cX6_isRowOfSteps 36 = .ok (.ireturn, 1) := by decide +kernel
theorem dX6_isRowOfSteps_37 : decode cX6_isRowOfSteps 37 = .ok (.iinc 2 1, 3) := by decide +kernel
theorem dX6_isRowOfSteps_40 : decode cX6_isRowOfSteps 40 = .ok (.goto (-25), 3) := by decide +kernel
theorem dX6_isRowOfSteps_43 : decode cX6_isRowOfSteps 43 = .ok (.iconst 1, 1) := by decide +kernel
theorem dX6_isRowOfSteps_44 : decode cX6_isRowOfSteps 44 = .ok (.ireturn, 1) := by decide +kernel
theorem dX6_make_0 : decode cX6_make 0 = .ok (.aload_n 0, 1) := by decide +kernel
theorem dX6_make_1 : decode cX6_make 1 = .ok (.getfield 12, 3) := by decide +kernel
theorem dX6_make_4 : decode cX6_make 4 = .ok (.iload_n 2, 1) := by decide +kernel
theorem dX6_make_5 : decode cX6_make 5 = .ok (.invokevirtual 95, 3) := by decide +kernel
theorem dX6_make_8 : decode cX6_make 8 = .ok (.ifCond .eq 14, 3) := by decide +kernel
theorem dX6_make_11 : decode cX6_make 11 = .ok (.aload_n 0, 1) := by decide +kernel
theorem dX6_make_12 : decode cX6_make 12 = .ok (.getfield 12, 3) := by decide +kernel
theorem dX6_make_15 : decode cX6_make 15 = .ok (.iload_n 3, 1) := by decide +kernel
theorem dX6_make_16 : decode cX6_make 16 = .ok (.invokevirtual 95, 3) := by decide +kernel
theorem dX6_make_19 : decode cX6_make 19 = .ok (.ifCond .ne 5, 3) := by decide +kernel
theorem dX6_make_22 : decode cX6_make 22 = .ok (.iconst (-1), 1) := by decide +kernel
theorem dX6_make_23 : decode cX6_make 23 = .ok (.ireturn, 1) := by decide +kernel
theorem dX6_make_24 : decode cX6_make 24 = .ok (.iload_n 1, 1) := by decide +kernel
theorem dX6_make_25 : decode cX6_make 25 = .ok (.iconst 4, 1) := by decide +kernel
theorem dX6_make_26 : decode cX6_make 26 = .ok (.invokestatic 68, 3) := by decide +kernel
theorem dX6_make_29 : decode cX6_make 29 = .ok (.ifCond .ne 6, 3) := by decide +kernel
theorem dX6_make_32 : decode cX6_make 32 = .ok (.bipush (-2), 2) := by decide +kernel
theorem dX6_make_34 : decode cX6_make 34 = .ok (.ireturn, 1) := by decide +kernel
theorem dX6_make_35 : decode cX6_make 35 = .ok (.aload_n 0, 1) := by decide +kernel
theorem dX6_make_36 : decode cX6_make 36 = .ok (.getfield 12, 3) := by decide +kernel
theorem dX6_make_39 : decode cX6_make 39 = .ok (.invokevirtual 72, 3) := by decide +kernel
theorem dX6_make_42 : decode cX6_make 42 = .ok (.ifCond .eq 6, 3) := by decide +kernel
theorem dX6_make_45 : decode cX6_make 45 = .ok (.bipush (-4), 2) := by decide +kernel
theorem dX6_make_47 : decode cX6_make 47 = .ok (.ireturn, 1) := by decide +kernel
theorem dX6_make_48 : decode cX6_make 48 = .ok (.iload_n 1, 1) := by decide +kernel
theorem dX6_make_49 : decode cX6_make 49 = .ok (.aload_n 0, 1) := by decide +kernel
theorem dX6_make_50 : decode cX6_make 50 = .ok (.getfield 12, 3) := by decide +kernel
theorem dX6_make_53 : decode cX6_make 53 = .ok (.iload_n 2, 1) := by decide +kernel
theorem dX6_make_54 : decode cX6_make 54 = .ok (.invokevirtual 99, 3) := by decide +kernel
theorem dX6_make_57 : decode cX6_make 57 = .ok (.aload_n 0, 1) := by decide +kernel
theorem dX6_make_58 : decode cX6_make 58 = .ok (.getfield 12, 3) := by decide +kernel
theorem dX6_make_61 : decode cX6_make 61 = .ok (.iload_n 3, 1) := by decide +kernel
theorem dX6_make_62 : decode cX6_make 62 = .ok (.invokevirtual 99, 3) := by decide +kernel
theorem dX6_make_65 : decode cX6_make 65 = .ok (.aload_n 0, 1) := by decide +kernel
theorem dX6_make_66 : decode cX6_make 66 = .ok (.getfield 12, 3) := by decide +kernel
theorem dX6_make_69 : decode cX6_make 69 = .ok (.invokevirtual 76, 3) := by decide +kernel
theorem dX6_make_72 : decode cX6_make 72 = .ok (.invokestatic 128, 3) := by decide +kernel
theorem dX6_make_75 : decode cX6_make 75 = .ok (.aload_n 0, 1) := by decide +kernel
theorem dX6_make_76 : decode cX6_make 76 = .ok (.getfield 12, 3) := by decide +kernel
theorem dX6_make_79 : decode cX6_make 79 = .ok (.iconst 0, 1) := by decide +kernel
theorem dX6_make_80 : decode cX6_make 80 = .ok (.invokevirtual 86, 3) := by decide +kernel
theorem dX6_make_83 : decode cX6_make 83 = .ok (.ireturn, 1) := by decide +kernel
theorem dX6_move_0 : decode cX6_move 0 = .ok (.aload_n 0, 1) := by decide +kernel
theorem dX6_move_1 : decode cX6_move 1 = .ok (.getfield 12, 3) := by decide +kernel
theorem dX6_move_4 : decode cX6_move 4 = .ok (.iload_n 2, 1) := by decide +kernel
theorem dX6_move_5 : decode cX6_move 5 = .ok (.invokevirtual 95, 3) := by decide +kernel
theorem dX6_move_8 : decode cX6_move 8 = .ok (.ifCond .ne 5, 3) := by decide +kernel
theorem dX6_move_11 : decode cX6_move 11 = .ok (.iconst (-1), 1) := by decide +kernel
theorem dX6_move_12 : decode cX6_move 12 = .ok (.ireturn, 1) := by decide +kernel
theorem dX6_move_13 : decode cX6_move 13 = .ok (.iload_n 1, 1) := by decide +kernel
theorem dX6_move_14 : decode cX6_move 14 = .ok (.iconst 1, 1) := by decide +kernel
theorem dX6_move_15 : decode cX6_move 15 = .ok (.invokestatic 68, 3) := by decide +kernel
theorem dX6_move_18 : decode cX6_move 18 = .ok (.ifCond .eq 12, 3) := by decide +kernel
theorem dX6_move_21 : decode cX6_move 21 = .ok (.iload_n 3, 1) := by decide +kernel
theorem dX6_move_22 : decode cX6_move 22 = .ok (.bipush 40, 2) := by decide +kernel
theorem dX6_move_24 : decode cX6_move 24 = .ok (.invokestatic 68, 3) := by decide +kernel
theorem dX6_move_27 : decode cX6_move 27 = .ok (.ifCond .ne 6, 3) := by decide +kernel
theorem dX6_move_30 : decode cX6_move 30 = .ok (.bipush (-2), 2) := by decide +kernel
theorem dX6_move_32 : decode cX6_move 32 = .ok (.ireturn, 1) := by decide +kernel
theorem dX6_move_33 : decode cX6_move 33 = .ok (.aload_n 0, 1) := by decide +kernel
theorem dX6_move_34 : decode cX6_move 34 = .ok (.getfield 12, 3) := by decide +kernel
theorem dX6_move_37 : decode cX6_move 37 = .ok (.invokevirtual 72, 3) := by decide +kernel
theorem dX6_move_40 : decode cX6_move 40 = .ok (.ifCond .eq 6, 3) := by decide +kernel
theorem dX6_move_43 : decode cX6_move 43 = .ok (.bipush (-4), 2) := by decide +kernel
theorem dX6_move_45 : decode cX6_move 45 = .ok (.ireturn, 1) := by decide +kernel
theorem dX6_move_46 : decode cX6_move 46 = .ok (.iload_n 1, 1) := by decide +kernel
theorem dX6_move_47 : decode cX6_move 47 = .ok (.ifCond .ne 25, 3) := by decide +kernel
theorem dX6_move_50 : decode cX6_move 50 = .ok (.aload_n 0, 1) := by decide +kernel
theorem dX6_move_51 : decode cX6_move 51 = .ok (.getfield 12, 3) := by decide +kernel
theorem dX6_move_54 : decode cX6_move 54 = .ok (.iload_n 2, 1) := by decide +kernel
theorem dX6_move_55 : decode cX6_move 55 = .ok (.invokevirtual 99, 3) := by decide +kernel
theorem dX6_move_58 : decode cX6_move 58 = .ok (.iload_n 3, 1) := by decide +kernel
theorem dX6_move_59 : decode cX6_move 59 = .ok (.aload_n 0, 1) := by decide +kernel
theorem dX6_move_60 : decode cX6_move 60 = .ok (.getfield 12, 3) := by decide +kernel
theorem dX6_move_63 : decode cX6_move 63 = .ok (.invokevirtual 76, 3) := by decide +kernel
theorem dX6_move_66 : decode cX6_move 66 = .ok (.invokestatic 132, 3) := by decide +kernel
theorem dX6_move_69 : decode cX6_move 69 = .ok (.goto 22, 3) := by decide +kernel
theorem dX6_move_72 : decode cX6_move 72 = .ok (.aload_n 0, 1) := by decide +kernel
theorem dX6_move_73 : decode cX6_move 73 = .ok (.getfield 12, 3) := by decide +kernel
theorem dX6_move_76 : decode cX6_move 76 = .ok (.iload_n 2, 1) := by decide +kernel
theorem dX6_move_77 : decode cX6_move 77 = .ok (.invokevirtual 99, 3) := by decide +kernel
theorem dX6_move_80 : decode cX6_move 80 = .ok (.iload_n 3, 1) := by decide +kernel
theorem dX6_move_81 : decode cX6_move 81 = .ok (.aload_n 0, 1) := by decide +kernel
theorem dX6_move_82 : decode cX6_move 82 = .ok (.getfield 12, 3) := by decide +kernel
theorem dX6_move_85 : decode cX6_move 85 = .ok (.invokevirtual 76, 3) := by decide +kernel
theorem dX6_move_88 : decode cX6_move 88 = .ok (.invokestatic 135, 3) := by decide +kernel
theorem dX6_move_91 : decode cX6_move 91 = .ok (.aload_n 0, 1) := by decide +kernel
theorem dX6_move_92 : decode cX6_move 92 = .ok (.getfield 12, 3) := by decide +kernel
theorem dX6_move_95 : decode cX6_move 95 = .ok (.iconst 0, 1) := by decide +kernel
theorem dX6_move_96 : decode cX6_move 96 = .ok (.invokevirtual 86, 3) := by decide +kernel
theorem dX6_move_99 : decode cX6_move 99 = .ok (.ireturn, 1) := by decide +kernel
theorem dX6_delay_0 : decode cX6_delay 0 = .ok (.aload_n 0, 1) := by decide +kernel
theorem dX6_delay_1 : decode cX6_delay 1 = .ok (.getfield 12, 3) := by decide +kernel
theorem dX6_delay_4 : decode cX6_delay 4 = .ok (.iload_n 1, 1) := by decide +kernel
theorem dX6_delay_5 : decode cX6_delay 5 = .ok (.invokevirtual 95, 3) := by decide +kernel
theorem dX6_delay_8 : decode cX6_delay 8 = .ok (.ifCond .eq 14, 3) := by decide +kernel
theorem dX6_delay_11 : decode cX6_delay 11 = .ok (.aload_n 0, 1) := by decide +kernel
theorem dX6_delay_12 : decode cX6_delay 12 = .ok (.getfield 12, 3) := by decide +kernel
theorem dX6_delay_15 : decode cX6_delay 15 = .ok (.iload_n 2, 1) := by decide +kernel
theorem dX6_delay_16 : decode cX6_delay 16 = .ok (.invokevirtual 95, 3) := by decide +kernel
theorem dX6_delay_19 : decode cX6_delay 19 = .ok (.ifCond .ne 5, 3) := by decide +kernel
theorem dX6_delay_22 : decode cX6_delay 22 = .ok (.iconst (-1), 1) := by decide +kernel
theorem dX6_delay_23 : decode cX6_delay 23 = .ok (.ireturn, 1) := by decide +kernel
theorem dX6_delay_24 : decode cX6_delay 24 = .ok (.aload_n 0, 1) := by decide +kernel
theorem dX6_delay_25 : decode cX6_delay 25 = .ok (.getfield 12, 3) := by decide +kernel
theorem dX6_delay_28 : decode cX6_delay 28 = .ok (.iload_n 1, 1) := by decide +kernel
theorem dX6_delay_29 : decode cX6_delay 29 = .ok (.invokevirtual 99, 3) := by decide +kernel
theorem dX6_delay_32 : decode cX6_delay 32 = .ok (.aload_n 0, 1) := by decide +kernel
theorem dX6_delay_33 : decode cX6_delay 33 = .ok (.getfield 12, 3) := by decide +kernel
theorem dX6_delay_36 : decode cX6_delay 36 = .ok (.iload_n 2, 1) := by decide +kernel
theorem dX6_delay_37 : decode cX6_delay 37 = .ok (.invokevirtual 99, 3) := by decide +kernel
theorem dX6_delay_40 : decode cX6_delay 40 = .ok (.bipush 20, 2) := by decide +kernel
theorem dX6_delay_42 : decode cX6_delay 42 = .ok (.invokestatic 138, 3) := by decide +kernel
theorem dX6_delay_45 : decode cX6_delay 45 = .ok (.ireturn, 1) := by decide +kernel
theorem dX6_heap_0 : decode cX6_heap 0 = .ok (.aload_n 0, 1) := by decide +kernel
theorem dX6_heap_1 : decode cX6_heap 1 = .ok (.getfield 12, 3) := by decide +kernel
theorem dX6_heap_4 : decode cX6_heap 4 = .ok (.iload_n 1, 1) := by decide +kernel
theorem dX6_heap_5 : decode cX6_heap 5 = .ok (.invokevirtual 95, 3) := by decide +kernel
theorem dX6_heap_8 : decode cX6_heap 8 = .ok (.ifCond .eq 14, 3) := by decide +kernel
theorem dX6_heap_11 : decode cX6_heap 11 = .ok (.aload_n 0, 1) := by decide +kernel
theorem dX6_heap_12 : decode cX6_heap 12 = .ok (.getfield 12, 3) := by decide +kernel
theorem dX6_heap_15 : decode cX6_heap 15 = .ok (.iload_n 2, 1) := by decide +kernel
theorem dX6_heap_16 : decode cX6_heap 16 = .ok (.invokevirtual 95, 3) := by decide +kernel
theorem dX6_heap_19 : decode cX6_heap 19 = .ok (.ifCond .ne 5, 3) := by decide +kernel
theorem dX6_heap_22 : decode cX6_heap 22 = .ok (.iconst (-1), 1) := by decide +kernel
theorem dX6_heap_23 : decode cX6_heap 23 = .ok (.ireturn, 1) := by decide +kernel
theorem dX6_heap_24 : decode cX6_heap 24 = .ok (.aload_n 0, 1) := by decide +kernel
theorem dX6_heap_25 : decode cX6_heap 25 = .ok (.getfield 12, 3) := by decide +kernel
theorem dX6_heap_28 : decode cX6_heap 28 = .ok (.iload_n 1, 1) := by decide +kernel
theorem dX6_heap_29 : decode cX6_heap 29 = .ok (.invokevirtual 99, 3) := by decide +kernel
theorem dX6_heap_32 : decode cX6_heap 32 = .ok (.aload_n 0, 1) := by decide +kernel
theorem dX6_heap_33 : decode cX6_heap 33 = .ok (.getfield 12, 3) := by decide +kernel
theorem dX6_heap_36 : decode cX6_heap 36 = .ok (.iload_n 2, 1) := by decide +kernel
theorem dX6_heap_37 : decode cX6_heap 37 = .ok (.invokevirtual 99, 3) := by decide +kernel
theorem dX6_heap_40 : decode cX6_heap 40 = .ok (.invokestatic 142, 3) := by decide +kernel
theorem dX6_heap_43 : decode cX6_heap 43 = .ok (.ireturn, 1) := by decide +kernel
theorem dX6_within_0 : decode cX6_within 0 = .ok (.aload_n 0, 1) := by decide +kernel
theorem dX6_within_1 : decode cX6_within 1 = .ok (.getfield 12, 3) := by decide +kernel
theorem dX6_within_4 : decode cX6_within 4 = .ok (.iload_n 1, 1) := by decide +kernel
theorem dX6_within_5 : decode cX6_within 5 = .ok (.invokevirtual 95, 3) := by decide +kernel
theorem dX6_within_8 : decode cX6_within 8 = .ok (.ifCond .eq 14, 3) := by decide +kernel
theorem dX6_within_11 : decode cX6_within 11 = .ok (.aload_n 0, 1) := by decide +kernel
theorem dX6_within_12 : decode cX6_within 12 = .ok (.getfield 12, 3) := by decide +kernel
theorem dX6_within_15 : decode cX6_within 15 = .ok (.iload_n 2, 1) := by decide +kernel
theorem dX6_within_16 : decode cX6_within 16 = .ok (.invokevirtual 95, 3) := by decide +kernel
theorem dX6_within_19 : decode cX6_within 19 = .ok (.ifCond .ne 5, 3) := by decide +kernel
theorem dX6_within_22 : decode cX6_within 22 = .ok (.iconst (-1), 1) := by decide +kernel
theorem dX6_within_23 : decode cX6_within 23 = .ok (.ireturn, 1) := by decide +kernel
theorem dX6_within_24 : decode cX6_within 24 = .ok (.aload_n 0, 1) := by decide +kernel
theorem dX6_within_25 : decode cX6_within 25 = .ok (.getfield 12, 3) := by decide +kernel
theorem dX6_within_28 : decode cX6_within 28 = .ok (.iload_n 1, 1) := by decide +kernel
theorem dX6_within_29 : decode cX6_within 29 = .ok (.invokevirtual 99, 3) := by decide +kernel
theorem dX6_within_32 : decode cX6_within 32 = .ok (.aload_n 0, 1) := by decide +kernel
theorem dX6_within_33 : decode cX6_within 33 = .ok (.getfield 12, 3) := by decide +kernel
theorem dX6_within_36 : decode cX6_within 36 = .ok (.iload_n 2, 1) := by decide +kernel
theorem dX6_within_37 : decode cX6_within 37 = .ok (.invokevirtual 99, 3) := by decide +kernel
theorem dX6_within_40 : decode cX6_within 40 = .ok (.invokestatic 142, 3) := by decide +kernel
theorem dX6_within_43 : decode cX6_within 43 = .ok (.ifCond .ne 7, 3) := by decide +kernel
theorem dX6_within_46 : decode cX6_within 46 = .ok (.iconst 1, 1) := by decide +kernel
theorem dX6_within_47 : decode cX6_within 47 = .ok (.goto 4, 3) := by decide +kernel
theorem dX6_within_50 : decode cX6_within 50 = .ok (.iconst 0, 1) := by decide +kernel
theorem dX6_within_51 : decode cX6_within 51 = .ok (.ireturn, 1) := by decide +kernel
theorem dX6_serve_0 : decode cX6_serve 0 = .ok (.iload_n 1, 1) := by decide +kernel
theorem dX6_serve_1 : decode cX6_serve 1 = .ok (.iconst 5, 1) := by decide +kernel
theorem dX6_serve_2 : decode cX6_serve 2 = .ok (.invokestatic 68, 3) := by decide +kernel
theorem dX6_serve_5 : decode cX6_serve 5 = .ok (.ifCond .eq 20, 3) := by decide +kernel
theorem dX6_serve_8 : decode cX6_serve 8 = .ok (.iload_n 2, 1) := by decide +kernel
theorem dX6_serve_9 : decode cX6_serve 9 = .ok (.bipush (-9), 2) := by decide +kernel
theorem dX6_serve_11 : decode cX6_serve 11 = .ok (.if_icmp .eq 16, 3) := by decide +kernel
theorem dX6_serve_14 : decode cX6_serve 14 = .ok (.aload_n 0, 1) := by decide +kernel
theorem dX6_serve_15 : decode cX6_serve 15 = .ok (.getfield 12, 3) := by decide +kernel
theorem dX6_serve_18 : decode cX6_serve 18 = .ok (.iload_n 2, 1) := by decide +kernel
theorem dX6_serve_19 : decode cX6_serve 19 = .ok (.invokevirtual 95, 3) := by decide +kernel
theorem dX6_serve_22 : decode cX6_serve 22 = .ok (.ifCond .ne 5, 3) := by decide +kernel
theorem dX6_serve_25 : decode cX6_serve 25 = .ok (.iconst (-1), 1) := by decide +kernel
theorem dX6_serve_26 : decode cX6_serve 26 = .ok (.ireturn, 1) := by decide +kernel
theorem dX6_serve_27 : decode cX6_serve 27 = .ok (.aload_n 0, 1) := by decide +kernel
theorem dX6_serve_28 : decode cX6_serve 28 = .ok (.getfield 21, 3) := by decide +kernel
theorem dX6_serve_31 : decode cX6_serve 31 = .ok (.getfield 146, 3) := by decide +kernel
theorem dX6_serve_34 : decode cX6_serve 34 = .ok (.iload_n 1, 1) := by decide +kernel
theorem dX6_serve_35 : decode cX6_serve 35 = .ok (.iaload, 1) := by decide +kernel
theorem dX6_serve_36 : decode cX6_serve 36 = .ok (.istore_n 3, 1) := by decide +kernel
theorem dX6_serve_37 : decode cX6_serve 37 = .ok (.iload_n 2, 1) := by decide +kernel
theorem dX6_serve_38 : decode cX6_serve 38 = .ok (.bipush (-9), 2) := by decide +kernel
theorem dX6_serve_40 : decode cX6_serve 40 = .ok (.if_icmp .ne 14, 3) := by decide +kernel
theorem dX6_serve_43 : decode cX6_serve 43 = .ok (.aload_n 0, 1) := by decide +kernel
theorem dX6_serve_44 : decode cX6_serve 44 = .ok (.getfield 21, 3) := by decide +kernel
theorem dX6_serve_47 : decode cX6_serve 47 = .ok (.iload_n 1, 1) := by decide +kernel
theorem dX6_serve_48 : decode cX6_serve 48 = .ok (.invokevirtual 149, 3) := by decide +kernel
theorem dX6_serve_51 : decode cX6_serve 51 = .ok (.goto 20, 3) := by decide +kernel
theorem dX6_serve_54 : decode cX6_serve 54 = .ok (.aload_n 0, 1) := by decide +kernel
theorem dX6_serve_55 : decode cX6_serve 55 = .ok (.getfield 21, 3) := by decide +kernel
theorem dX6_serve_58 : decode cX6_serve 58 = .ok (.iload_n 1, 1) := by decide +kernel
theorem dX6_serve_59 : decode cX6_serve 59 = .ok (.iload_n 2, 1) := by decide +kernel
theorem dX6_serve_60 : decode cX6_serve 60 = .ok (.aload_n 0, 1) := by decide +kernel
theorem dX6_serve_61 : decode cX6_serve 61 = .ok (.getfield 12, 3) := by decide +kernel
theorem dX6_serve_64 : decode cX6_serve 64 = .ok (.iload_n 2, 1) := by decide +kernel
theorem dX6_serve_65 : decode cX6_serve 65 = .ok (.invokevirtual 99, 3) := by decide +kernel
theorem dX6_serve_68 : decode cX6_serve 68 = .ok (.invokevirtual 153, 3) := by decide +kernel
theorem dX6_serve_71 : decode cX6_serve 71 = .ok (.iload_n 3, 1) := by decide +kernel
theorem dX6_serve_72 : decode cX6_serve 72 = .ok (.ireturn, 1) := by decide +kernel
theorem dX6_flow_0 : decode cX6_flow 0 = .ok (.aload_n 0, 1) := by decide +kernel
theorem dX6_flow_1 : decode cX6_flow 1 = .ok (.aload_n 0, 1) := by decide +kernel
theorem dX6_flow_2 : decode cX6_flow 2 = .ok (.iload_n 1, 1) := by decide +kernel
theorem dX6_flow_3 : decode cX6_flow 3 = .ok (.iload_n 2, 1) := by decide +kernel
theorem dX6_flow_4 : decode cX6_flow 4 = .ok (.iload_n 3, 1) := by decide +kernel
theorem dX6_flow_5 : decode cX6_flow 5 = .ok (.iload 4, 2) := by decide +kernel
theorem dX6_flow_7 : decode cX6_flow 7 = .ok (.iload 5, 2) := by decide +kernel
theorem dX6_flow_9 : decode cX6_flow 9 = .ok (.invokevirtual 156, 3) := by decide +kernel
theorem dX6_flow_12 : decode cX6_flow 12 = .ok (.invokevirtual 64, 3) := by decide +kernel
theorem dX6_flow_15 : decode cX6_flow 15 = .ok (.ireturn, 1) := by decide +kernel
theorem dX6_ofFlow_0 : decode cX6_ofFlow 0 = .ok (.aload_n 0, 1) := by decide +kernel
theorem dX6_ofFlow_1 : decode cX6_ofFlow 1 = .ok (.getfield 21, 3) := by decide +kernel
theorem dX6_ofFlow_4 : decode cX6_ofFlow 4 = .ok (.iload_n 1, 1) := by decide +kernel
theorem dX6_ofFlow_5 : decode cX6_ofFlow 5 = .ok (.invokevirtual 160, 3) := by decide +kernel
theorem dX6_ofFlow_8 : decode cX6_ofFlow 8 = .ok (.ifCond .ne 5, 3) := by decide +kernel
theorem dX6_ofFlow_11 : decode cX6_ofFlow 11 = .ok (.iconst (-1), 1) := by decide +kernel
theorem dX6_ofFlow_12 : decode cX6_ofFlow 12 = .ok (.ireturn, 1) := by decide +kernel
theorem dX6_ofFlow_13 : decode cX6_ofFlow 13 = .ok (.iload_n 2, 1) := by decide +kernel
theorem dX6_ofFlow_14 : decode cX6_ofFlow 14 = .ok (.ifCond .ne 13, 3) := by decide +kernel
theorem dX6_ofFlow_17 : decode cX6_ofFlow 17 = .ok (.aload_n 0, 1) := by decide +kernel
theorem dX6_ofFlow_18 : decode cX6_ofFlow 18 = .ok (.getfield 21, 3) := by decide +kernel
theorem dX6_ofFlow_21 : decode cX6_ofFlow 21 = .ok (.getfield 163, 3) := by decide +kernel
theorem dX6_ofFlow_24 : decode cX6_ofFlow 24 = .ok (.iload_n 1, 1) := by decide +kernel
theorem dX6_ofFlow_25 : decode cX6_ofFlow 25 = .ok (.iaload, 1) := by decide +kernel
theorem dX6_ofFlow_26 : decode cX6_ofFlow 26 = .ok (.ireturn, 1) := by decide +kernel
theorem dX6_ofFlow_27 : decode cX6_ofFlow 27 = .ok (.iload_n 2, 1) := by decide +kernel
theorem dX6_ofFlow_28 : decode cX6_ofFlow 28 = .ok (.iconst 1, 1) := by decide +kernel
theorem dX6_ofFlow_29 : decode cX6_ofFlow 29 = .ok (.if_icmp .ne 13, 3) := by decide +kernel
theorem dX6_ofFlow_32 : decode cX6_ofFlow 32 = .ok (.aload_n 0, 1) := by decide +kernel
theorem dX6_ofFlow_33 : decode cX6_ofFlow 33 = .ok (.getfield 21, 3) := by decide +kernel
theorem dX6_ofFlow_36 : decode cX6_ofFlow 36 = .ok (.getfield 166, 3) := by decide +kernel
theorem dX6_ofFlow_39 : decode cX6_ofFlow 39 = .ok (.iload_n 1, 1) := by decide +kernel
theorem dX6_ofFlow_40 : decode cX6_ofFlow 40 = .ok (.iaload, 1) := by decide +kernel
theorem dX6_ofFlow_41 : decode cX6_ofFlow 41 = .ok (.ireturn, 1) := by decide +kernel
theorem dX6_ofFlow_42 : decode cX6_ofFlow 42 = .ok (.iload_n 2, 1) := by decide +kernel
theorem dX6_ofFlow_43 : decode cX6_ofFlow 43 = .ok (.bipush 10, 2) := by decide +kernel
theorem dX6_ofFlow_45 : decode cX6_ofFlow 45 = .ok (.if_icmp .lt 33, 3) := by decide +kernel
theorem dX6_ofFlow_48 : decode cX6_ofFlow 48 = .ok (.aload_n 0, 1) := by decide +kernel
theorem dX6_ofFlow_49 : decode cX6_ofFlow 49 = .ok (.getfield 21, 3) := by decide +kernel
theorem dX6_ofFlow_52 : decode cX6_ofFlow 52 = .ok (.iload_n 1, 1) := by decide +kernel
theorem dX6_ofFlow_53 : decode cX6_ofFlow 53 = .ok (.iload_n 2, 1) := by decide +kernel
theorem dX6_ofFlow_54 : decode cX6_ofFlow 54 = .ok (.bipush 10, 2) := by decide +kernel
theorem dX6_ofFlow_56 : decode cX6_ofFlow 56 = .ok (.isub, 1) := by decide +kernel
theorem dX6_ofFlow_57 : decode cX6_ofFlow 57 = .ok (.invokevirtual 169, 3) := by decide +kernel
theorem dX6_ofFlow_60 : decode cX6_ofFlow 60 = .ok (.ifCond .eq 18, 3) := by decide +kernel
theorem dX6_ofFlow_63 : decode cX6_ofFlow 63 = .ok (.aload_n 0, 1) := by decide +kernel
theorem dX6_ofFlow_64 : decode cX6_ofFlow 64 = .ok (.getfield 21, 3) := by decide +kernel
theorem dX6_ofFlow_67 : decode cX6_ofFlow 67 = .ok (.getfield 172, 3) := by decide +kernel
theorem dX6_ofFlow_70 : decode cX6_ofFlow 70 = .ok (.iload_n 1, 1) := by decide +kernel
theorem dX6_ofFlow_71 : decode cX6_ofFlow 71 = .ok (.aaload, 1) := by decide +kernel
theorem dX6_ofFlow_72 : decode cX6_ofFlow 72 = .ok (.iload_n 2, 1) := by decide +kernel
theorem dX6_ofFlow_73 : decode cX6_ofFlow 73 = .ok (.bipush 10, 2) := by decide +kernel
theorem dX6_ofFlow_75 : decode cX6_ofFlow 75 = .ok (.isub, 1) := by decide +kernel
theorem dX6_ofFlow_76 : decode cX6_ofFlow 76 = .ok (.iaload, 1) := by decide +kernel
theorem dX6_ofFlow_77 : decode cX6_ofFlow 77 = .ok (.ireturn, 1) := by decide +kernel
theorem dX6_ofFlow_78 : decode cX6_ofFlow 78 = .ok (.bipush (-2), 2) := by decide +kernel
theorem dX6_ofFlow_80 : decode cX6_ofFlow 80 = .ok (.ireturn, 1) := by decide +kernel
theorem dX6_rule_0 : decode cX6_rule 0 = .ok (.iload_n 1, 1) := by decide +kernel
theorem dX6_rule_1 : decode cX6_rule 1 = .ok (.iconst 2, 1) := by decide +kernel
theorem dX6_rule_2 : decode cX6_rule 2 = .ok (.invokestatic 68, 3) := by decide +kernel
theorem dX6_rule_5 : decode cX6_rule 5 = .ok (.ifCond .ne 6, 3) := by decide +kernel
theorem dX6_rule_8 : decode cX6_rule 8 = .ok (.bipush (-2), 2) := by decide +kernel
theorem dX6_rule_10 : decode cX6_rule 10 = .ok (.ireturn, 1) := by decide +kernel
theorem dX6_rule_11 : decode cX6_rule 11 = .ok (.aload_n 0, 1) := by decide +kernel
theorem dX6_rule_12 : decode cX6_rule 12 = .ok (.getfield 21, 3) := by decide +kernel
theorem dX6_rule_15 : decode cX6_rule 15 = .ok (.getfield 176, 3) := by decide +kernel
theorem dX6_rule_18 : decode cX6_rule 18 = .ok (.istore_n 2, 1) := by decide +kernel
theorem dX6_rule_19 : decode cX6_rule 19 = .ok (.aload_n 0, 1) := by decide +kernel
theorem dX6_rule_20 : decode cX6_rule 20 = .ok (.getfield 21, 3) := by decide +kernel
theorem dX6_rule_23 : decode cX6_rule 23 = .ok (.iload_n 1, 1) := by decide +kernel
theorem dX6_rule_24 : decode cX6_rule 24 = .ok (.invokevirtual 179, 3) := by decide +kernel
theorem dX6_rule_27 : decode cX6_rule 27 = .ok (.iload_n 2, 1) := by decide +kernel
theorem dX6_rule_28 : decode cX6_rule 28 = .ok (.ireturn, 1) := by decide +kernel
theorem dX6_ring_0 : decode cX6_ring 0 = .ok (.aload_n 0, 1) := by decide +kernel
theorem dX6_ring_1 : decode cX6_ring 1 = .ok (.getfield 21, 3) := by decide +kernel
theorem dX6_ring_4 : decode cX6_ring 4 = .ok (.invokevirtual 182, 3) := by decide +kernel
theorem dX6_ring_7 : decode cX6_ring 7 = .ok (.ifCond .eq 7, 3) := by decide +kernel
theorem dX6_ring_10 : decode cX6_ring 10 = .ok (.iconst 1, 1) := by decide +kernel
theorem dX6_ring_11 : decode cX6_ring 11 = .ok (.goto 4, 3) := by decide +kernel
theorem dX6_ring_14 : decode cX6_ring 14 = .ok (.iconst 0, 1) := by decide +kernel
theorem dX6_ring_15 : decode cX6_ring 15 = .ok (.ireturn, 1) := by decide +kernel
theorem dX6_latest_0 : decode cX6_latest 0 = .ok (.aload_n 0, 1) := by decide +kernel
theorem dX6_latest_1 : decode cX6_latest 1 = .ok (.getfield 21, 3) := by decide +kernel
theorem dX6_latest_4 : decode cX6_latest 4 = .ok (.iload_n 1, 1) := by decide +kernel
theorem dX6_latest_5 : decode cX6_latest 5 = .ok (.iload_n 2, 1) := by decide +kernel
theorem dX6_latest_6 : decode cX6_latest 6 = .ok (.invokevirtual 169, 3) := by decide +kernel
theorem dX6_latest_9 : decode cX6_latest 9 = .ok (.ifCond .ne 5, 3) := by decide +kernel
theorem dX6_latest_12 : decode cX6_latest 12 = .ok (.iconst (-1), 1) := by decide +kernel
theorem dX6_latest_13 : decode cX6_latest 13 = .ok (.ireturn, 1) := by decide +kernel
theorem dX6_latest_14 : decode cX6_latest 14 = .ok (.aload_n 0, 1) := by decide +kernel
theorem dX6_latest_15 : decode cX6_latest 15 = .ok (.getfield 21, 3) := by decide +kernel
theorem dX6_latest_18 : decode cX6_latest 18 = .ok (.invokevirtual 185, 3) := by decide +kernel
theorem dX6_latest_21 : decode cX6_latest 21 = .ok (.ifCond .ne 6, 3) := by decide +kernel
theorem dX6_latest_24 : decode cX6_latest 24 = .ok (.bipush (-3), 2) := by decide +kernel
theorem dX6_latest_26 : decode cX6_latest 26 = .ok (.ireturn, 1) := by decide +kernel
theorem dX6_latest_27 : decode cX6_latest 27 = .ok (.aload_n 0, 1) := by decide +kernel
theorem dX6_latest_28 : decode cX6_latest 28 = .ok (.getfield 21, 3) := by decide +kernel
theorem dX6_latest_31 : decode cX6_latest 31 = .ok (.iload_n 1, 1) := by decide +kernel
theorem dX6_latest_32 : decode cX6_latest 32 = .ok (.iload_n 2, 1) := by decide +kernel
theorem dX6_latest_33 : decode cX6_latest 33 = .ok (.invokevirtual 188, 3) := by decide +kernel
theorem dX6_latest_36 : decode cX6_latest 36 = .ok (.ireturn, 1) := by decide +kernel
theorem dX6_there_0 : decode cX6_there 0 = .ok (.aload_n 0, 1) := by decide +kernel
theorem dX6_there_1 : decode cX6_there 1 = .ok (.getfield 21, 3) := by decide +kernel
theorem dX6_there_4 : decode cX6_there 4 = .ok (.iload_n 1, 1) := by decide +kernel
theorem dX6_there_5 : decode cX6_there 5 = .ok (.iload_n 2, 1) := by decide +kernel
theorem dX6_there_6 : decode cX6_there 6 = .ok (.invokevirtual 169, 3) := by decide +kernel
theorem dX6_there_9 : decode cX6_there 9 = .ok (.ifCond .ne 5, 3) := by decide +kernel
theorem dX6_there_12 : decode cX6_there 12 = .ok (.iconst (-1), 1) := by decide +kernel
theorem dX6_there_13 : decode cX6_there 13 = .ok (.ireturn, 1) := by decide +kernel
theorem dX6_there_14 : decode cX6_there 14 = .ok (.iload_n 3, 1) := by decide +kernel
theorem dX6_there_15 : decode cX6_there 15 = .ok (.iconst 2, 1) := by decide +kernel
theorem dX6_there_16 : decode cX6_there 16 = .ok (.invokestatic 68, 3) := by decide +kernel
theorem dX6_there_19 : decode cX6_there 19 = .ok (.ifCond .eq 13, 3) := by decide +kernel
theorem dX6_there_22 : decode cX6_there 22 = .ok (.iload 4, 2) := by decide +kernel
theorem dX6_there_24 : decode cX6_there 24 = .ok (.bipush 40, 2) := by decide +kernel
theorem dX6_there_26 : decode cX6_there 26 = .ok (.invokestatic 68, 3) := by decide +kernel
theorem dX6_there_29 : decode cX6_there 29 = .ok (.ifCond .ne 6, 3) := by decide +kernel
theorem dX6_there_32 : decode cX6_there 32 = .ok (.bipush (-2), 2) := by decide +kernel
theorem dX6_there_34 : decode cX6_there 34 = .ok (.ireturn, 1) := by decide +kernel
theorem dX6_there_35 : decode cX6_there 35 = .ok (.aload_n 0, 1) := by decide +kernel
theorem dX6_there_36 : decode cX6_there 36 = .ok (.getfield 21, 3) := by decide +kernel
theorem dX6_there_39 : decode cX6_there 39 = .ok (.invokevirtual 185, 3) := by decide +kernel
theorem dX6_there_42 : decode cX6_there 42 = .ok (.ifCond .ne 6, 3) := by decide +kernel
theorem dX6_there_45 : decode cX6_there 45 = .ok (.bipush (-3), 2) := by decide +kernel
theorem dX6_there_47 : decode cX6_there 47 = .ok (.ireturn, 1) := by decide +kernel
theorem dX6_there_48 : decode cX6_there 48 = .ok (.iload_n 3, 1) := by decide +kernel
theorem dX6_there_49 : decode cX6_there 49 = .ok (.ifCond .ne 16, 3) := by decide +kernel
theorem dX6_there_52 : decode cX6_there 52 = .ok (.aload_n 0, 1) := by decide +kernel
theorem dX6_there_53 : decode cX6_there 53 = .ok (.getfield 21, 3) := by decide +kernel
theorem dX6_there_56 : decode cX6_there 56 = .ok (.iload_n 1, 1) := by decide +kernel
theorem dX6_there_57 : decode cX6_there 57 = .ok (.iload_n 2, 1) := by decide +kernel
theorem dX6_there_58 : decode cX6_there 58 = .ok (.invokevirtual 192, 3) := by decide +kernel
theorem dX6_there_61 : decode cX6_there 61 = .ok (.iload 4, 2) := by decide +kernel
theorem dX6_there_63 : decode cX6_there 63 = .ok (.iaload, 1) := by decide +kernel
theorem dX6_there_64 : decode cX6_there 64 = .ok (.ireturn, 1) := by decide +kernel
theorem dX6_there_65 : decode cX6_there 65 = .ok (.iload_n 3, 1) := by decide +kernel
theorem dX6_there_66 : decode cX6_there 66 = .ok (.iconst 1, 1) := by decide +kernel
theorem dX6_there_67 : decode cX6_there 67 = .ok (.if_icmp .ne 18, 3) := by decide +kernel
theorem dX6_there_70 : decode cX6_there 70 = .ok (.aload_n 0, 1) := by decide +kernel
theorem dX6_there_71 : decode cX6_there 71 = .ok (.getfield 21, 3) := by decide +kernel
theorem dX6_there_74 : decode cX6_there 74 = .ok (.iload_n 1, 1) := by decide +kernel
theorem dX6_there_75 : decode cX6_there 75 = .ok (.iload_n 2, 1) := by decide +kernel
theorem dX6_there_76 : decode cX6_there 76 = .ok (.invokevirtual 196, 3) := by decide +kernel
theorem dX6_there_79 : decode cX6_there 79 = .ok (.iload 4, 2) := by decide +kernel
theorem dX6_there_81 : decode cX6_there 81 = .ok (.iaload, 1) := by decide +kernel
theorem dX6_there_82 : decode cX6_there 82 = .ok (.goto 15, 3) := by decide +kernel
theorem dX6_there_85 : decode cX6_there 85 = .ok (.aload_n 0, 1) := by decide +kernel
theorem dX6_there_86 : decode cX6_there 86 = .ok (.getfield 21, 3) := by decide +kernel
theorem dX6_there_89 : decode cX6_there 89 = .ok (.iload_n 1, 1) := by decide +kernel
theorem dX6_there_90 : decode cX6_there 90 = .ok (.iload_n 2, 1) := by decide +kernel
theorem dX6_there_91 : decode cX6_there 91 = .ok (.invokevirtual 199, 3) := by decide +kernel
theorem dX6_there_94 : decode cX6_there 94 = .ok (.iload 4, 2) := by decide +kernel
theorem dX6_there_96 : decode cX6_there 96 = .ok (.iaload, 1) := by decide +kernel
theorem dX6_there_97 : decode cX6_there 97 = .ok (.ireturn, 1) := by decide +kernel
theorem dX6_heapAt_0 : decode cX6_heapAt 0 = .ok (.iload_n 1, 1) := by decide +kernel
theorem dX6_heapAt_1 : decode cX6_heapAt 1 = .ok (.iconst 5, 1) := by decide +kernel
theorem dX6_heapAt_2 : decode cX6_heapAt 2 = .ok (.invokestatic 68, 3) := by decide +kernel
theorem dX6_heapAt_5 : decode cX6_heapAt 5 = .ok (.ifCond .ne 5, 3) := by decide +kernel
theorem dX6_heapAt_8 : decode cX6_heapAt 8 = .ok (.iconst (-1), 1) := by decide +kernel
theorem dX6_heapAt_9 : decode cX6_heapAt 9 = .ok (.ireturn, 1) := by decide +kernel
theorem dX6_heapAt_10 : decode cX6_heapAt 10 = .ok (.aload_n 0, 1) := by decide +kernel
theorem dX6_heapAt_11 : decode cX6_heapAt 11 = .ok (.getfield 21, 3) := by decide +kernel
theorem dX6_heapAt_14 : decode cX6_heapAt 14 = .ok (.getfield 146, 3) := by decide +kernel
theorem dX6_heapAt_17 : decode cX6_heapAt 17 = .ok (.iload_n 1, 1) := by decide +kernel
theorem dX6_heapAt_18 : decode cX6_heapAt 18 = .ok (.iaload, 1) := by decide +kernel
theorem dX6_heapAt_19 : decode cX6_heapAt 19 = .ok (.bipush (-9), 2) := by decide +kernel
theorem dX6_heapAt_21 : decode cX6_heapAt 21 = .ok (.if_icmp .eq 13, 3) := by decide +kernel
theorem dX6_heapAt_24 : decode cX6_heapAt 24 = .ok (.aload_n 0, 1) := by decide +kernel
theorem dX6_heapAt_25 : decode cX6_heapAt 25 = .ok (.getfield 21, 3) := by decide +kernel
theorem dX6_heapAt_28 : decode cX6_heapAt 28 = .ok (.invokevirtual 185, 3) := by decide +kernel
theorem dX6_heapAt_31 : decode cX6_heapAt 31 = .ok (.ifCond .ne 6, 3) := by decide +kernel
theorem dX6_heapAt_34 : decode cX6_heapAt 34 = .ok (.bipush (-3), 2) := by decide +kernel
theorem dX6_heapAt_36 : decode cX6_heapAt 36 = .ok (.ireturn, 1) := by decide +kernel
theorem dX6_heapAt_37 : decode cX6_heapAt 37 = .ok (.aload_n 0, 1) := by decide +kernel
theorem dX6_heapAt_38 : decode cX6_heapAt 38 = .ok (.getfield 21, 3) := by decide +kernel
theorem dX6_heapAt_41 : decode cX6_heapAt 41 = .ok (.iload_n 1, 1) := by decide +kernel
theorem dX6_heapAt_42 : decode cX6_heapAt 42 = .ok (.invokevirtual 202, 3) := by decide +kernel
theorem dX6_heapAt_45 : decode cX6_heapAt 45 = .ok (.ireturn, 1) := by decide +kernel
theorem dX6_bound_0 : decode cX6_bound 0 = .ok (.aload_n 0, 1) := by decide +kernel
theorem dX6_bound_1 : decode cX6_bound 1 = .ok (.getfield 21, 3) := by decide +kernel
theorem dX6_bound_4 : decode cX6_bound 4 = .ok (.iload_n 1, 1) := by decide +kernel
theorem dX6_bound_5 : decode cX6_bound 5 = .ok (.invokevirtual 160, 3) := by decide +kernel
theorem dX6_bound_8 : decode cX6_bound 8 = .ok (.ifCond .ne 5, 3) := by decide +kernel
theorem dX6_bound_11 : decode cX6_bound 11 = .ok (.iconst (-1), 1) := by decide +kernel
theorem dX6_bound_12 : decode cX6_bound 12 = .ok (.ireturn, 1) := by decide +kernel
theorem dX6_bound_13 : decode cX6_bound 13 = .ok (.iload_n 2, 1) := by decide +kernel
theorem dX6_bound_14 : decode cX6_bound 14 = .ok (.iconst 1, 1) := by decide +kernel
theorem dX6_bound_15 : decode cX6_bound 15 = .ok (.invokestatic 68, 3) := by decide +kernel
theorem dX6_bound_18 : decode cX6_bound 18 = .ok (.ifCond .ne 6, 3) := by decide +kernel
theorem dX6_bound_21 : decode cX6_bound 21 = .ok (.bipush (-2), 2) := by decide +kernel
theorem dX6_bound_23 : decode cX6_bound 23 = .ok (.ireturn, 1) := by decide +kernel
theorem dX6_bound_24 : decode cX6_bound 24 = .ok (.aload_n 0, 1) := by decide +kernel
theorem dX6_bound_25 : decode cX6_bound 25 = .ok (.getfield 21, 3) := by decide +kernel
theorem dX6_bound_28 : decode cX6_bound 28 = .ok (.invokevirtual 185, 3) := by decide +kernel
theorem dX6_bound_31 : decode cX6_bound 31 = .ok (.ifCond .eq 19, 3) := by decide +kernel
theorem dX6_bound_34 : decode cX6_bound 34 = .ok (.iload_n 2, 1) := by decide +kernel
theorem dX6_bound_35 : decode cX6_bound 35 = .ok (.iconst 1, 1) := by decide +kernel
theorem dX6_bound_36 : decode cX6_bound 36 = .ok (.if_icmp .ne 17, 3) := by decide +kernel
theorem dX6_bound_39 : decode cX6_bound 39 = .ok (.aload_n 0, 1) := by decide +kernel
theorem dX6_bound_40 : decode cX6_bound 40 = .ok (.getfield 21, 3) := by decide +kernel
theorem dX6_bound_43 : decode cX6_bound 43 = .ok (.getfield 176, 3) := by decide +kernel
theorem dX6_bound_46 : decode cX6_bound 46 = .ok (.iconst 2, 1) := by decide +kernel
theorem dX6_bound_47 : decode cX6_bound 47 = .ok (.if_icmp .ne 6, 3) := by decide +kernel
theorem dX6_bound_50 : decode cX6_bound 50 = .ok (.bipush (-3), 2) := by decide +kernel
theorem dX6_bound_52 : decode cX6_bound 52 = .ok (.ireturn, 1) := by decide +kernel
theorem dX6_bound_53 : decode cX6_bound 53 = .ok (.iload_n 2, 1) := by decide +kernel
theorem dX6_bound_54 : decode cX6_bound 54 = .ok (.ifCond .ne 14, 3) := by decide +kernel
theorem dX6_bound_57 : decode cX6_bound 57 = .ok (.aload_n 0, 1) := by decide +kernel
theorem dX6_bound_58 : decode cX6_bound 58 = .ok (.getfield 21, 3) := by decide +kernel
theorem dX6_bound_61 : decode cX6_bound 61 = .ok (.iload_n 1, 1) := by decide +kernel
theorem dX6_bound_62 : decode cX6_bound 62 = .ok (.invokevirtual 205, 3) := by decide +kernel
theorem dX6_bound_65 : decode cX6_bound 65 = .ok (.goto 11, 3) := by decide +kernel
theorem dX6_bound_68 : decode cX6_bound 68 = .ok (.aload_n 0, 1) := by decide +kernel
theorem dX6_bound_69 : decode cX6_bound 69 = .ok (.getfield 21, 3) := by decide +kernel
theorem dX6_bound_72 : decode cX6_bound 72 = .ok (.iload_n 1, 1) := by decide +kernel
theorem dX6_bound_73 : decode cX6_bound 73 = .ok (.invokevirtual 208, 3) := by decide +kernel
theorem dX6_bound_76 : decode cX6_bound 76 = .ok (.ireturn, 1) := by decide +kernel
theorem dX6_newFlow_0 : decode cX6_newFlow 0 = .ok (.aload_n 0, 1) := by decide +kernel
theorem dX6_newFlow_1 : decode cX6_newFlow 1 = .ok (.getfield 12, 3) := by decide +kernel
theorem dX6_newFlow_4 : decode cX6_newFlow 4 = .ok (.iload_n 1, 1) := by decide +kernel
theorem dX6_newFlow_5 : decode cX6_newFlow 5 = .ok (.invokevirtual 95, 3) := by decide +kernel
theorem dX6_newFlow_8 : decode cX6_newFlow 8 = .ok (.ifCond .ne 5, 3) := by decide +kernel
theorem dX6_newFlow_11 : decode cX6_newFlow 11 = .ok (.iconst (-1), 1) := by decide +kernel
theorem dX6_newFlow_12 : decode cX6_newFlow 12 = .ok (.ireturn, 1) := by decide +kernel
theorem dX6_newFlow_13 : decode cX6_newFlow 13 = .ok (.aload_n 0, 1) := by decide +kernel
theorem dX6_newFlow_14 : decode cX6_newFlow 14 = .ok (.getfield 35, 3) := by decide +kernel
theorem dX6_newFlow_17 : decode cX6_newFlow 17 = .ok (.iload_n 2, 1) := by decide +kernel
theorem dX6_newFlow_18 : decode cX6_newFlow 18 = .ok (.iload_n 3, 1) := by decide +kernel
theorem dX6_newFlow_19 : decode cX6_newFlow 19 = .ok (.iload 4, 2) := by decide +kernel
theorem dX6_newFlow_21 : decode cX6_newFlow 21 = .ok (.iload 5, 2) := by decide +kernel
theorem dX6_newFlow_23 : decode cX6_newFlow 23 = .ok (.aload_n 0, 1) := by decide +kernel
theorem dX6_newFlow_24 : decode cX6_newFlow 24 = .ok (.getfield 46, 3) := by decide +kernel
theorem dX6_newFlow_27 : decode cX6_newFlow 27 = .ok (.invokevirtual 103, 3) := by decide +kernel
theorem dX6_newFlow_30 : decode cX6_newFlow 30 = .ok (.istore 6, 2) := by decide +kernel
theorem dX6_newFlow_32 : decode cX6_newFlow 32 = .ok (.iload 6, 2) := by decide +kernel
theorem dX6_newFlow_34 : decode cX6_newFlow 34 = .ok (.ifCond .ne 11, 3) := by decide +kernel
theorem dX6_newFlow_37 : decode cX6_newFlow 37 = .ok (.aload_n 0, 1) := by decide +kernel
theorem dX6_newFlow_38 : decode cX6_newFlow 38 = .ok (.iload 5, 2) := by decide +kernel
theorem dX6_newFlow_40 : decode cX6_newFlow 40 = .ok (.invokevirtual 211, 3) := by decide +kernel
theorem dX6_newFlow_43 : decode cX6_newFlow 43 = .ok (.istore 6, 2) := by decide +kernel
theorem dX6_newFlow_45 : decode cX6_newFlow 45 = .ok (.iload 6, 2) := by decide +kernel
theorem dX6_newFlow_47 : decode cX6_newFlow 47 = .ok (.ifCond .eq 6, 3) := by decide +kernel
theorem dX6_newFlow_50 : decode cX6_newFlow 50 = .ok (.iload 6, 2) := by decide +kernel
theorem dX6_newFlow_52 : decode cX6_newFlow 52 = .ok (.ireturn, 1) := by decide +kernel
theorem dX6_newFlow_53 : decode cX6_newFlow 53 = .ok (.aload_n 0, 1) := by decide +kernel
theorem dX6_newFlow_54 : decode cX6_newFlow 54 = .ok (.getfield 21, 3) := by decide +kernel
theorem dX6_newFlow_57 : decode cX6_newFlow 57 = .ok (.invokevirtual 214, 3) := by decide +kernel
theorem dX6_newFlow_60 : decode cX6_newFlow 60 = .ok (.ifCond .eq 6, 3) := by decide +kernel
theorem dX6_newFlow_63 : decode cX6_newFlow 63 = .ok (.bipush (-4), 2) := by decide +kernel
theorem dX6_newFlow_65 : decode cX6_newFlow 65 = .ok (.ireturn, 1) := by decide +kernel
theorem dX6_newFlow_66 : decode cX6_newFlow 66 = .ok (.aload_n 0, 1) := by decide +kernel
theorem dX6_newFlow_67 : decode cX6_newFlow 67 = .ok (.getfield 21, 3) := by decide +kernel
theorem dX6_newFlow_70 : decode cX6_newFlow 70 = .ok (.iload_n 1, 1) := by decide +kernel
theorem dX6_newFlow_71 : decode cX6_newFlow 71 = .ok (.aload_n 0, 1) := by decide +kernel
theorem dX6_newFlow_72 : decode cX6_newFlow 72 = .ok (.getfield 12, 3) := by decide +kernel
theorem dX6_newFlow_75 : decode cX6_newFlow 75 = .ok (.iload_n 1, 1) := by decide +kernel
theorem dX6_newFlow_76 : decode cX6_newFlow 76 = .ok (.invokevirtual 99, 3) := by decide +kernel
theorem dX6_newFlow_79 : decode cX6_newFlow 79 = .ok (.aload_n 0, 1) := by decide +kernel
theorem dX6_newFlow_80 : decode cX6_newFlow 80 = .ok (.getfield 46, 3) := by decide +kernel
theorem dX6_newFlow_83 : decode cX6_newFlow 83 = .ok (.iload 5, 2) := by decide +kernel
theorem dX6_newFlow_85 : decode cX6_newFlow 85 = .ok (.invokevirtual 215, 3) := by decide +kernel
theorem dX6_newFlow_88 : decode cX6_newFlow 88 = .ok (.ireturn, 1) := by decide +kernel
theorem dX6_whyNoWay_0 : decode cX6_whyNoWay 0 = .ok (.iload_n 1, 1) := by decide +kernel
theorem dX6_whyNoWay_1 : decode cX6_whyNoWay 1 = .ok (.iconst 1, 1) := by decide +kernel
theorem dX6_whyNoWay_2 : decode cX6_whyNoWay 2 = .ok (.if_icmp .lt 8, 3) := by decide +kernel
theorem dX6_whyNoWay_5 : decode cX6_whyNoWay 5 = .ok (.iload_n 1, 1) := by decide +kernel
theorem dX6_whyNoWay_6 : decode cX6_whyNoWay 6 = .ok (.iconst 4, 1) := by decide +kernel
theorem dX6_whyNoWay_7 : decode cX6_whyNoWay 7 = .ok (.if_icmp .le 6, 3) := by decide +kernel
theorem dX6_whyNoWay_10 : decode cX6_whyNoWay 10 = .ok (.bipush (-2), 2) := by decide +kernel
theorem dX6_whyNoWay_12 : decode cX6_whyNoWay 12 = .ok (.ireturn, 1) := by decide +kernel
theorem dX6_whyNoWay_13 : decode cX6_whyNoWay 13 = .ok (.iconst 0, 1) := by decide +kernel
theorem dX6_whyNoWay_14 : decode cX6_whyNoWay 14 = .ok (.istore_n 2, 1) := by decide +kernel
theorem dX6_whyNoWay_15 : decode cX6_whyNoWay 15 = .ok (.iload_n 2, 1) := by decide +kernel
theorem dX6_whyNoWay_16 : decode cX6_whyNoWay 16 = .ok (.iload_n 1, 1) := by decide +kernel
theorem dX6_whyNoWay_17 : decode cX6_whyNoWay 17 = .ok (.if_icmp .ge 24, 3) := by decide +kernel
theorem dX6_whyNoWay_20 : decode cX6_whyNoWay 20 = .ok (.aload_n 0, 1) := by decide +kernel
theorem dX6_whyNoWay_21 : decode cX6_whyNoWay 21 = .ok (.getfield 46, 3) := by decide +kernel
theorem dX6_whyNoWay_24 : decode cX6_whyNoWay 24 = .ok (.iload_n 2, 1) := by decide +kernel
theorem dX6_whyNoWay_25 : decode cX6_whyNoWay 25 = .ok (.iaload, 1) := by decide +kernel
theorem dX6_whyNoWay_26 : decode cX6_whyNoWay 26 = .ok (.iconst 5, 1) := by decide +kernel
theorem dX6_whyNoWay_27 : decode cX6_whyNoWay 27 = .ok (.invokestatic 68, 3) := by decide +kernel
theorem dX6_whyNoWay_30 : decode cX6_whyNoWay 30 = .ok (.ifCond .ne 5, 3) := by decide +kernel
theorem dX6_whyNoWay_33 : decode cX6_whyNoWay 33 = .ok (.iconst (-1), 1) := by decide +kernel
theorem dX6_whyNoWay_34 : decode cX6_whyNoWay 34 = .ok (.ireturn, 1) := by decide +kernel
theorem dX6_whyNoWay_35 : decode cX6_whyNoWay 35 = .ok (.iinc 2 1, 3) := by decide +kernel
theorem dX6_whyNoWay_38 : decode cX6_whyNoWay 38 = .ok (.goto (-23), 3) := by decide +kernel
theorem dX6_whyNoWay_41 : decode cX6_whyNoWay 41 = .ok (.iconst 1, 1) := by decide +kernel
theorem dX6_whyNoWay_42 : decode cX6_whyNoWay 42 = .ok (.istore_n 2, 1) := by decide +kernel
theorem dX6_whyNoWay_43 : decode cX6_whyNoWay 43 = .ok (.iload_n 2, 1) := by decide +kernel
theorem dX6_whyNoWay_44 : decode cX6_whyNoWay 44 = .ok (.iload_n 1, 1) := by decide +kernel
theorem dX6_whyNoWay_45 : decode cX6_whyNoWay 45 = .ok (.if_icmp .ge 40, 3) := by decide +kernel
theorem dX6_whyNoWay_48 : decode cX6_whyNoWay 48 = .ok (.iconst 0, 1) := by decide +kernel
theorem dX6_whyNoWay_49 : decode cX6_whyNoWay 49 = .ok (.istore_n 3, 1) := by decide +kernel
theorem dX6_whyNoWay_50 : decode cX6_whyNoWay 50 = .ok (.iload_n 3, 1) := by decide +kernel
theorem dX6_whyNoWay_51 : decode cX6_whyNoWay 51 = .ok (.iload_n 2, 1) := by decide +kernel
theorem dX6_whyNoWay_52 : decode cX6_whyNoWay 52 = .ok (.if_icmp .ge 27, 3) := by decide +kernel
theorem dX6_whyNoWay_55 : decode cX6_whyNoWay 55 = .ok (.aload_n 0, 1) := by decide +kernel
theorem dX6_whyNoWay_56 : decode cX6_whyNoWay 56 = .ok (.getfield 46, 3) := by decide +kernel
theorem dX6_whyNoWay_59 : decode cX6_whyNoWay 59 = .ok (.iload_n 3, 1) := by decide +kernel
theorem dX6_whyNoWay_60 : decode cX6_whyNoWay 60 = .ok (.iaload, 1) := by decide +kernel
theorem dX6_whyNoWay_61 : decode cX6_whyNoWay 61 = .ok (.aload_n 0, 1) := by decide +kernel
theorem dX6_whyNoWay_62 : decode cX6_whyNoWay 62 = .ok (.getfield 46, 3) := by decide +kernel
theorem dX6_whyNoWay_65 : decode cX6_whyNoWay 65 = .ok (.iload_n 2, 1) := by decide +kernel
theorem dX6_whyNoWay_66 : decode cX6_whyNoWay 66 = .ok (.iaload, 1) := by decide +kernel
theorem dX6_whyNoWay_67 : decode cX6_whyNoWay 67 = .ok (.if_icmp .ne 6, 3) := by decide +kernel
theorem dX6_whyNoWay_70 : decode cX6_whyNoWay 70 = .ok (.bipush (-3), 2) := by decide +kernel
theorem dX6_whyNoWay_72 : decode cX6_whyNoWay 72 = .ok (.ireturn, 1) := by decide +kernel
theorem dX6_whyNoWay_73 : decode cX6_whyNoWay 73 = .ok (.iinc 3 1, 3) := by decide +kernel
theorem dX6_whyNoWay_76 : decode cX6_whyNoWay 76 = .ok (.goto (-26), 3) := by decide +kernel
theorem dX6_whyNoWay_79 : decode cX6_whyNoWay 79 = .ok (.iinc 2 1, 3) := by decide +kernel
theorem dX6_whyNoWay_82 : decode cX6_whyNoWay 82 = .ok (.goto (-39), 3) := by decide +kernel
theorem dX6_whyNoWay_85 : decode cX6_whyNoWay 85 = .ok (.iconst 0, 1) := by decide +kernel
theorem dX6_whyNoWay_86 : decode cX6_whyNoWay 86 = .ok (.ireturn, 1) := by decide +kernel
theorem dX6_see_0 : decode cX6_see 0 = .ok (.aload_n 0, 1) := by decide +kernel
theorem dX6_see_1 : decode cX6_see 1 = .ok (.aload_n 0, 1) := by decide +kernel
theorem dX6_see_2 : decode cX6_see 2 = .ok (.iload_n 1, 1) := by decide +kernel
theorem dX6_see_3 : decode cX6_see 3 = .ok (.iload_n 2, 1) := by decide +kernel
theorem dX6_see_4 : decode cX6_see 4 = .ok (.iload_n 3, 1) := by decide +kernel
theorem dX6_see_5 : decode cX6_see 5 = .ok (.iload 4, 2) := by decide +kernel
theorem dX6_see_7 : decode cX6_see 7 = .ok (.invokevirtual 219, 3) := by decide +kernel
theorem dX6_see_10 : decode cX6_see 10 = .ok (.invokevirtual 64, 3) := by decide +kernel
theorem dX6_see_13 : decode cX6_see 13 = .ok (.ireturn, 1) := by decide +kernel
theorem dX6_keeps_0 : decode cX6_keeps 0 = .ok (.aload_n 0, 1) := by decide +kernel
theorem dX6_keeps_1 : decode cX6_keeps 1 = .ok (.getfield 12, 3) := by decide +kernel
theorem dX6_keeps_4 : decode cX6_keeps 4 = .ok (.iload_n 1, 1) := by decide +kernel
theorem dX6_keeps_5 : decode cX6_keeps 5 = .ok (.invokevirtual 95, 3) := by decide +kernel
theorem dX6_keeps_8 : decode cX6_keeps 8 = .ok (.ifCond .ne 5, 3) := by decide +kernel
theorem dX6_keeps_11 : decode cX6_keeps 11 = .ok (.iconst (-1), 1) := by decide +kernel
theorem dX6_keeps_12 : decode cX6_keeps 12 = .ok (.ireturn, 1) := by decide +kernel
theorem dX6_keeps_13 : decode cX6_keeps 13 = .ok (.iload_n 2, 1) := by decide +kernel
theorem dX6_keeps_14 : decode cX6_keeps 14 = .ok (.iconst 1, 1) := by decide +kernel
theorem dX6_keeps_15 : decode cX6_keeps 15 = .ok (.invokestatic 68, 3) := by decide +kernel
theorem dX6_keeps_18 : decode cX6_keeps 18 = .ok (.ifCond .ne 6, 3) := by decide +kernel
theorem dX6_keeps_21 : decode cX6_keeps 21 = .ok (.bipush (-2), 2) := by decide +kernel
theorem dX6_keeps_23 : decode cX6_keeps 23 = .ok (.ireturn, 1) := by decide +kernel
theorem dX6_keeps_24 : decode cX6_keeps 24 = .ok (.aload_n 0, 1) := by decide +kernel
theorem dX6_keeps_25 : decode cX6_keeps 25 = .ok (.getfield 28, 3) := by decide +kernel
theorem dX6_keeps_28 : decode cX6_keeps 28 = .ok (.getfield 222, 3) := by decide +kernel
theorem dX6_keeps_31 : decode cX6_keeps 31 = .ok (.ifCond .ne 6, 3) := by decide +kernel
theorem dX6_keeps_34 : decode cX6_keeps 34 = .ok (.bipush (-3), 2) := by decide +kernel
theorem dX6_keeps_36 : decode cX6_keeps 36 = .ok (.ireturn, 1) := by decide +kernel
theorem dX6_keeps_37 : decode cX6_keeps 37 = .ok (.aload_n 0, 1) := by decide +kernel
theorem dX6_keeps_38 : decode cX6_keeps 38 = .ok (.getfield 28, 3) := by decide +kernel
theorem dX6_keeps_41 : decode cX6_keeps 41 = .ok (.aload_n 0, 1) := by decide +kernel
theorem dX6_keeps_42 : decode cX6_keeps 42 = .ok (.getfield 12, 3) := by decide +kernel
theorem dX6_keeps_45 : decode cX6_keeps 45 = .ok (.iload_n 1, 1) := by decide +kernel
theorem dX6_keeps_46 : decode cX6_keeps 46 = .ok (.invokevirtual 99, 3) := by decide +kernel
theorem dX6_keeps_49 : decode cX6_keeps 49 = .ok (.invokevirtual 225, 3) := by decide +kernel
theorem dX6_keeps_52 : decode cX6_keeps 52 = .ok (.istore_n 3, 1) := by decide +kernel
theorem dX6_keeps_53 : decode cX6_keeps 53 = .ok (.iload_n 2, 1) := by decide +kernel
theorem dX6_keeps_54 : decode cX6_keeps 54 = .ok (.iconst 1, 1) := by decide +kernel
theorem dX6_keeps_55 : decode cX6_keeps 55 = .ok (.if_icmp .ne 5, 3) := by decide +kernel
theorem dX6_keeps_58 : decode cX6_keeps 58 = .ok (.iload_n 3, 1) := by decide +kernel
theorem dX6_keeps_59 : decode cX6_keeps 59 = .ok (.ireturn, 1) := by decide +kernel
theorem dX6_keeps_60 : decode cX6_keeps 60 = .ok (.iload_n 3, 1) := by decide +kernel
theorem dX6_keeps_61 : decode cX6_keeps 61 = .ok (.bipush (-9), 2) := by decide +kernel
theorem dX6_keeps_63 : decode cX6_keeps 63 = .ok (.if_icmp .ne 7, 3) := by decide +kernel
theorem dX6_keeps_66 : decode cX6_keeps 66 = .ok (.iconst 1, 1) := by decide +kernel
theorem dX6_keeps_67 : decode cX6_keeps 67 = .ok (.goto 4, 3) := by decide +kernel
theorem dX6_keeps_70 : decode cX6_keeps 70 = .ok (.iconst 0, 1) := by decide +kernel
theorem dX6_keeps_71 : decode cX6_keeps 71 = .ok (.ireturn, 1) := by decide +kernel
theorem dX6_burst_0 : decode cX6_burst 0 = .ok (.iload_n 1, 1) := by decide +kernel
theorem dX6_burst_1 : decode cX6_burst 1 = .ok (.sipush 999, 3) := by decide +kernel
theorem dX6_burst_4 : decode cX6_burst 4 = .ok (.invokestatic 68, 3) := by decide +kernel
theorem dX6_burst_7 : decode cX6_burst 7 = .ok (.ifCond .ne 6, 3) := by decide +kernel
theorem dX6_burst_10 : decode cX6_burst 10 = .ok (.bipush (-2), 2) := by decide +kernel
theorem dX6_burst_12 : decode cX6_burst 12 = .ok (.ireturn, 1) := by decide +kernel
theorem dX6_burst_13 : decode cX6_burst 13 = .ok (.aload_n 0, 1) := by decide +kernel
theorem dX6_burst_14 : decode cX6_burst 14 = .ok (.getfield 28, 3) := by decide +kernel
theorem dX6_burst_17 : decode cX6_burst 17 = .ok (.getfield 222, 3) := by decide +kernel
theorem dX6_burst_20 : decode cX6_burst 20 = .ok (.ifCond .ne 6, 3) := by decide +kernel
theorem dX6_burst_23 : decode cX6_burst 23 = .ok (.bipush (-3), 2) := by decide +kernel
theorem dX6_burst_25 : decode cX6_burst 25 = .ok (.ireturn, 1) := by decide +kernel
theorem dX6_burst_26 : decode cX6_burst 26 = .ok (.aload_n 0, 1) := by decide +kernel
theorem dX6_burst_27 : decode cX6_burst 27 = .ok (.getfield 28, 3) := by decide +kernel
theorem dX6_burst_30 : decode cX6_burst 30 = .ok (.iload_n 1, 1) := by decide +kernel
theorem dX6_burst_31 : decode cX6_burst 31 = .ok (.invokevirtual 229, 3) := by decide +kernel
theorem dX6_burst_34 : decode cX6_burst 34 = .ok (.ireturn, 1) := by decide +kernel
theorem dX6_shape_0 : decode cX6_shape 0 = .ok (.aload_n 0, 1) := by decide +kernel
theorem dX6_shape_1 : decode cX6_shape 1 = .ok (.getfield 12, 3) := by decide +kernel
theorem dX6_shape_4 : decode cX6_shape 4 = .ok (.iload_n 1, 1) := by decide +kernel
theorem dX6_shape_5 : decode cX6_shape 5 = .ok (.invokevirtual 95, 3) := by decide +kernel
theorem dX6_shape_8 : decode cX6_shape 8 = .ok (.ifCond .ne 5, 3) := by decide +kernel
theorem dX6_shape_11 : decode cX6_shape 11 = .ok (.iconst (-1), 1) := by decide +kernel
theorem dX6_shape_12 : decode cX6_shape 12 = .ok (.ireturn, 1) := by decide +kernel
theorem dX6_shape_13 : decode cX6_shape 13 = .ok (.iload_n 2, 1) := by decide +kernel
theorem dX6_shape_14 : decode cX6_shape 14 = .ok (.bipush 100, 2) := by decide +kernel
theorem dX6_shape_16 : decode cX6_shape 16 = .ok (.if_icmp .lt 14, 3) := by decide +kernel
theorem dX6_shape_19 : decode cX6_shape 19 = .ok (.iload_n 2, 1) := by decide +kernel
theorem dX6_shape_20 : decode cX6_shape 20 = .ok (.sipush 140, 3) := by decide +kernel
theorem dX6_shape_23 : decode cX6_shape 23 = .ok (.if_icmp .gt 7, 3) := by decide +kernel
theorem dX6_shape_26 : decode cX6_shape 26 = .ok (.iconst 1, 1) := by decide +kernel
theorem dX6_shape_27 : decode cX6_shape 27 = .ok (.goto 4, 3) := by decide +kernel
theorem dX6_shape_30 : decode cX6_shape 30 = .ok (.iconst 0, 1) := by decide +kernel
theorem dX6_shape_31 : decode cX6_shape 31 = .ok (.istore_n 3, 1) := by decide +kernel
theorem dX6_shape_32 : decode cX6_shape 32 = .ok (.iload_n 3, 1) := by decide +kernel
theorem dX6_shape_33 : decode cX6_shape 33 = .ok (.ifCond .ne 14, 3) := by decide +kernel
theorem dX6_shape_36 : decode cX6_shape 36 = .ok (.iload_n 2, 1) := by decide +kernel
theorem dX6_shape_37 : decode cX6_shape 37 = .ok (.iconst 1, 1) := by decide +kernel
theorem dX6_shape_38 : decode cX6_shape 38 = .ok (.invokestatic 68, 3) := by decide +kernel
theorem dX6_shape_41 : decode cX6_shape 41 = .ok (.ifCond .ne 6, 3) := by decide +kernel
theorem dX6_shape_44 : decode cX6_shape 44 = .ok (.bipush (-2), 2) := by decide +kernel
theorem dX6_shape_46 : decode cX6_shape 46 = .ok (.ireturn, 1) := by decide +kernel
theorem dX6_shape_47 : decode cX6_shape 47 = .ok (.aload_n 0, 1) := by decide +kernel
theorem dX6_shape_48 : decode cX6_shape 48 = .ok (.getfield 28, 3) := by decide +kernel
theorem dX6_shape_51 : decode cX6_shape 51 = .ok (.getfield 222, 3) := by decide +kernel
theorem dX6_shape_54 : decode cX6_shape 54 = .ok (.ifCond .ne 6, 3) := by decide +kernel
theorem dX6_shape_57 : decode cX6_shape 57 = .ok (.bipush (-3), 2) := by decide +kernel
theorem dX6_shape_59 : decode cX6_shape 59 = .ok (.ireturn, 1) := by decide +kernel
theorem dX6_shape_60 : decode cX6_shape 60 = .ok (.aload_n 0, 1) := by decide +kernel
theorem dX6_shape_61 : decode cX6_shape 61 = .ok (.getfield 28, 3) := by decide +kernel
theorem dX6_shape_64 : decode cX6_shape 64 = .ok (.aload_n 0, 1) := by decide +kernel
theorem dX6_shape_65 : decode cX6_shape 65 = .ok (.getfield 12, 3) := by decide +kernel
theorem dX6_shape_68 : decode cX6_shape 68 = .ok (.iload_n 1, 1) := by decide +kernel
theorem dX6_shape_69 : decode cX6_shape 69 = .ok (.invokevirtual 99, 3) := by decide +kernel
theorem dX6_shape_72 : decode cX6_shape 72 = .ok (.invokevirtual 232, 3) := by decide +kernel
theorem dX6_shape_75 : decode cX6_shape 75 = .ok (.iload_n 3, 1) := by decide +kernel
theorem dX6_shape_76 : decode cX6_shape 76 = .ok (.ifCond .eq 16, 3) := by decide +kernel
theorem dX6_shape_79 : decode cX6_shape 79 = .ok (.aload_n 0, 1) := by decide +kernel
theorem dX6_shape_80 : decode cX6_shape 80 = .ok (.getfield 28, 3) := by decide +kernel
theorem dX6_shape_83 : decode cX6_shape 83 = .ok (.getfield 236, 3) := by decide +kernel
theorem dX6_shape_86 : decode cX6_shape 86 = .ok (.iload_n 2, 1) := by decide +kernel
theorem dX6_shape_87 : decode cX6_shape 87 = .ok (.bipush 100, 2) := by decide +kernel
theorem dX6_shape_89 : decode cX6_shape 89 = .ok (.isub, 1) := by decide +kernel
theorem dX6_shape_90 : decode cX6_shape 90 = .ok (.iaload, 1) := by decide +kernel
theorem dX6_shape_91 : decode cX6_shape 91 = .ok (.ireturn, 1) := by decide +kernel
theorem dX6_shape_92 : decode cX6_shape 92 = .ok (.iload_n 2, 1) := by decide +kernel
theorem dX6_shape_93 : decode cX6_shape 93 = .ok (.ifCond .ne 13, 3) := by decide +kernel
theorem dX6_shape_96 : decode cX6_shape 96 = .ok (.aload_n 0, 1) := by decide +kernel
theorem dX6_shape_97 : decode cX6_shape 97 = .ok (.getfield 28, 3) := by decide +kernel
theorem dX6_shape_100 : decode cX6_shape 100 = .ok (.invokevirtual 239, 3) := by decide +kernel
theorem dX6_shape_103 : decode cX6_shape 103 = .ok (.goto 10, 3) := by decide +kernel
theorem dX6_shape_106 : decode cX6_shape 106 = .ok (.aload_n 0, 1) := by decide +kernel
theorem dX6_shape_107 : decode cX6_shape 107 = .ok (.getfield 28, 3) := by decide +kernel
theorem dX6_shape_110 : decode cX6_shape 110 = .ok (.invokevirtual 243, 3) := by decide +kernel
theorem dX6_shape_113 : decode cX6_shape 113 = .ok (.ireturn, 1) := by decide +kernel
theorem dX6_letIn_0 : decode cX6_letIn 0 = .ok (.aload_n 0, 1) := by decide +kernel
theorem dX6_letIn_1 : decode cX6_letIn 1 = .ok (.getfield 12, 3) := by decide +kernel
theorem dX6_letIn_4 : decode cX6_letIn 4 = .ok (.iload_n 1, 1) := by decide +kernel
theorem dX6_letIn_5 : decode cX6_letIn 5 = .ok (.invokevirtual 95, 3) := by decide +kernel
theorem dX6_letIn_8 : decode cX6_letIn 8 = .ok (.ifCond .eq 14, 3) := by decide +kernel
theorem dX6_letIn_11 : decode cX6_letIn 11 = .ok (.aload_n 0, 1) := by decide +kernel
theorem dX6_letIn_12 : decode cX6_letIn 12 = .ok (.getfield 12, 3) := by decide +kernel
theorem dX6_letIn_15 : decode cX6_letIn 15 = .ok (.iload_n 2, 1) := by decide +kernel
theorem dX6_letIn_16 : decode cX6_letIn 16 = .ok (.invokevirtual 95, 3) := by decide +kernel
theorem dX6_letIn_19 : decode cX6_letIn 19 = .ok (.ifCond .ne 5, 3) := by decide +kernel
theorem dX6_letIn_22 : decode cX6_letIn 22 = .ok (.iconst (-1), 1) := by decide +kernel
theorem dX6_letIn_23 : decode cX6_letIn 23 = .ok (.ireturn, 1) := by decide +kernel
theorem dX6_letIn_24 : decode cX6_letIn 24 = .ok (.iload_n 3, 1) := by decide +kernel
theorem dX6_letIn_25 : decode cX6_letIn 25 = .ok (.bipush 40, 2) := by decide +kernel
theorem dX6_letIn_27 : decode cX6_letIn 27 = .ok (.invokestatic 68, 3) := by decide +kernel
theorem dX6_letIn_30 : decode cX6_letIn 30 = .ok (.ifCond .ne 6, 3) := by decide +kernel
theorem dX6_letIn_33 : decode cX6_letIn 33 = .ok (.bipush (-2), 2) := by decide +kernel
theorem dX6_letIn_35 : decode cX6_letIn 35 = .ok (.ireturn, 1) := by decide +kernel
theorem dX6_letIn_36 : decode cX6_letIn 36 = .ok (.aload_n 0, 1) := by decide +kernel
theorem dX6_letIn_37 : decode cX6_letIn 37 = .ok (.getfield 50, 3) := by decide +kernel
theorem dX6_letIn_40 : decode cX6_letIn 40 = .ok (.iconst 0, 1) := by decide +kernel
theorem dX6_letIn_41 : decode cX6_letIn 41 = .ok (.invokestatic 246, 3) := by decide +kernel
theorem dX6_letIn_44 : decode cX6_letIn 44 = .ok (.iconst 1, 1) := by decide +kernel
theorem dX6_letIn_45 : decode cX6_letIn 45 = .ok (.istore 4, 2) := by decide +kernel
theorem dX6_letIn_47 : decode cX6_letIn 47 = .ok (.iload 4, 2) := by decide +kernel
theorem dX6_letIn_49 : decode cX6_letIn 49 = .ok (.bipush 99, 2) := by decide +kernel
theorem dX6_letIn_51 : decode cX6_letIn 51 = .ok (.if_icmp .gt 65, 3) := by decide +kernel
theorem dX6_letIn_54 : decode cX6_letIn 54 = .ok (.aload_n 0, 1) := by decide +kernel
theorem dX6_letIn_55 : decode cX6_letIn 55 = .ok (.getfield 50, 3) := by decide +kernel
theorem dX6_letIn_58 : decode cX6_letIn 58 = .ok (.aload_n 0, 1) := by decide +kernel
theorem dX6_letIn_59 : decode cX6_letIn 59 = .ok (.getfield 12, 3) := by decide +kernel
theorem dX6_letIn_62 : decode cX6_letIn 62 = .ok (.iload_n 1, 1) := by decide +kernel
theorem dX6_letIn_63 : decode cX6_letIn 63 = .ok (.invokevirtual 99, 3) := by decide +kernel
theorem dX6_letIn_66 : decode cX6_letIn 66 = .ok (.aload_n 0, 1) := by decide +kernel
theorem dX6_letIn_67 : decode cX6_letIn 67 = .ok (.getfield 50, 3) := by decide +kernel
theorem dX6_letIn_70 : decode cX6_letIn 70 = .ok (.invokestatic 252, 3) := by decide +kernel
theorem dX6_letIn_73 : decode cX6_letIn 73 = .ok (.aload_n 0, 1) := by decide +kernel
theorem dX6_letIn_74 : decode cX6_letIn 74 = .ok (.getfield 50, 3) := by decide +kernel
theorem dX6_letIn_77 : decode cX6_letIn 77 = .ok (.aload_n 0, 1) := by decide +kernel
theorem dX6_letIn_78 : decode cX6_letIn 78 = .ok (.getfield 12, 3) := by decide +kernel
theorem dX6_letIn_81 : decode cX6_letIn 81 = .ok (.iload_n 2, 1) := by decide +kernel
theorem dX6_letIn_82 : decode cX6_letIn 82 = .ok (.invokevirtual 99, 3) := by decide +kernel
theorem dX6_letIn_85 : decode cX6_letIn 85 = .ok (.bipush 20, 2) := by decide +kernel
theorem dX6_letIn_87 : decode cX6_letIn 87 = .ok (.invokestatic 138, 3) := by decide +kernel
theorem dX6_letIn_90 : decode cX6_letIn 90 = .ok (.istore 5, 2) := by decide +kernel
theorem dX6_letIn_92 : decode cX6_letIn 92 = .ok (.iload 5, 2) := by decide +kernel
theorem dX6_letIn_94 : decode cX6_letIn 94 = .ok (.bipush (-9), 2) := by decide +kernel
theorem dX6_letIn_96 : decode cX6_letIn 96 = .ok (.if_icmp .eq 9, 3) := by decide +kernel
theorem dX6_letIn_99 : decode cX6_letIn 99 = .ok (.iload 5, 2) := by decide +kernel
theorem dX6_letIn_101 : decode cX6_letIn 101 = .ok (.iload_n 3, 1) := by decide +kernel
theorem dX6_letIn_102 : decode cX6_letIn 102 = .ok (.if_icmp .le 8, 3) := by decide +kernel
theorem dX6_letIn_105 : decode cX6_letIn 105 = .ok (.iload 4, 2) := by decide +kernel
theorem dX6_letIn_107 : decode cX6_letIn 107 = .ok (.iconst 1, 1) := by decide +kernel
theorem dX6_letIn_108 : decode cX6_letIn 108 = .ok (.isub, 1) := by decide +kernel
theorem dX6_letIn_109 : decode cX6_letIn 109 = .ok (.ireturn, 1) := by decide +kernel
theorem dX6_letIn_110 : decode cX6_letIn 110 = .ok (.iinc 4 1, 3) := by decide +kernel
theorem dX6_letIn_113 : decode cX6_letIn 113 = .ok (.goto (-66), 3) := by decide +kernel
theorem dX6_letIn_116 : decode cX6_letIn 116 = .ok (.bipush 99, 2) := by decide +kernel
theorem dX6_letIn_118 : decode cX6_letIn 118 = .ok (.ireturn, 1) := by decide +kernel
theorem dX6_seenOf_0 : decode cX6_seenOf 0 = .ok (.aload_n 0, 1) := by decide +kernel
theorem dX6_seenOf_1 : decode cX6_seenOf 1 = .ok (.getfield 35, 3) := by decide +kernel
theorem dX6_seenOf_4 : decode cX6_seenOf 4 = .ok (.iload_n 1, 1) := by decide +kernel
theorem dX6_seenOf_5 : decode cX6_seenOf 5 = .ok (.iload_n 2, 1) := by decide +kernel
theorem dX6_seenOf_6 : decode cX6_seenOf 6 = .ok (.iload_n 3, 1) := by decide +kernel
theorem dX6_seenOf_7 : decode cX6_seenOf 7 = .ok (.iload 4, 2) := by decide +kernel
theorem dX6_seenOf_9 : decode cX6_seenOf 9 = .ok (.aload_n 0, 1) := by decide +kernel
theorem dX6_seenOf_10 : decode cX6_seenOf 10 = .ok (.getfield 46, 3) := by decide +kernel
theorem dX6_seenOf_13 : decode cX6_seenOf 13 = .ok (.invokevirtual 103, 3) := by decide +kernel
theorem dX6_seenOf_16 : decode cX6_seenOf 16 = .ok (.istore 5, 2) := by decide +kernel
theorem dX6_seenOf_18 : decode cX6_seenOf 18 = .ok (.iload 5, 2) := by decide +kernel
theorem dX6_seenOf_20 : decode cX6_seenOf 20 = .ok (.ifCond .eq 6, 3) := by decide +kernel
theorem dX6_seenOf_23 : decode cX6_seenOf 23 = .ok (.iload 5, 2) := by decide +kernel
theorem dX6_seenOf_25 : decode cX6_seenOf 25 = .ok (.ireturn, 1) := by decide +kernel
theorem dX6_seenOf_26 : decode cX6_seenOf 26 = .ok (.aload_n 0, 1) := by decide +kernel
theorem dX6_seenOf_27 : decode cX6_seenOf 27 = .ok (.iload 4, 2) := by decide +kernel
theorem dX6_seenOf_29 : decode cX6_seenOf 29 = .ok (.invokevirtual 107, 3) := by decide +kernel
theorem dX6_seenOf_32 : decode cX6_seenOf 32 = .ok (.ifCond .ne 6, 3) := by decide +kernel
theorem dX6_seenOf_35 : decode cX6_seenOf 35 = .ok (.bipush (-2), 2) := by decide +kernel
theorem dX6_seenOf_37 : decode cX6_seenOf 37 = .ok (.ireturn, 1) := by decide +kernel
theorem dX6_seenOf_38 : decode cX6_seenOf 38 = .ok (.aload_n 0, 1) := by decide +kernel
theorem dX6_seenOf_39 : decode cX6_seenOf 39 = .ok (.getfield 28, 3) := by decide +kernel
theorem dX6_seenOf_42 : decode cX6_seenOf 42 = .ok (.aload_n 0, 1) := by decide +kernel
theorem dX6_seenOf_43 : decode cX6_seenOf 43 = .ok (.getfield 46, 3) := by decide +kernel
theorem dX6_seenOf_46 : decode cX6_seenOf 46 = .ok (.iload 4, 2) := by decide +kernel
theorem dX6_seenOf_48 : decode cX6_seenOf 48 = .ok (.invokevirtual 256, 3) := by decide +kernel
theorem dX6_seenOf_51 : decode cX6_seenOf 51 = .ok (.iload 4, 2) := by decide +kernel
theorem dX6_seenOf_53 : decode cX6_seenOf 53 = .ok (.ireturn, 1) := by decide +kernel
theorem dX6_sheet_0 : decode cX6_sheet 0 = .ok (.aload_n 0, 1) := by decide +kernel
theorem dX6_sheet_1 : decode cX6_sheet 1 = .ok (.aload_n 0, 1) := by decide +kernel
theorem dX6_sheet_2 : decode cX6_sheet 2 = .ok (.getfield 35, 3) := by decide +kernel
theorem dX6_sheet_5 : decode cX6_sheet 5 = .ok (.iload_n 1, 1) := by decide +kernel
theorem dX6_sheet_6 : decode cX6_sheet 6 = .ok (.iload_n 2, 1) := by decide +kernel
theorem dX6_sheet_7 : decode cX6_sheet 7 = .ok (.iload_n 3, 1) := by decide +kernel
theorem dX6_sheet_8 : decode cX6_sheet 8 = .ok (.invokevirtual 259, 3) := by decide +kernel
theorem dX6_sheet_11 : decode cX6_sheet 11 = .ok (.invokevirtual 64, 3) := by decide +kernel
theorem dX6_sheet_14 : decode cX6_sheet 14 = .ok (.ireturn, 1) := by decide +kernel
theorem dX6_lose_0 : decode cX6_lose 0 = .ok (.aload_n 0, 1) := by decide +kernel
theorem dX6_lose_1 : decode cX6_lose 1 = .ok (.getfield 35, 3) := by decide +kernel
theorem dX6_lose_4 : decode cX6_lose 4 = .ok (.iload_n 1, 1) := by decide +kernel
theorem dX6_lose_5 : decode cX6_lose 5 = .ok (.invokevirtual 263, 3) := by decide +kernel
theorem dX6_lose_8 : decode cX6_lose 8 = .ok (.ifCond .ne 5, 3) := by decide +kernel
theorem dX6_lose_11 : decode cX6_lose 11 = .ok (.iconst (-1), 1) := by decide +kernel
theorem dX6_lose_12 : decode cX6_lose 12 = .ok (.ireturn, 1) := by decide +kernel
theorem dX6_lose_13 : decode cX6_lose 13 = .ok (.aload_n 0, 1) := by decide +kernel
theorem dX6_lose_14 : decode cX6_lose 14 = .ok (.getfield 35, 3) := by decide +kernel
theorem dX6_lose_17 : decode cX6_lose 17 = .ok (.iload_n 1, 1) := by decide +kernel
theorem dX6_lose_18 : decode cX6_lose 18 = .ok (.invokevirtual 264, 3) := by decide +kernel
theorem dX6_lose_21 : decode cX6_lose 21 = .ok (.ireturn, 1) := by decide +kernel
theorem dX6_put_0 : decode cX6_put 0 = .ok (.aload_n 0, 1) := by decide +kernel
theorem dX6_put_1 : decode cX6_put 1 = .ok (.aload_n 0, 1) := by decide +kernel
theorem dX6_put_2 : decode cX6_put 2 = .ok (.getfield 35, 3) := by decide +kernel
theorem dX6_put_5 : decode cX6_put 5 = .ok (.iload_n 1, 1) := by decide +kernel
theorem dX6_put_6 : decode cX6_put 6 = .ok (.iload_n 2, 1) := by decide +kernel
theorem dX6_put_7 : decode cX6_put 7 = .ok (.iload_n 3, 1) := by decide +kernel
theorem dX6_put_8 : decode cX6_put 8 = .ok (.invokevirtual 267, 3) := by decide +kernel
theorem dX6_put_11 : decode cX6_put 11 = .ok (.invokevirtual 64, 3) := by decide +kernel
theorem dX6_put_14 : decode cX6_put 14 = .ok (.ireturn, 1) := by decide +kernel
theorem dX6_cell_0 : decode cX6_cell 0 = .ok (.aload_n 0, 1) := by decide +kernel
theorem dX6_cell_1 : decode cX6_cell 1 = .ok (.aload_n 0, 1) := by decide +kernel
theorem dX6_cell_2 : decode cX6_cell 2 = .ok (.getfield 35, 3) := by decide +kernel
theorem dX6_cell_5 : decode cX6_cell 5 = .ok (.iload_n 1, 1) := by decide +kernel
theorem dX6_cell_6 : decode cX6_cell 6 = .ok (.iload_n 2, 1) := by decide +kernel
theorem dX6_cell_7 : decode cX6_cell 7 = .ok (.iload_n 3, 1) := by decide +kernel
theorem dX6_cell_8 : decode cX6_cell 8 = .ok (.invokevirtual 270, 3) := by decide +kernel
theorem dX6_cell_11 : decode cX6_cell 11 = .ok (.invokevirtual 64, 3) := by decide +kernel
theorem dX6_cell_14 : decode cX6_cell 14 = .ok (.istore 4, 2) := by decide +kernel
theorem dX6_cell_16 : decode cX6_cell 16 = .ok (.iload 4, 2) := by decide +kernel
theorem dX6_cell_18 : decode cX6_cell 18 = .ok (.ifCond .ne 18, 3) := by decide +kernel
theorem dX6_cell_21 : decode cX6_cell 21 = .ok (.aload_n 0, 1) := by decide +kernel
theorem dX6_cell_22 : decode cX6_cell 22 = .ok (.getfield 35, 3) := by decide +kernel
theorem dX6_cell_25 : decode cX6_cell 25 = .ok (.getfield 273, 3) := by decide +kernel
theorem dX6_cell_28 : decode cX6_cell 28 = .ok (.iload_n 1, 1) := by decide +kernel
theorem dX6_cell_29 : decode cX6_cell 29 = .ok (.aaload, 1) := by decide +kernel
theorem dX6_cell_30 : decode cX6_cell 30 = .ok (.iload_n 2, 1) := by decide +kernel
theorem dX6_cell_31 : decode cX6_cell 31 = .ok (.iaload, 1) := by decide +kernel
theorem dX6_cell_32 : decode cX6_cell 32 = .ok (.i2l, 1) := by decide +kernel
theorem dX6_cell_33 : decode cX6_cell 33 = .ok (.goto 6, 3) := by decide +kernel
theorem dX6_cell_36 : decode cX6_cell 36 = .ok (.ldc2_w 276, 3) := by decide +kernel
theorem dX6_cell_39 : decode cX6_cell 39 = .ok (.lreturn, 1) := by decide +kernel
theorem dX6_copy_0 : decode cX6_copy 0 = .ok (.aload_n 0, 1) := by decide +kernel
theorem dX6_copy_1 : decode cX6_copy 1 = .ok (.aload_n 0, 1) := by decide +kernel
theorem dX6_copy_2 : decode cX6_copy 2 = .ok (.getfield 35, 3) := by decide +kernel
theorem dX6_copy_5 : decode cX6_copy 5 = .ok (.iload_n 1, 1) := by decide +kernel
theorem dX6_copy_6 : decode cX6_copy 6 = .ok (.iload_n 2, 1) := by decide +kernel
theorem dX6_copy_7 : decode cX6_copy 7 = .ok (.iload_n 3, 1) := by decide +kernel
theorem dX6_copy_8 : decode cX6_copy 8 = .ok (.iload 4, 2) := by decide +kernel
theorem dX6_copy_10 : decode cX6_copy 10 = .ok (.iload 5, 2) := by decide +kernel
theorem dX6_copy_12 : decode cX6_copy 12 = .ok (.invokevirtual 278, 3) := by decide +kernel
theorem dX6_copy_15 : decode cX6_copy 15 = .ok (.invokevirtual 64, 3) := by decide +kernel
theorem dX6_copy_18 : decode cX6_copy 18 = .ok (.ireturn, 1) := by decide +kernel
theorem dX6_tell_0 : decode cX6_tell 0 = .ok (.aload_n 0, 1) := by decide +kernel
theorem dX6_tell_1 : decode cX6_tell 1 = .ok (.getfield 12, 3) := by decide +kernel
theorem dX6_tell_4 : decode cX6_tell 4 = .ok (.iload_n 1, 1) := by decide +kernel
theorem dX6_tell_5 : decode cX6_tell 5 = .ok (.invokevirtual 95, 3) := by decide +kernel
theorem dX6_tell_8 : decode cX6_tell 8 = .ok (.ifCond .ne 5, 3) := by decide +kernel
theorem dX6_tell_11 : decode cX6_tell 11 = .ok (.iconst (-1), 1) := by decide +kernel
theorem dX6_tell_12 : decode cX6_tell 12 = .ok (.ireturn, 1) := by decide +kernel
theorem dX6_tell_13 : decode cX6_tell 13 = .ok (.aload_n 0, 1) := by decide +kernel
theorem dX6_tell_14 : decode cX6_tell 14 = .ok (.getfield 12, 3) := by decide +kernel
theorem dX6_tell_17 : decode cX6_tell 17 = .ok (.getfield 281, 3) := by decide +kernel
theorem dX6_tell_20 : decode cX6_tell 20 = .ok (.iload_n 1, 1) := by decide +kernel
theorem dX6_tell_21 : decode cX6_tell 21 = .ok (.iaload, 1) := by decide +kernel
theorem dX6_tell_22 : decode cX6_tell 22 = .ok (.istore_n 2, 1) := by decide +kernel
theorem dX6_tell_23 : decode cX6_tell 23 = .ok (.iload_n 2, 1) := by decide +kernel
theorem dX6_tell_24 : decode cX6_tell 24 = .ok (.iconst 2, 1) := by decide +kernel
theorem dX6_tell_25 : decode cX6_tell 25 = .ok (.if_icmp .ne 9, 3) := by decide +kernel
theorem dX6_tell_28 : decode cX6_tell 28 = .ok (.aload_n 0, 1) := by decide +kernel
theorem dX6_tell_29 : decode cX6_tell 29 = .ok (.iload_n 1, 1) := by decide +kernel
theorem dX6_tell_30 : decode cX6_tell 30 = .ok (.invokevirtual 284, 3) := by decide +kernel
theorem dX6_tell_33 : decode cX6_tell 33 = .ok (.ireturn, 1) := by decide +kernel
theorem dX6_tell_34 : decode cX6_tell 34 = .ok (.iload_n 2, 1) := by decide +kernel
theorem dX6_tell_35 : decode cX6_tell 35 = .ok (.iconst 1, 1) := by decide +kernel
theorem dX6_tell_36 : decode cX6_tell 36 = .ok (.if_icmp .ne 11, 3) := by decide +kernel
theorem dX6_tell_39 : decode cX6_tell 39 = .ok (.aload_n 0, 1) := by decide +kernel
theorem dX6_tell_40 : decode cX6_tell 40 = .ok (.iload_n 1, 1) := by decide +kernel
theorem dX6_tell_41 : decode cX6_tell 41 = .ok (.invokevirtual 287, 3) := by decide +kernel
theorem dX6_tell_44 : decode cX6_tell 44 = .ok (.goto 8, 3) := by decide +kernel
theorem dX6_tell_47 : decode cX6_tell 47 = .ok (.aload_n 0, 1) := by decide +kernel
theorem dX6_tell_48 : decode cX6_tell 48 = .ok (.iload_n 1, 1) := by decide +kernel
theorem dX6_tell_49 : decode cX6_tell 49 = .ok (.invokevirtual 290, 3) := by decide +kernel
theorem dX6_tell_52 : decode cX6_tell 52 = .ok (.ireturn, 1) := by decide +kernel
theorem dX6_draw_0 : decode cX6_draw 0 = .ok (.aload_n 0, 1) := by decide +kernel
theorem dX6_draw_1 : decode cX6_draw 1 = .ok (.getfield 12, 3) := by decide +kernel
theorem dX6_draw_4 : decode cX6_draw 4 = .ok (.iload_n 1, 1) := by decide +kernel
theorem dX6_draw_5 : decode cX6_draw 5 = .ok (.invokevirtual 95, 3) := by decide +kernel
theorem dX6_draw_8 : decode cX6_draw 8 = .ok (.ifCond .ne 5, 3) := by decide +kernel
theorem dX6_draw_11 : decode cX6_draw 11 = .ok (.iconst (-1), 1) := by decide +kernel
theorem dX6_draw_12 : decode cX6_draw 12 = .ok (.ireturn, 1) := by decide +kernel
theorem dX6_draw_13 : decode cX6_draw 13 = .ok (.aload_n 0, 1) := by decide +kernel
theorem dX6_draw_14 : decode cX6_draw 14 = .ok (.getfield 12, 3) := by decide +kernel
theorem dX6_draw_17 : decode cX6_draw 17 = .ok (.getfield 281, 3) := by decide +kernel
theorem dX6_draw_20 : decode cX6_draw 20 = .ok (.iload_n 1, 1) := by decide +kernel
theorem dX6_draw_21 : decode cX6_draw 21 = .ok (.iaload, 1) := by decide +kernel
theorem dX6_draw_22 : decode cX6_draw 22 = .ok (.iconst 2, 1) := by decide +kernel
theorem dX6_draw_23 : decode cX6_draw 23 = .ok (.if_icmp .ne 11, 3) := by decide +kernel
theorem dX6_draw_26 : decode cX6_draw 26 = .ok (.aload_n 0, 1) := by decide +kernel
theorem dX6_draw_27 : decode cX6_draw 27 = .ok (.iconst 5, 1) := by decide +kernel
theorem dX6_draw_28 : decode cX6_draw 28 = .ok (.invokevirtual 293, 3) := by decide +kernel
theorem dX6_draw_31 : decode cX6_draw 31 = .ok (.bipush 60, 2) := by decide +kernel
theorem dX6_draw_33 : decode cX6_draw 33 = .ok (.ireturn, 1) := by decide +kernel
theorem dX6_draw_34 : decode cX6_draw 34 = .ok (.aload_n 0, 1) := by decide +kernel
theorem dX6_draw_35 : decode cX6_draw 35 = .ok (.iconst 4, 1) := by decide +kernel
theorem dX6_draw_36 : decode cX6_draw 36 = .ok (.invokevirtual 293, 3) := by decide +kernel
theorem dX6_draw_39 : decode cX6_draw 39 = .ok (.iload_n 1, 1) := by decide +kernel
theorem dX6_draw_40 : decode cX6_draw 40 = .ok (.ireturn, 1) := by decide +kernel
theorem dX6_as_0 : decode cX6_as 0 = .ok (.aload_n 0, 1) := by decide +kernel
theorem dX6_as_1 : decode cX6_as 1 = .ok (.aload_n 0, 1) := by decide +kernel
theorem dX6_as_2 : decode cX6_as 2 = .ok (.iload_n 1, 1) := by decide +kernel
theorem dX6_as_3 : decode cX6_as 3 = .ok (.iload_n 2, 1) := by decide +kernel
theorem dX6_as_4 : decode cX6_as 4 = .ok (.invokevirtual 296, 3) := by decide +kernel
theorem dX6_as_7 : decode cX6_as 7 = .ok (.invokevirtual 64, 3) := by decide +kernel
theorem dX6_as_10 : decode cX6_as 10 = .ok (.ireturn, 1) := by decide +kernel
theorem dX6_trace_0 : decode cX6_trace 0 = .ok (.aload_n 0, 1) := by decide +kernel
theorem dX6_trace_1 : decode cX6_trace 1 = .ok (.getfield 53, 3) := by decide +kernel
theorem dX6_trace_4 : decode cX6_trace 4 = .ok (.ireturn, 1) := by decide +kernel
theorem dX6_fault_0 : decode cX6_fault 0 = .ok (.aload_n 0, 1) := by decide +kernel
theorem dX6_fault_1 : decode cX6_fault 1 = .ok (.getfield 57, 3) := by decide +kernel
theorem dX6_fault_4 : decode cX6_fault 4 = .ok (.ireturn, 1) := by decide +kernel
theorem dX6_many_0 : decode cX6_many 0 = .ok (.iload_n 1, 1) := by decide +kernel
theorem dX6_many_1 : decode cX6_many 1 = .ok (.tableswitch 63 0 3 #[31, 39, 47, 55], 31) := by decide +kernel
theorem dX6_many_32 : decode cX6_many 32 = .ok (.aload_n 0, 1) := by decide +kernel
theorem dX6_many_33 : decode cX6_many 33 = .ok (.getfield 12, 3) := by decide +kernel
theorem dX6_many_36 : decode cX6_many 36 = .ok (.getfield 299, 3) := by decide +kernel
theorem dX6_many_39 : decode cX6_many 39 = .ok (.ireturn, 1) := by decide +kernel
theorem dX6_many_40 : decode cX6_many 40 = .ok (.aload_n 0, 1) := by decide +kernel
theorem dX6_many_41 : decode cX6_many 41 = .ok (.getfield 21, 3) := by decide +kernel
theorem dX6_many_44 : decode cX6_many 44 = .ok (.getfield 300, 3) := by decide +kernel
theorem dX6_many_47 : decode cX6_many 47 = .ok (.ireturn, 1) := by decide +kernel
theorem dX6_many_48 : decode cX6_many 48 = .ok (.aload_n 0, 1) := by decide +kernel
theorem dX6_many_49 : decode cX6_many 49 = .ok (.getfield 28, 3) := by decide +kernel
theorem dX6_many_52 : decode cX6_many 52 = .ok (.getfield 222, 3) := by decide +kernel
theorem dX6_many_55 : decode cX6_many 55 = .ok (.ireturn, 1) := by decide +kernel
theorem dX6_many_56 : decode cX6_many 56 = .ok (.aload_n 0, 1) := by decide +kernel
theorem dX6_many_57 : decode cX6_many 57 = .ok (.getfield 21, 3) := by decide +kernel
theorem dX6_many_60 : decode cX6_many 60 = .ok (.invokevirtual 303, 3) := by decide +kernel
theorem dX6_many_63 : decode cX6_many 63 = .ok (.ireturn, 1) := by decide +kernel
theorem dX6_many_64 : decode cX6_many 64 = .ok (.bipush (-2), 2) := by decide +kernel
theorem dX6_many_66 : decode cX6_many 66 = .ok (.ireturn, 1) := by decide +kernel
theorem dX6_takenAs_0 : decode cX6_takenAs 0 = .ok (.aload_n 0, 1) := by decide +kernel
theorem dX6_takenAs_1 : decode cX6_takenAs 1 = .ok (.getfield 12, 3) := by decide +kernel
theorem dX6_takenAs_4 : decode cX6_takenAs 4 = .ok (.iload_n 1, 1) := by decide +kernel
theorem dX6_takenAs_5 : decode cX6_takenAs 5 = .ok (.invokevirtual 95, 3) := by decide +kernel
theorem dX6_takenAs_8 : decode cX6_takenAs 8 = .ok (.ifCond .ne 5, 3) := by decide +kernel
theorem dX6_takenAs_11 : decode cX6_takenAs 11 = .ok (.iconst (-1), 1) := by decide +kernel
theorem dX6_takenAs_12 : decode cX6_takenAs 12 = .ok (.ireturn, 1) := by decide +kernel
theorem dX6_takenAs_13 : decode cX6_takenAs 13 = .ok (.iload_n 2, 1) := by decide +kernel
theorem dX6_takenAs_14 : decode cX6_takenAs 14 = .ok (.iconst 2, 1) := by decide +kernel
theorem dX6_takenAs_15 : decode cX6_takenAs 15 = .ok (.invokestatic 68, 3) := by decide +kernel
theorem dX6_takenAs_18 : decode cX6_takenAs 18 = .ok (.ifCond .ne 6, 3) := by decide +kernel
theorem dX6_takenAs_21 : decode cX6_takenAs 21 = .ok (.bipush (-2), 2) := by decide +kernel
theorem dX6_takenAs_23 : decode cX6_takenAs 23 = .ok (.ireturn, 1) := by decide +kernel
theorem dX6_takenAs_24 : decode cX6_takenAs 24 = .ok (.aload_n 0, 1) := by decide +kernel
theorem dX6_takenAs_25 : decode cX6_takenAs 25 = .ok (.getfield 12, 3) := by decide +kernel
theorem dX6_takenAs_28 : decode cX6_takenAs 28 = .ok (.getfield 281, 3) := by decide +kernel
theorem dX6_takenAs_31 : decode cX6_takenAs 31 = .ok (.iload_n 1, 1) := by decide +kernel
theorem dX6_takenAs_32 : decode cX6_takenAs 32 = .ok (.iaload, 1) := by decide +kernel
theorem dX6_takenAs_33 : decode cX6_takenAs 33 = .ok (.iload_n 2, 1) := by decide +kernel
theorem dX6_takenAs_34 : decode cX6_takenAs 34 = .ok (.if_icmp .lt 7, 3) := by decide +kernel
theorem dX6_takenAs_37 : decode cX6_takenAs 37 = .ok (.iconst 1, 1) := by decide +kernel
theorem dX6_takenAs_38 : decode cX6_takenAs 38 = .ok (.goto 5, 3) := by decide +kernel
theorem dX6_takenAs_41 : decode cX6_takenAs 41 = .ok (.bipush (-12), 2) := by decide +kernel
theorem dX6_takenAs_43 : decode cX6_takenAs 43 = .ok (.ireturn, 1) := by decide +kernel
theorem dX6_toldBySteps_0 : decode cX6_toldBySteps 0 = .ok (.aload_n 0, 1) := by decide +kernel
theorem dX6_toldBySteps_1 : decode cX6_toldBySteps 1 = .ok (.iconst 1, 1) := by decide +kernel
theorem dX6_toldBySteps_2 : decode cX6_toldBySteps 2 = .ok (.invokevirtual 293, 3) := by decide +kernel
theorem dX6_toldBySteps_5 : decode cX6_toldBySteps 5 = .ok (.aload_n 0, 1) := by decide +kernel
theorem dX6_toldBySteps_6 : decode cX6_toldBySteps 6 = .ok (.getfield 12, 3) := by decide +kernel
theorem dX6_toldBySteps_9 : decode cX6_toldBySteps 9 = .ok (.iload_n 1, 1) := by decide +kernel
theorem dX6_toldBySteps_10 : decode cX6_toldBySteps 10 = .ok (.invokevirtual 99, 3) := by decide +kernel
theorem dX6_toldBySteps_13 : decode cX6_toldBySteps 13 = .ok (.bipush 10, 2) := by decide +kernel
theorem dX6_toldBySteps_15 : decode cX6_toldBySteps 15 = .ok (.iaload, 1) := by decide +kernel
theorem dX6_toldBySteps_16 : decode cX6_toldBySteps 16 = .ok (.ireturn, 1) := by decide +kernel
theorem dX6_toldByBucket_0 : decode cX6_toldByBucket 0 = .ok (.aload_n 0, 1) := by decide +kernel
theorem dX6_toldByBucket_1 : decode cX6_toldByBucket 1 = .ok (.iconst 2, 1) := by decide +kernel
theorem dX6_toldByBucket_2 : decode cX6_toldByBucket 2 = .ok (.invokevirtual 293, 3) := by decide +kernel
theorem dX6_toldByBucket_5 : decode cX6_toldByBucket 5 = .ok (.aload_n 0, 1) := by decide +kernel
theorem dX6_toldByBucket_6 : decode cX6_toldByBucket 6 = .ok (.iload_n 1, 1) := by decide +kernel
theorem dX6_toldByBucket_7 : decode cX6_toldByBucket 7 = .ok (.invokevirtual 290, 3) := by decide +kernel
theorem dX6_toldByBucket_10 : decode cX6_toldByBucket 10 = .ok (.ldc_w 306, 3) := by decide +kernel
theorem dX6_toldByBucket_13 : decode cX6_toldByBucket 13 = .ok (.iadd, 1) := by decide +kernel
theorem dX6_toldByBucket_14 : decode cX6_toldByBucket 14 = .ok (.ireturn, 1) := by decide +kernel
theorem dX6_toldByLate_0 : decode cX6_toldByLate 0 = .ok (.aload_n 0, 1) := by decide +kernel
theorem dX6_toldByLate_1 : decode cX6_toldByLate 1 = .ok (.iconst 3, 1) := by decide +kernel
theorem dX6_toldByLate_2 : decode cX6_toldByLate 2 = .ok (.invokevirtual 293, 3) := by decide +kernel
theorem dX6_toldByLate_5 : decode cX6_toldByLate 5 = .ok (.aload_n 0, 1) := by decide +kernel
theorem dX6_toldByLate_6 : decode cX6_toldByLate 6 = .ok (.iload_n 1, 1) := by decide +kernel
theorem dX6_toldByLate_7 : decode cX6_toldByLate 7 = .ok (.invokevirtual 287, 3) := by decide +kernel
theorem dX6_toldByLate_10 : decode cX6_toldByLate 10 = .ok (.istore_n 2, 1) := by decide +kernel
theorem dX6_toldByLate_11 : decode cX6_toldByLate 11 = .ok (.iload_n 2, 1) := by decide +kernel
theorem dX6_toldByLate_12 : decode cX6_toldByLate 12 = .ok (.aload_n 0, 1) := by decide +kernel
theorem dX6_toldByLate_13 : decode cX6_toldByLate 13 = .ok (.iload_n 1, 1) := by decide +kernel
theorem dX6_toldByLate_14 : decode cX6_toldByLate 14 = .ok (.invokevirtual 290, 3) := by decide +kernel
theorem dX6_toldByLate_17 : decode cX6_toldByLate 17 = .ok (.iadd, 1) := by decide +kernel
theorem dX6_toldByLate_18 : decode cX6_toldByLate 18 = .ok (.ireturn, 1) := by decide +kernel
theorem dX6_leaveInTrace_0 : decode cX6_leaveInTrace 0 = .ok (.aload_n 0, 1) := by decide +kernel
theorem dX6_leaveInTrace_1 : decode cX6_leaveInTrace 1 = .ok (.bipush 31, 2) := by decide +kernel
theorem dX6_leaveInTrace_3 : decode cX6_leaveInTrace 3 = .ok (.aload_n 0, 1) := by decide +kernel
theorem dX6_leaveInTrace_4 : decode cX6_leaveInTrace 4 = .ok (.getfield 53, 3) := by decide +kernel
theorem dX6_leaveInTrace_7 : decode cX6_leaveInTrace 7 = .ok (.imul, 1) := by decide +kernel
theorem dX6_leaveInTrace_8 : decode cX6_leaveInTrace 8 = .ok (.iload_n 1, 1) := by decide +kernel
theorem dX6_leaveInTrace_9 : decode cX6_leaveInTrace 9 = .ok (.iadd, 1) := by decide +kernel
theorem dX6_leaveInTrace_10 : decode cX6_leaveInTrace 10 = .ok (.putfield 53, 3) := by decide +kernel
theorem dX6_leaveInTrace_13 : decode cX6_leaveInTrace 13 = .ok (.return_, 1) := by decide +kernel
theorem dX6_ended_0 : decode cX6_ended 0 = .ok (.aload_n 0, 1) := by decide +kernel
theorem dX6_ended_1 : decode cX6_ended 1 = .ok (.iload_n 1, 1) := by decide +kernel
theorem dX6_ended_2 : decode cX6_ended 2 = .ok (.bipush (-11), 2) := by decide +kernel
theorem dX6_ended_4 : decode cX6_ended 4 = .ok (.if_icmp .gt 16, 3) := by decide +kernel
theorem dX6_ended_7 : decode cX6_ended 7 = .ok (.iload_n 1, 1) := by decide +kernel
theorem dX6_ended_8 : decode cX6_ended 8 = .ok (.bipush (-14), 2) := by decide +kernel
theorem dX6_ended_10 : decode cX6_ended 10 = .ok (.if_icmp .lt 10, 3) := by decide +kernel
theorem dX6_ended_13 : decode cX6_ended 13 = .ok (.bipush (-10), 2) := by decide +kernel
theorem dX6_ended_15 : decode cX6_ended 15 = .ok (.iload_n 1, 1) := by decide +kernel
theorem dX6_ended_16 : decode cX6_ended 16 = .ok (.isub, 1) := by decide +kernel
theorem dX6_ended_17 : decode cX6_ended 17 = .ok (.goto 4, 3) := by decide +kernel
theorem dX6_ended_20 : decode cX6_ended 20 = .ok (.iconst 0, 1) := by decide +kernel
theorem dX6_ended_21 : decode cX6_ended 21 = .ok (.putfield 57, 3) := by decide +kernel
theorem dX6_ended_24 : decode cX6_ended 24 = .ok (.iload_n 1, 1) := by decide +kernel
theorem dX6_ended_25 : decode cX6_ended 25 = .ok (.ireturn, 1) := by decide +kernel
theorem dX6_isUpTo_0 : decode cX6_isUpTo 0 = .ok (.iload_n 0, 1) := by decide +kernel
theorem dX6_isUpTo_1 : decode cX6_isUpTo 1 = .ok (.ifCond .lt 12, 3) := by decide +kernel
theorem dX6_isUpTo_4 : decode cX6_isUpTo 4 = .ok (.iload_n 0, 1) := by decide +kernel
theorem dX6_isUpTo_5 : decode cX6_isUpTo 5 = .ok (.iload_n 1, 1) := by decide +kernel
theorem dX6_isUpTo_6 : decode cX6_isUpTo 6 = .ok (.if_icmp .gt 7, 3) := by decide +kernel
theorem dX6_isUpTo_9 : decode cX6_isUpTo 9 = .ok (.iconst 1, 1) := by decide +kernel
theorem dX6_isUpTo_10 : decode cX6_isUpTo 10 = .ok (.goto 4, 3) := by decide +kernel
theorem dX6_isUpTo_13 : decode cX6_isUpTo 13 = .ok (.iconst 0, 1) := by decide +kernel
theorem dX6_isUpTo_14 : decode cX6_isUpTo 14 = .ok (.ireturn, 1) := by decide +kernel
