theorem dX0_init_0 : decode cX0_init 0 = .ok (.aload_n 0, 1) := by decide +kernel
theorem dX0_init_1 : decode cX0_init 1 = .ok (.invokespecial 3, 3) := by decide +kernel
theorem dX0_init_4 : decode cX0_init 4 = .ok (.aload_n 0, 1) := by decide +kernel
theorem dX0_init_5 : decode cX0_init 5 = .ok (.bipush 6, 2) := by decide +kernel
theorem dX0_init_7 : decode cX0_init 7 = .ok (.anewarray 9, 3) := by decide +kernel
theorem dX0_init_10 : decode cX0_init 10 = .ok (.putfield 11, 3) := by decide +kernel
theorem dX0_init_13 : decode cX0_init 13 = .ok (.aload_n 0, 1) := by decide +kernel
theorem dX0_init_14 : decode cX0_init 14 = .ok (.iconst 0, 1) := by decide +kernel
theorem dX0_init_15 : decode cX0_init 15 = .ok (.putfield 17, 3) := by decide +kernel
theorem dX0_init_18 : decode cX0_init 18 = .ok (.iconst 0, 1) := by decide +kernel
theorem dX0_init_19 : decode cX0_init 19 = .ok (.istore_n 1, 1) := by decide +kernel
theorem dX0_init_20 : decode cX0_init 20 = .ok (.iload_n 1, 1) := by decide +kernel
theorem dX0_init_21 : decode cX0_init 21 = .ok (.bipush 6, 2) := by decide +kernel
theorem dX0_init_23 : decode cX0_init 23 = .ok (.if_icmp .ge 22, 3) := by decide +kernel
theorem dX0_init_26 : decode cX0_init 26 = .ok (.aload_n 0, 1) := by decide +kernel
theorem dX0_init_27 : decode cX0_init 27 = .ok (.getfield 11, 3) := by decide +kernel
theorem dX0_init_30 : decode cX0_init 30 = .ok (.iload_n 1, 1) := by decide +kernel
theorem dX0_init_31 : decode cX0_init 31 = .ok (.new 9, 3) := by decide +kernel
theorem dX0_init_34 : decode cX0_init 34 = .ok (.dup, 1) := by decide +kernel
theorem dX0_init_35 : decode cX0_init 35 = .ok (.invokespecial 21, 3) := by decide +kernel
theorem dX0_init_38 : decode cX0_init 38 = .ok (.aastore, 1) := by decide +kernel
theorem dX0_init_39 : decode cX0_init 39 = .ok (.iinc 1 1, 3) := by decide +kernel
theorem dX0_init_42 : decode cX0_init 42 = .ok (.goto (-22), 3) := by decide +kernel
theorem dX0_init_45 : decode cX0_init 45 = .ok (.return_, 1) := by decide +kernel
theorem dX0_jumpAt_0 : decode cX0_jumpAt 0 = .ok (.aload_n 0, 1) := by decide +kernel
theorem dX0_jumpAt_1 : decode cX0_jumpAt 1 = .ok (.getfield 11, 3) := by decide +kernel
theorem dX0_jumpAt_4 : decode cX0_jumpAt 4 = .ok (.iload_n 1, 1) := by decide +kernel
theorem dX0_jumpAt_5 : decode cX0_jumpAt 5 = .ok (.ifCond .lt 13, 3) := by decide +kernel
theorem dX0_jumpAt_8 : decode cX0_jumpAt 8 = .ok (.iload_n 1, 1) := by decide +kernel
theorem dX0_jumpAt_9 : decode cX0_jumpAt 9 = .ok (.bipush 6, 2) := by decide +kernel
theorem dX0_jumpAt_11 : decode cX0_jumpAt 11 = .ok (.if_icmp .ge 7, 3) := by decide +kernel
theorem dX0_jumpAt_14 : decode cX0_jumpAt 14 = .ok (.iload_n 1, 1) := by decide +kernel
theorem dX0_jumpAt_15 : decode cX0_jumpAt 15 = .ok (.goto 4, 3) := by decide +kernel
theorem dX0_jumpAt_18 : decode cX0_jumpAt 18 = .ok (.iconst 0, 1) := by decide +kernel
theorem dX0_jumpAt_19 : decode cX0_jumpAt 19 = .ok (.aaload, 1) := by decide +kernel
theorem dX0_jumpAt_20 : decode cX0_jumpAt 20 = .ok (.areturn, 1) := by decide +kernel
theorem dX0_leave_0 : decode cX0_leave 0 = .ok (.iconst 0, 1) := by decide +kernel
theorem dX0_leave_1 : decode cX0_leave 1 = .ok (.istore 4, 2) := by decide +kernel
theorem dX0_leave_3 : decode cX0_leave 3 = .ok (.iload 4, 2) := by decide +kernel
theorem dX0_leave_5 : decode cX0_leave 5 = .ok (.aload_n 0, 1) := by decide +kernel
theorem dX0_leave_6 : decode cX0_leave 6 = .ok (.getfield 17, 3) := by decide +kernel
theorem dX0_leave_9 : decode cX0_leave 9 = .ok (.if_icmp .ge 44, 3) := by decide +kernel
theorem dX0_leave_12 : decode cX0_leave 12 = .ok (.iload 4, 2) := by decide +kernel
theorem dX0_leave_14 : decode cX0_leave 14 = .ok (.iload_n 2, 1) := by decide +kernel
theorem dX0_leave_15 : decode cX0_leave 15 = .ok (.imul, 1) := by decide +kernel
theorem dX0_leave_16 : decode cX0_leave 16 = .ok (.istore 5, 2) := by decide +kernel
theorem dX0_leave_18 : decode cX0_leave 18 = .ok (.aload_n 0, 1) := by decide +kernel
theorem dX0_leave_19 : decode cX0_leave 19 = .ok (.iload 4, 2) := by decide +kernel
theorem dX0_leave_21 : decode cX0_leave 21 = .ok (.invokevirtual 22, 3) := by decide +kernel
theorem dX0_leave_24 : decode cX0_leave 24 = .ok (.iload_n 1, 1) := by decide +kernel
theorem dX0_leave_25 : decode cX0_leave 25 = .ok (.i2d, 1) := by decide +kernel
theorem dX0_leave_26 : decode cX0_leave 26 = .ok (.iload 5, 2) := by decide +kernel
theorem dX0_leave_28 : decode cX0_leave 28 = .ok (.i2d, 1) := by decide +kernel
theorem dX0_leave_29 : decode cX0_leave 29 = .ok (.ldc2_w 26, 3) := by decide +kernel
theorem dX0_leave_32 : decode cX0_leave 32 = .ok (.aload_n 3, 1) := by decide +kernel
theorem dX0_leave_33 : decode cX0_leave 33 = .ok (.bipush 9, 2) := by decide +kernel
theorem dX0_leave_35 : decode cX0_leave 35 = .ok (.invokevirtual 28, 3) := by decide +kernel
theorem dX0_leave_38 : decode cX0_leave 38 = .ok (.i2d, 1) := by decide +kernel
theorem dX0_leave_39 : decode cX0_leave 39 = .ok (.dsub, 1) := by decide +kernel
theorem dX0_leave_40 : decode cX0_leave 40 = .ok (.dmul, 1) := by decide +kernel
theorem dX0_leave_41 : decode cX0_leave 41 = .ok (.dadd, 1) := by decide +kernel
theorem dX0_leave_42 : decode cX0_leave 42 = .ok (.iload 5, 2) := by decide +kernel
theorem dX0_leave_44 : decode cX0_leave 44 = .ok (.invokevirtual 34, 3) := by decide +kernel
theorem dX0_leave_47 : decode cX0_leave 47 = .ok (.iinc 4 1, 3) := by decide +kernel
theorem dX0_leave_50 : decode cX0_leave 50 = .ok (.goto (-47), 3) := by decide +kernel
theorem dX0_leave_53 : decode cX0_leave 53 = .ok (.return_, 1) := by decide +kernel
theorem dX0_run_0 : decode cX0_run 0 = .ok (.iconst 0, 1) := by decide +kernel
theorem dX0_run_1 : decode cX0_run 1 = .ok (.istore_n 2, 1) := by decide +kernel
theorem dX0_run_2 : decode cX0_run 2 = .ok (.iconst 0, 1) := by decide +kernel
theorem dX0_run_3 : decode cX0_run 3 = .ok (.istore_n 3, 1) := by decide +kernel
theorem dX0_run_4 : decode cX0_run 4 = .ok (.iconst 0, 1) := by decide +kernel
theorem dX0_run_5 : decode cX0_run 5 = .ok (.istore 4, 2) := by decide +kernel
theorem dX0_run_7 : decode cX0_run 7 = .ok (.iload 4, 2) := by decide +kernel
theorem dX0_run_9 : decode cX0_run 9 = .ok (.sipush 1000, 3) := by decide +kernel
theorem dX0_run_12 : decode cX0_run 12 = .ok (.if_icmp .ge 28, 3) := by decide +kernel
theorem dX0_run_15 : decode cX0_run 15 = .ok (.iload_n 3, 1) := by decide +kernel
theorem dX0_run_16 : decode cX0_run 16 = .ok (.ifCond .ne 24, 3) := by decide +kernel
theorem dX0_run_19 : decode cX0_run 19 = .ok (.aload_n 0, 1) := by decide +kernel
theorem dX0_run_20 : decode cX0_run 20 = .ok (.iload 4, 2) := by decide +kernel
theorem dX0_run_22 : decode cX0_run 22 = .ok (.aload_n 1, 1) := by decide +kernel
theorem dX0_run_23 : decode cX0_run 23 = .ok (.invokevirtual 38, 3) := by decide +kernel
theorem dX0_run_26 : decode cX0_run 26 = .ok (.istore_n 3, 1) := by decide +kernel
theorem dX0_run_27 : decode cX0_run 27 = .ok (.iload_n 2, 1) := by decide +kernel
theorem dX0_run_28 : decode cX0_run 28 = .ok (.aload_n 0, 1) := by decide +kernel
theorem dX0_run_29 : decode cX0_run 29 = .ok (.invokevirtual 42, 3) := by decide +kernel
theorem dX0_run_32 : decode cX0_run 32 = .ok (.iadd, 1) := by decide +kernel
theorem dX0_run_33 : decode cX0_run 33 = .ok (.istore_n 2, 1) := by decide +kernel
theorem dX0_run_34 : decode cX0_run 34 = .ok (.iinc 4 1, 3) := by decide +kernel
theorem dX0_run_37 : decode cX0_run 37 = .ok (.goto (-30), 3) := by decide +kernel
theorem dX0_run_40 : decode cX0_run 40 = .ok (.iload_n 2, 1) := by decide +kernel
theorem dX0_run_41 : decode cX0_run 41 = .ok (.ireturn, 1) := by decide +kernel
theorem dX0_goOn_0 : decode cX0_goOn 0 = .ok (.iconst 1, 1) := by decide +kernel
theorem dX0_goOn_1 : decode cX0_goOn 1 = .ok (.istore_n 3, 1) := by decide +kernel
theorem dX0_goOn_2 : decode cX0_goOn 2 = .ok (.iconst 0, 1) := by decide +kernel
theorem dX0_goOn_3 : decode cX0_goOn 3 = .ok (.istore 4, 2) := by decide +kernel
theorem dX0_goOn_5 : decode cX0_goOn 5 = .ok (.iload 4, 2) := by decide +kernel
theorem dX0_goOn_7 : decode cX0_goOn 7 = .ok (.aload_n 0, 1) := by decide +kernel
theorem dX0_goOn_8 : decode cX0_goOn 8 = .ok (.getfield 17, 3) := by decide +kernel
theorem dX0_goOn_11 : decode cX0_goOn 11 = .ok (.if_icmp .ge 58, 3) := by decide +kernel
theorem dX0_goOn_14 : decode cX0_goOn 14 = .ok (.aload_n 0, 1) := by decide +kernel
theorem dX0_goOn_15 : decode cX0_goOn 15 = .ok (.iload 4, 2) := by decide +kernel
theorem dX0_goOn_17 : decode cX0_goOn 17 = .ok (.invokevirtual 22, 3) := by decide +kernel
theorem dX0_goOn_20 : decode cX0_goOn 20 = .ok (.astore 5, 2) := by decide +kernel
theorem dX0_goOn_22 : decode cX0_goOn 22 = .ok (.iload_n 1, 1) := by decide +kernel
theorem dX0_goOn_23 : decode cX0_goOn 23 = .ok (.aload 5, 2) := by decide +kernel
theorem dX0_goOn_25 : decode cX0_goOn 25 = .ok (.getfield 46, 3) := by decide +kernel
theorem dX0_goOn_28 : decode cX0_goOn 28 = .ok (.if_icmp .lt 17, 3) := by decide +kernel
theorem dX0_goOn_31 : decode cX0_goOn 31 = .ok (.aload 5, 2) := by decide +kernel
theorem dX0_goOn_33 : decode cX0_goOn 33 = .ok (.invokevirtual 49, 3) := by decide +kernel
theorem dX0_goOn_36 : decode cX0_goOn 36 = .ok (.ifCond .ne 9, 3) := by decide +kernel
theorem dX0_goOn_39 : decode cX0_goOn 39 = .ok (.aload 5, 2) := by decide +kernel
theorem dX0_goOn_41 : decode cX0_goOn 41 = .ok (.aload_n 2, 1) := by decide +kernel
theorem dX0_goOn_42 : decode cX0_goOn 42 = .ok (.invokevirtual 53, 3) := by decide +kernel
theorem dX0_goOn_45 : decode cX0_goOn 45 = .ok (.iload_n 3, 1) := by decide +kernel
theorem dX0_goOn_46 : decode cX0_goOn 46 = .ok (.ifCond .eq 15, 3) := by decide +kernel
theorem dX0_goOn_49 : decode cX0_goOn 49 = .ok (.aload 5, 2) := by decide +kernel
theorem dX0_goOn_51 : decode cX0_goOn 51 = .ok (.invokevirtual 49, 3) := by decide +kernel
theorem dX0_goOn_54 : decode cX0_goOn 54 = .ok (.ifCond .eq 7, 3) := by decide +kernel
theorem dX0_goOn_57 : decode cX0_goOn 57 = .ok (.iconst 1, 1) := by decide +kernel
theorem dX0_goOn_58 : decode cX0_goOn 58 = .ok (.goto 4, 3) := by decide +kernel
theorem dX0_goOn_61 : decode cX0_goOn 61 = .ok (.iconst 0, 1) := by decide +kernel
theorem dX0_goOn_62 : decode cX0_goOn 62 = .ok (.istore_n 3, 1) := by decide +kernel
theorem dX0_goOn_63 : decode cX0_goOn 63 = .ok (.iinc 4 1, 3) := by decide +kernel
theorem dX0_goOn_66 : decode cX0_goOn 66 = .ok (.goto (-61), 3) := by decide +kernel
theorem dX0_goOn_69 : decode cX0_goOn 69 = .ok (.iload_n 3, 1) := by decide +kernel
theorem dX0_goOn_70 : decode cX0_goOn 70 = .ok (.ireturn, 1) := by decide +kernel
theorem dX0_countNewPairs_0 : decode cX0_countNewPairs 0 = .ok (.iconst 0, 1) := by decide +kernel
theorem dX0_countNewPairs_1 : decode cX0_countNewPairs 1 = .ok (.istore_n 1, 1) := by decide +kernel
theorem dX0_countNewPairs_2 : decode cX0_countNewPairs 2 = .ok (.iconst 0, 1) := by decide +kernel
theorem dX0_countNewPairs_3 : decode cX0_countNewPairs 3 = .ok (.istore_n 2, 1) := by decide +kernel
theorem dX0_countNewPairs_4 : decode cX0_countNewPairs 4 = .ok (.iload_n 2, 1) := by decide +kernel
theorem dX0_countNewPairs_5 : decode cX0_countNewPairs 5 = .ok (.aload_n 0, 1) := by decide +kernel
theorem dX0_countNewPairs_6 : decode cX0_countNewPairs 6 = .ok (.getfield 17, 3) := by decide +kernel
theorem dX0_countNewPairs_9 : decode cX0_countNewPairs 9 = .ok (.if_icmp .ge 78, 3) := by decide +kernel
theorem dX0_countNewPairs_12 : decode cX0_countNewPairs 12 = .ok (.aload_n 0, 1) := by decide +kernel
theorem dX0_countNewPairs_13 : decode cX0_countNewPairs 13 = .ok (.iload_n 2, 1) := by decide +kernel
theorem dX0_countNewPairs_14 : decode cX0_countNewPairs 14 = .ok (.invokevirtual 22, 3) := by decide +kernel
theorem dX0_countNewPairs_17 : decode cX0_countNewPairs 17 = .ok (.astore_n 3, 1) := by decide +kernel
theorem dX0_countNewPairs_18 : decode cX0_countNewPairs 18 = .ok (.iload_n 2, 1) := by decide +kernel
theorem dX0_countNewPairs_19 : decode cX0_countNewPairs 19 = .ok (.iconst 1, 1) := by decide +kernel
theorem dX0_countNewPairs_20 : decode cX0_countNewPairs 20 = .ok (.iadd, 1) := by decide +kernel
theorem dX0_countNewPairs_21 : decode cX0_countNewPairs 21 = .ok (.istore 4, 2) := by decide +kernel
theorem dX0_countNewPairs_23 : decode cX0_countNewPairs 23 = .ok (.iload 4, 2) := by decide +kernel
theorem dX0_countNewPairs_25 : decode cX0_countNewPairs 25 = .ok (.aload_n 0, 1) := by decide +kernel
theorem dX0_countNewPairs_26 : decode cX0_countNewPairs 26 = .ok (.getfield 17, 3) := by decide +kernel
theorem dX0_countNewPairs_29 : decode cX0_countNewPairs 29 = .ok (.if_icmp .ge 52, 3) := by decide +kernel
theorem dX0_countNewPairs_32 : decode cX0_countNewPairs 32 = .ok (.iconst 1, 1) := by decide +kernel
theorem dX0_countNewPairs_33 : decode cX0_countNewPairs 33 = .ok (.iload 4, 2) := by decide +kernel
theorem dX0_countNewPairs_35 : decode cX0_countNewPairs 35 = .ok (.ishl, 1) := by decide +kernel
theorem dX0_countNewPairs_36 : decode cX0_countNewPairs 36 = .ok (.istore 5, 2) := by decide +kernel
theorem dX0_countNewPairs_38 : decode cX0_countNewPairs 38 = .ok (.aload_n 3, 1) := by decide +kernel
theorem dX0_countNewPairs_39 : decode cX0_countNewPairs 39 = .ok (.getfield 56, 3) := by decide +kernel
theorem dX0_countNewPairs_42 : decode cX0_countNewPairs 42 = .ok (.iload 5, 2) := by decide +kernel
theorem dX0_countNewPairs_44 : decode cX0_countNewPairs 44 = .ok (.iand, 1) := by decide +kernel
theorem dX0_countNewPairs_45 : decode cX0_countNewPairs 45 = .ok (.ifCond .ne 30, 3) := by decide +kernel
theorem dX0_countNewPairs_48 : decode cX0_countNewPairs 48 = .ok (.aload_n 3, 1) := by decide +kernel
theorem dX0_countNewPairs_49 : decode cX0_countNewPairs 49 = .ok (.aload_n 0, 1) := by decide +kernel
theorem dX0_countNewPairs_50 : decode cX0_countNewPairs 50 = .ok (.iload 4, 2) := by decide +kernel
theorem dX0_countNewPairs_52 : decode cX0_countNewPairs 52 = .ok (.invokevirtual 22, 3) := by decide +kernel
theorem dX0_countNewPairs_55 : decode cX0_countNewPairs 55 = .ok (.invokevirtual 59, 3) := by decide +kernel
theorem dX0_countNewPairs_58 : decode cX0_countNewPairs 58 = .ok (.ifCond .eq 17, 3) := by decide +kernel
theorem dX0_countNewPairs_61 : decode cX0_countNewPairs 61 = .ok (.aload_n 3, 1) := by decide +kernel
theorem dX0_countNewPairs_62 : decode cX0_countNewPairs 62 = .ok (.dup, 1) := by decide +kernel
theorem dX0_countNewPairs_63 : decode cX0_countNewPairs 63 = .ok (.getfield 56, 3) := by decide +kernel
theorem dX0_countNewPairs_66 : decode cX0_countNewPairs 66 = .ok (.iload 5, 2) := by decide +kernel
theorem dX0_countNewPairs_68 : decode cX0_countNewPairs 68 = .ok (.ior, 1) := by decide +kernel
theorem dX0_countNewPairs_69 : decode cX0_countNewPairs 69 = .ok (.putfield 56, 3) := by decide +kernel
theorem dX0_countNewPairs_72 : decode cX0_countNewPairs 72 = .ok (.iinc 1 1, 3) := by decide +kernel
theorem dX0_countNewPairs_75 : decode cX0_countNewPairs 75 = .ok (.iinc 4 1, 3) := by decide +kernel
theorem dX0_countNewPairs_78 : decode cX0_countNewPairs 78 = .ok (.goto (-55), 3) := by decide +kernel
theorem dX0_countNewPairs_81 : decode cX0_countNewPairs 81 = .ok (.iinc 2 1, 3) := by decide +kernel
theorem dX0_countNewPairs_84 : decode cX0_countNewPairs 84 = .ok (.goto (-80), 3) := by decide +kernel
theorem dX0_countNewPairs_87 : decode cX0_countNewPairs 87 = .ok (.iload_n 1, 1) := by decide +kernel
theorem dX0_countNewPairs_88 : decode cX0_countNewPairs 88 = .ok (.ireturn, 1) := by decide +kernel
theorem dX1_init_0 : decode cX1_init 0 = .ok (.aload_n 0, 1) := by decide +kernel
theorem dX1_init_1 : decode cX1_init 1 = .ok (.invokespecial 3, 3) := by decide +kernel
theorem dX1_init_4 : decode cX1_init 4 = .ok (.aload_n 0, 1) := by decide +kernel
theorem dX1_init_5 : decode cX1_init 5 = .ok (.bipush 6, 2) := by decide +kernel
theorem dX1_init_7 : decode cX1_init 7 = .ok (.putfield 9, 3) := by decide +kernel
theorem dX1_init_10 : decode cX1_init 10 = .ok (.aload_n 0, 1) := by decide +kernel
theorem dX1_init_11 : decode cX1_init 11 = .ok (.iconst 1, 1) := by decide +kernel
theorem dX1_init_12 : decode cX1_init 12 = .ok (.putfield 15, 3) := by decide +kernel
theorem dX1_init_15 : decode cX1_init 15 = .ok (.aload_n 0, 1) := by decide +kernel
theorem dX1_init_16 : decode cX1_init 16 = .ok (.iconst 1, 1) := by decide +kernel
theorem dX1_init_17 : decode cX1_init 17 = .ok (.putfield 18, 3) := by decide +kernel
theorem dX1_init_20 : decode cX1_init 20 = .ok (.aload_n 0, 1) := by decide +kernel
theorem dX1_init_21 : decode cX1_init 21 = .ok (.dconst 0, 1) := by decide +kernel
theorem dX1_init_22 : decode cX1_init 22 = .ok (.putfield 21, 3) := by decide +kernel
theorem dX1_init_25 : decode cX1_init 25 = .ok (.aload_n 0, 1) := by decide +kernel
theorem dX1_init_26 : decode cX1_init 26 = .ok (.iconst 0, 1) := by decide +kernel
theorem dX1_init_27 : decode cX1_init 27 = .ok (.putfield 25, 3) := by decide +kernel
theorem dX1_init_30 : decode cX1_init 30 = .ok (.aload_n 0, 1) := by decide +kernel
theorem dX1_init_31 : decode cX1_init 31 = .ok (.iconst 0, 1) := by decide +kernel
theorem dX1_init_32 : decode cX1_init 32 = .ok (.putfield 29, 3) := by decide +kernel
theorem dX1_init_35 : decode cX1_init 35 = .ok (.aload_n 0, 1) := by decide +kernel
theorem dX1_init_36 : decode cX1_init 36 = .ok (.bipush 9, 2) := by decide +kernel
theorem dX1_init_38 : decode cX1_init 38 = .ok (.putfield 32, 3) := by decide +kernel
theorem dX1_init_41 : decode cX1_init 41 = .ok (.aload_n 0, 1) := by decide +kernel
theorem dX1_init_42 : decode cX1_init 42 = .ok (.iconst 0, 1) := by decide +kernel
theorem dX1_init_43 : decode cX1_init 43 = .ok (.putfield 35, 3) := by decide +kernel
theorem dX1_init_46 : decode cX1_init 46 = .ok (.aload_n 0, 1) := by decide +kernel
theorem dX1_init_47 : decode cX1_init 47 = .ok (.dconst 0, 1) := by decide +kernel
theorem dX1_init_48 : decode cX1_init 48 = .ok (.putfield 38, 3) := by decide +kernel
theorem dX1_init_51 : decode cX1_init 51 = .ok (.aload_n 0, 1) := by decide +kernel
theorem dX1_init_52 : decode cX1_init 52 = .ok (.dconst 0, 1) := by decide +kernel
theorem dX1_init_53 : decode cX1_init 53 = .ok (.putfield 41, 3) := by decide +kernel
theorem dX1_init_56 : decode cX1_init 56 = .ok (.aload_n 0, 1) := by decide +kernel
theorem dX1_init_57 : decode cX1_init 57 = .ok (.iconst 0, 1) := by decide +kernel
theorem dX1_init_58 : decode cX1_init 58 = .ok (.putfield 44, 3) := by decide +kernel
theorem dX1_init_61 : decode cX1_init 61 = .ok (.return_, 1) := by decide +kernel
theorem dX1_plan_0 : decode cX1_plan 0 = .ok (.aload_n 0, 1) := by decide +kernel
theorem dX1_plan_1 : decode cX1_plan 1 = .ok (.iload_n 3, 1) := by decide +kernel
theorem dX1_plan_2 : decode cX1_plan 2 = .ok (.putfield 9, 3) := by decide +kernel
theorem dX1_plan_5 : decode cX1_plan 5 = .ok (.aload_n 0, 1) := by decide +kernel
theorem dX1_plan_6 : decode cX1_plan 6 = .ok (.iload_n 2, 1) := by decide +kernel
theorem dX1_plan_7 : decode cX1_plan 7 = .ok (.ifCond .ne 7, 3) := by decide +kernel
theorem dX1_plan_10 : decode cX1_plan 10 = .ok (.iconst 2, 1) := by decide +kernel
theorem dX1_plan_11 : decode cX1_plan 11 = .ok (.goto 4, 3) := by decide +kernel
theorem dX1_plan_14 : decode cX1_plan 14 = .ok (.iconst 1, 1) := by decide +kernel
theorem dX1_plan_15 : decode cX1_plan 15 = .ok (.putfield 15, 3) := by decide +kernel
theorem dX1_plan_18 : decode cX1_plan 18 = .ok (.aload_n 0, 1) := by decide +kernel
theorem dX1_plan_19 : decode cX1_plan 19 = .ok (.fload 4, 2) := by decide +kernel
theorem dX1_plan_21 : decode cX1_plan 21 = .ok (.fconst 0, 1) := by decide +kernel
theorem dX1_plan_22 : decode cX1_plan 22 = .ok (.fcmp .l, 1) := by decide +kernel
theorem dX1_plan_23 : decode cX1_plan 23 = .ok (.ifCond .le 14, 3) := by decide +kernel
theorem dX1_plan_26 : decode cX1_plan 26 = .ok (.iconst 1, 1) := by decide +kernel
theorem dX1_plan_27 : decode cX1_plan 27 = .ok (.ldc 47, 2) := by decide +kernel
theorem dX1_plan_29 : decode cX1_plan 29 = .ok (.fload 4, 2) := by decide +kernel
theorem dX1_plan_31 : decode cX1_plan 31 = .ok (.fdiv, 1) := by decide +kernel
theorem dX1_plan_32 : decode cX1_plan 32 = .ok (.f2i, 1) := by decide +kernel
theorem dX1_plan_33 : decode cX1_plan 33 = .ok (.iadd, 1) := by decide +kernel
theorem dX1_plan_34 : decode cX1_plan 34 = .ok (.goto 4, 3) := by decide +kernel
theorem dX1_plan_37 : decode cX1_plan 37 = .ok (.iconst 1, 1) := by decide +kernel
theorem dX1_plan_38 : decode cX1_plan 38 = .ok (.putfield 18, 3) := by decide +kernel
theorem dX1_plan_41 : decode cX1_plan 41 = .ok (.ldc2_w 48, 3) := by decide +kernel
theorem dX1_plan_44 : decode cX1_plan 44 = .ok (.fload 4, 2) := by decide +kernel
theorem dX1_plan_46 : decode cX1_plan 46 = .ok (.f2d, 1) := by decide +kernel
theorem dX1_plan_47 : decode cX1_plan 47 = .ok (.dadd, 1) := by decide +kernel
theorem dX1_plan_48 : decode cX1_plan 48 = .ok (.dstore 5, 2) := by decide +kernel
theorem dX1_plan_50 : decode cX1_plan 50 = .ok (.aload_n 0, 1) := by decide +kernel
theorem dX1_plan_51 : decode cX1_plan 51 = .ok (.iload_n 1, 1) := by decide +kernel
theorem dX1_plan_52 : decode cX1_plan 52 = .ok (.ifCond .ne 12, 3) := by decide +kernel
theorem dX1_plan_55 : decode cX1_plan 55 = .ok (.dload 5, 2) := by decide +kernel
theorem dX1_plan_57 : decode cX1_plan 57 = .ok (.ldc2_w 50, 3) := by decide +kernel
theorem dX1_plan_60 : decode cX1_plan 60 = .ok (.ddiv, 1) := by decide +kernel
theorem dX1_plan_61 : decode cX1_plan 61 = .ok (.goto 5, 3) := by decide +kernel
theorem dX1_plan_64 : decode cX1_plan 64 = .ok (.dload 5, 2) := by decide +kernel
theorem dX1_plan_66 : decode cX1_plan 66 = .ok (.putfield 21, 3) := by decide +kernel
theorem dX1_plan_69 : decode cX1_plan 69 = .ok (.aload_n 0, 1) := by decide +kernel
theorem dX1_plan_70 : decode cX1_plan 70 = .ok (.iconst 0, 1) := by decide +kernel
theorem dX1_plan_71 : decode cX1_plan 71 = .ok (.putfield 25, 3) := by decide +kernel
theorem dX1_plan_74 : decode cX1_plan 74 = .ok (.return_, 1) := by decide +kernel
theorem dX1_planReserve_0 : decode cX1_planReserve 0 = .ok (.aload_n 0, 1) := by decide +kernel
theorem dX1_planReserve_1 : decode cX1_planReserve 1 = .ok (.dup, 1) := by decide +kernel
theorem dX1_planReserve_2 : decode cX1_planReserve 2 = .ok (.getfield 9, 3) := by decide +kernel
theorem dX1_planReserve_5 : decode cX1_planReserve 5 = .ok (.iconst 1, 1) := by decide +kernel
theorem dX1_planReserve_6 : decode cX1_planReserve 6 = .ok (.isub, 1) := by decide +kernel
theorem dX1_planReserve_7 : decode cX1_planReserve 7 = .ok (.putfield 9, 3) := by decide +kernel
theorem dX1_planReserve_10 : decode cX1_planReserve 10 = .ok (.aload_n 0, 1) := by decide +kernel
theorem dX1_planReserve_11 : decode cX1_planReserve 11 = .ok (.iconst 4, 1) := by decide +kernel
theorem dX1_planReserve_12 : decode cX1_planReserve 12 = .ok (.putfield 18, 3) := by decide +kernel
theorem dX1_planReserve_15 : decode cX1_planReserve 15 = .ok (.aload_n 0, 1) := by decide +kernel
theorem dX1_planReserve_16 : decode cX1_planReserve 16 = .ok (.ldc2_w 52, 3) := by decide +kernel
theorem dX1_planReserve_19 : decode cX1_planReserve 19 = .ok (.putfield 21, 3) := by decide +kernel
theorem dX1_planReserve_22 : decode cX1_planReserve 22 = .ok (.aload_n 0, 1) := by decide +kernel
theorem dX1_planReserve_23 : decode cX1_planReserve 23 = .ok (.iconst 1, 1) := by decide +kernel
theorem dX1_planReserve_24 : decode cX1_planReserve 24 = .ok (.putfield 25, 3) := by decide +kernel
theorem dX1_planReserve_27 : decode cX1_planReserve 27 = .ok (.return_, 1) := by decide +kernel
theorem dX1_leave_0 : decode cX1_leave 0 = .ok (.aload_n 0, 1) := by decide +kernel
theorem dX1_leave_1 : decode cX1_leave 1 = .ok (.iload_n 3, 1) := by decide +kernel
theorem dX1_leave_2 : decode cX1_leave 2 = .ok (.putfield 29, 3) := by decide +kernel
theorem dX1_leave_5 : decode cX1_leave 5 = .ok (.aload_n 0, 1) := by decide +kernel
theorem dX1_leave_6 : decode cX1_leave 6 = .ok (.bipush 9, 2) := by decide +kernel
theorem dX1_leave_8 : decode cX1_leave 8 = .ok (.putfield 32, 3) := by decide +kernel
theorem dX1_leave_11 : decode cX1_leave 11 = .ok (.aload_n 0, 1) := by decide +kernel
theorem dX1_leave_12 : decode cX1_leave 12 = .ok (.iconst 0, 1) := by decide +kernel
theorem dX1_leave_13 : decode cX1_leave 13 = .ok (.putfield 35, 3) := by decide +kernel
theorem dX1_leave_16 : decode cX1_leave 16 = .ok (.aload_n 0, 1) := by decide +kernel
theorem dX1_leave_17 : decode cX1_leave 17 = .ok (.dload_n 1, 1) := by decide +kernel
theorem dX1_leave_18 : decode cX1_leave 18 = .ok (.putfield 38, 3) := by decide +kernel
theorem dX1_leave_21 : decode cX1_leave 21 = .ok (.aload_n 0, 1) := by decide +kernel
theorem dX1_leave_22 : decode cX1_leave 22 = .ok (.dconst 0, 1) := by decide +kernel
theorem dX1_leave_23 : decode cX1_leave 23 = .ok (.putfield 41, 3) := by decide +kernel
theorem dX1_leave_26 : decode cX1_leave 26 = .ok (.aload_n 0, 1) := by decide +kernel
theorem dX1_leave_27 : decode cX1_leave 27 = .ok (.iconst 0, 1) := by decide +kernel
theorem dX1_leave_28 : decode cX1_leave 28 = .ok (.putfield 44, 3) := by decide +kernel
theorem dX1_leave_31 : decode cX1_leave 31 = .ok (.return_, 1) := by decide +kernel
theorem dX1_isDown_0 : decode cX1_isDown 0 = .ok (.aload_n 0, 1) := by decide +kernel
theorem dX1_isDown_1 : decode cX1_isDown 1 = .ok (.getfield 32, 3) := by decide +kernel
theorem dX1_isDown_4 : decode cX1_isDown 4 = .ok (.ifCond .ge 7, 3) := by decide +kernel
theorem dX1_isDown_7 : decode cX1_isDown 7 = .ok (.iconst 1, 1) := by decide +kernel
theorem dX1_isDown_8 : decode cX1_isDown 8 = .ok (.goto 4, 3) := by decide +kernel
theorem dX1_isDown_11 : decode cX1_isDown 11 = .ok (.iconst 0, 1) := by decide +kernel
theorem dX1_isDown_12 : decode cX1_isDown 12 = .ok (.ireturn, 1) := by decide +kernel
theorem dX1_isGliding_0 : decode cX1_isGliding 0 = .ok (.aload_n 0, 1) := by decide +kernel
theorem dX1_isGliding_1 : decode cX1_isGliding 1 = .ok (.getfield 32, 3) := by decide +kernel
theorem dX1_isGliding_4 : decode cX1_isGliding 4 = .ok (.aload_n 0, 1) := by decide +kernel
theorem dX1_isGliding_5 : decode cX1_isGliding 5 = .ok (.getfield 9, 3) := by decide +kernel
theorem dX1_isGliding_8 : decode cX1_isGliding 8 = .ok (.if_icmp .gt 14, 3) := by decide +kernel
theorem dX1_isGliding_11 : decode cX1_isGliding 11 = .ok (.aload_n 0, 1) := by decide +kernel
theorem dX1_isGliding_12 : decode cX1_isGliding 12 = .ok (.getfield 32, 3) := by decide +kernel
theorem dX1_isGliding_15 : decode cX1_isGliding 15 = .ok (.ifCond .lt 7, 3) := by decide +kernel
theorem dX1_isGliding_18 : decode cX1_isGliding 18 = .ok (.iconst 1, 1) := by decide +kernel
theorem dX1_isGliding_19 : decode cX1_isGliding 19 = .ok (.goto 4, 3) := by decide +kernel
theorem dX1_isGliding_22 : decode cX1_isGliding 22 = .ok (.iconst 0, 1) := by decide +kernel
theorem dX1_isGliding_23 : decode cX1_isGliding 23 = .ok (.ireturn, 1) := by decide +kernel
theorem dX1_comeDown_0 : decode cX1_comeDown 0 = .ok (.iconst 0, 1) := by decide +kernel
theorem dX1_comeDown_1 : decode cX1_comeDown 1 = .ok (.istore_n 2, 1) := by decide +kernel
theorem dX1_comeDown_2 : decode cX1_comeDown 2 = .ok (.aload_n 0, 1) := by decide +kernel
theorem dX1_comeDown_3 : decode cX1_comeDown 3 = .ok (.invokevirtual 54, 3) := by decide +kernel
theorem dX1_comeDown_6 : decode cX1_comeDown 6 = .ok (.ifCond .ne 21, 3) := by decide +kernel
theorem dX1_comeDown_9 : decode cX1_comeDown 9 = .ok (.iload_n 2, 1) := by decide +kernel
theorem dX1_comeDown_10 : decode cX1_comeDown 10 = .ok (.sipush 1000, 3) := by decide +kernel
theorem dX1_comeDown_13 : decode cX1_comeDown 13 = .ok (.if_icmp .ge 14, 3) := by decide +kernel
theorem dX1_comeDown_16 : decode cX1_comeDown 16 = .ok (.aload_n 0, 1) := by decide +kernel
theorem dX1_comeDown_17 : decode cX1_comeDown 17 = .ok (.aload_n 1, 1) := by decide +kernel
theorem dX1_comeDown_18 : decode cX1_comeDown 18 = .ok (.invokevirtual 58, 3) := by decide +kernel
theorem dX1_comeDown_21 : decode cX1_comeDown 21 = .ok (.iinc 2 1, 3) := by decide +kernel
theorem dX1_comeDown_24 : decode cX1_comeDown 24 = .ok (.goto (-22), 3) := by decide +kernel
theorem dX1_comeDown_27 : decode cX1_comeDown 27 = .ok (.iload_n 2, 1) := by decide +kernel
theorem dX1_comeDown_28 : decode cX1_comeDown 28 = .ok (.ireturn, 1) := by decide +kernel
theorem dX1_goOn_0 : decode cX1_goOn 0 = .ok (.aload_n 0, 1) := by decide +kernel
theorem dX1_goOn_1 : decode cX1_goOn 1 = .ok (.invokevirtual 62, 3) := by decide +kernel
theorem dX1_goOn_4 : decode cX1_goOn 4 = .ok (.istore_n 2, 1) := by decide +kernel
theorem dX1_goOn_5 : decode cX1_goOn 5 = .ok (.iload_n 2, 1) := by decide +kernel
theorem dX1_goOn_6 : decode cX1_goOn 6 = .ok (.ifCond .eq 46, 3) := by decide +kernel
theorem dX1_goOn_9 : decode cX1_goOn 9 = .ok (.aload_n 0, 1) := by decide +kernel
theorem dX1_goOn_10 : decode cX1_goOn 10 = .ok (.dup, 1) := by decide +kernel
theorem dX1_goOn_11 : decode cX1_goOn 11 = .ok (.getfield 38, 3) := by decide +kernel
theorem dX1_goOn_14 : decode cX1_goOn 14 = .ok (.aload_n 1, 1) := by decide +kernel
theorem dX1_goOn_15 : decode cX1_goOn 15 = .ok (.aload_n 0, 1) := by decide +kernel
theorem dX1_goOn_16 : decode cX1_goOn 16 = .ok (.getfield 32, 3) := by decide +kernel
theorem dX1_goOn_19 : decode cX1_goOn 19 = .ok (.invokevirtual 65, 3) := by decide +kernel
theorem dX1_goOn_22 : decode cX1_goOn 22 = .ok (.i2d, 1) := by decide +kernel
theorem dX1_goOn_23 : decode cX1_goOn 23 = .ok (.dadd, 1) := by decide +kernel
theorem dX1_goOn_24 : decode cX1_goOn 24 = .ok (.putfield 38, 3) := by decide +kernel
theorem dX1_goOn_27 : decode cX1_goOn 27 = .ok (.aload_n 0, 1) := by decide +kernel
theorem dX1_goOn_28 : decode cX1_goOn 28 = .ok (.dup, 1) := by decide +kernel
theorem dX1_goOn_29 : decode cX1_goOn 29 = .ok (.getfield 41, 3) := by decide +kernel
theorem dX1_goOn_32 : decode cX1_goOn 32 = .ok (.aload_n 1, 1) := by decide +kernel
theorem dX1_goOn_33 : decode cX1_goOn 33 = .ok (.aload_n 0, 1) := by decide +kernel
theorem dX1_goOn_34 : decode cX1_goOn 34 = .ok (.getfield 32, 3) := by decide +kernel
theorem dX1_goOn_37 : decode cX1_goOn 37 = .ok (.invokevirtual 71, 3) := by decide +kernel
theorem dX1_goOn_40 : decode cX1_goOn 40 = .ok (.i2d, 1) := by decide +kernel
theorem dX1_goOn_41 : decode cX1_goOn 41 = .ok (.dadd, 1) := by decide +kernel
theorem dX1_goOn_42 : decode cX1_goOn 42 = .ok (.putfield 41, 3) := by decide +kernel
theorem dX1_goOn_45 : decode cX1_goOn 45 = .ok (.aload_n 0, 1) := by decide +kernel
theorem dX1_goOn_46 : decode cX1_goOn 46 = .ok (.invokevirtual 74, 3) := by decide +kernel
theorem dX1_goOn_49 : decode cX1_goOn 49 = .ok (.goto 47, 3) := by decide +kernel
theorem dX1_goOn_52 : decode cX1_goOn 52 = .ok (.aload_n 0, 1) := by decide +kernel
theorem dX1_goOn_53 : decode cX1_goOn 53 = .ok (.dup, 1) := by decide +kernel
theorem dX1_goOn_54 : decode cX1_goOn 54 = .ok (.getfield 38, 3) := by decide +kernel
theorem dX1_goOn_57 : decode cX1_goOn 57 = .ok (.aload_n 1, 1) := by decide +kernel
theorem dX1_goOn_58 : decode cX1_goOn 58 = .ok (.aload_n 0, 1) := by decide +kernel
theorem dX1_goOn_59 : decode cX1_goOn 59 = .ok (.getfield 32, 3) := by decide +kernel
theorem dX1_goOn_62 : decode cX1_goOn 62 = .ok (.invokevirtual 65, 3) := by decide +kernel
theorem dX1_goOn_65 : decode cX1_goOn 65 = .ok (.i2d, 1) := by decide +kernel
theorem dX1_goOn_66 : decode cX1_goOn 66 = .ok (.ldc2_w 77, 3) := by decide +kernel
theorem dX1_goOn_69 : decode cX1_goOn 69 = .ok (.dmul, 1) := by decide +kernel
theorem dX1_goOn_70 : decode cX1_goOn 70 = .ok (.dadd, 1) := by decide +kernel
theorem dX1_goOn_71 : decode cX1_goOn 71 = .ok (.putfield 38, 3) := by decide +kernel
theorem dX1_goOn_74 : decode cX1_goOn 74 = .ok (.aload_n 0, 1) := by decide +kernel
theorem dX1_goOn_75 : decode cX1_goOn 75 = .ok (.dup, 1) := by decide +kernel
theorem dX1_goOn_76 : decode cX1_goOn 76 = .ok (.getfield 41, 3) := by decide +kernel
theorem dX1_goOn_79 : decode cX1_goOn 79 = .ok (.aload_n 1, 1) := by decide +kernel
theorem dX1_goOn_80 : decode cX1_goOn 80 = .ok (.aload_n 0, 1) := by decide +kernel
theorem dX1_goOn_81 : decode cX1_goOn 81 = .ok (.getfield 32, 3) := by decide +kernel
theorem dX1_goOn_84 : decode cX1_goOn 84 = .ok (.invokevirtual 71, 3) := by decide +kernel
theorem dX1_goOn_87 : decode cX1_goOn 87 = .ok (.i2d, 1) := by decide +kernel
theorem dX1_goOn_88 : decode cX1_goOn 88 = .ok (.ldc2_w 77, 3) := by decide +kernel
theorem dX1_goOn_91 : decode cX1_goOn 91 = .ok (.dmul, 1) := by decide +kernel
theorem dX1_goOn_92 : decode cX1_goOn 92 = .ok (.dadd, 1) := by decide +kernel
theorem dX1_goOn_93 : decode cX1_goOn 93 = .ok (.putfield 41, 3) := by decide +kernel
theorem dX1_goOn_96 : decode cX1_goOn 96 = .ok (.aload_n 0, 1) := by decide +kernel
theorem dX1_goOn_97 : decode cX1_goOn 97 = .ok (.dup, 1) := by decide +kernel
theorem dX1_goOn_98 : decode cX1_goOn 98 = .ok (.getfield 35, 3) := by decide +kernel
theorem dX1_goOn_101 : decode cX1_goOn 101 = .ok (.iconst 1, 1) := by decide +kernel
theorem dX1_goOn_102 : decode cX1_goOn 102 = .ok (.iadd, 1) := by decide +kernel
theorem dX1_goOn_103 : decode cX1_goOn 103 = .ok (.putfield 35, 3) := by decide +kernel
theorem dX1_goOn_106 : decode cX1_goOn 106 = .ok (.aload_n 0, 1) := by decide +kernel
theorem dX1_goOn_107 : decode cX1_goOn 107 = .ok (.getfield 35, 3) := by decide +kernel
theorem dX1_goOn_110 : decode cX1_goOn 110 = .ok (.iload_n 2, 1) := by decide +kernel
theorem dX1_goOn_111 : decode cX1_goOn 111 = .ok (.ifCond .eq 10, 3) := by decide +kernel
theorem dX1_goOn_114 : decode cX1_goOn 114 = .ok (.aload_n 0, 1) := by decide +kernel
theorem dX1_goOn_115 : decode cX1_goOn 115 = .ok (.getfield 18, 3) := by decide +kernel
theorem dX1_goOn_118 : decode cX1_goOn 118 = .ok (.goto 7, 3) := by decide +kernel
theorem dX1_goOn_121 : decode cX1_goOn 121 = .ok (.aload_n 0, 1) := by decide +kernel
theorem dX1_goOn_122 : decode cX1_goOn 122 = .ok (.getfield 15, 3) := by decide +kernel
theorem dX1_goOn_125 : decode cX1_goOn 125 = .ok (.if_icmp .lt 18, 3) := by decide +kernel
theorem dX1_goOn_128 : decode cX1_goOn 128 = .ok (.aload_n 0, 1) := by decide +kernel
theorem dX1_goOn_129 : decode cX1_goOn 129 = .ok (.dup, 1) := by decide +kernel
theorem dX1_goOn_130 : decode cX1_goOn 130 = .ok (.getfield 32, 3) := by decide +kernel
theorem dX1_goOn_133 : decode cX1_goOn 133 = .ok (.iconst 1, 1) := by decide +kernel
theorem dX1_goOn_134 : decode cX1_goOn 134 = .ok (.isub, 1) := by decide +kernel
theorem dX1_goOn_135 : decode cX1_goOn 135 = .ok (.putfield 32, 3) := by decide +kernel
theorem dX1_goOn_138 : decode cX1_goOn 138 = .ok (.aload_n 0, 1) := by decide +kernel
theorem dX1_goOn_139 : decode cX1_goOn 139 = .ok (.iconst 0, 1) := by decide +kernel
theorem dX1_goOn_140 : decode cX1_goOn 140 = .ok (.putfield 35, 3) := by decide +kernel
theorem dX1_goOn_143 : decode cX1_goOn 143 = .ok (.return_, 1) := by decide +kernel
theorem dX1_steer_0 : decode cX1_steer 0 = .ok (.aload_n 0, 1) := by decide +kernel
theorem dX1_steer_1 : decode cX1_steer 1 = .ok (.getfield 38, 3) := by decide +kernel
theorem dX1_steer_4 : decode cX1_steer 4 = .ok (.invokestatic 79, 3) := by decide +kernel
theorem dX1_steer_7 : decode cX1_steer 7 = .ok (.aload_n 0, 1) := by decide +kernel
theorem dX1_steer_8 : decode cX1_steer 8 = .ok (.getfield 41, 3) := by decide +kernel
theorem dX1_steer_11 : decode cX1_steer 11 = .ok (.invokestatic 79, 3) := by decide +kernel
theorem dX1_steer_14 : decode cX1_steer 14 = .ok (.dcmp .l, 1) := by decide +kernel
theorem dX1_steer_15 : decode cX1_steer 15 = .ok (.ifCond .lt 21, 3) := by decide +kernel
theorem dX1_steer_18 : decode cX1_steer 18 = .ok (.aload_n 0, 1) := by decide +kernel
theorem dX1_steer_19 : decode cX1_steer 19 = .ok (.aload_n 0, 1) := by decide +kernel
theorem dX1_steer_20 : decode cX1_steer 20 = .ok (.getfield 38, 3) := by decide +kernel
theorem dX1_steer_23 : decode cX1_steer 23 = .ok (.aload_n 0, 1) := by decide +kernel
theorem dX1_steer_24 : decode cX1_steer 24 = .ok (.getfield 21, 3) := by decide +kernel
theorem dX1_steer_27 : decode cX1_steer 27 = .ok (.invokestatic 83, 3) := by decide +kernel
theorem dX1_steer_30 : decode cX1_steer 30 = .ok (.putfield 38, 3) := by decide +kernel
theorem dX1_steer_33 : decode cX1_steer 33 = .ok (.goto 18, 3) := by decide +kernel
theorem dX1_steer_36 : decode cX1_steer 36 = .ok (.aload_n 0, 1) := by decide +kernel
theorem dX1_steer_37 : decode cX1_steer 37 = .ok (.aload_n 0, 1) := by decide +kernel
theorem dX1_steer_38 : decode cX1_steer 38 = .ok (.getfield 41, 3) := by decide +kernel
theorem dX1_steer_41 : decode cX1_steer 41 = .ok (.aload_n 0, 1) := by decide +kernel
theorem dX1_steer_42 : decode cX1_steer 42 = .ok (.getfield 21, 3) := by decide +kernel
theorem dX1_steer_45 : decode cX1_steer 45 = .ok (.invokestatic 83, 3) := by decide +kernel
theorem dX1_steer_48 : decode cX1_steer 48 = .ok (.putfield 41, 3) := by decide +kernel
theorem dX1_steer_51 : decode cX1_steer 51 = .ok (.return_, 1) := by decide +kernel
theorem dX1_nearer_0 : decode cX1_nearer 0 = .ok (.dload_n 0, 1) := by decide +kernel
theorem dX1_nearer_1 : decode cX1_nearer 1 = .ok (.dload_n 2, 1) := by decide +kernel
theorem dX1_nearer_2 : decode cX1_nearer 2 = .ok (.dcmp .l, 1) := by decide +kernel
theorem dX1_nearer_3 : decode cX1_nearer 3 = .ok (.ifCond .le 7, 3) := by decide +kernel
theorem dX1_nearer_6 : decode cX1_nearer 6 = .ok (.dload_n 0, 1) := by decide +kernel
theorem dX1_nearer_7 : decode cX1_nearer 7 = .ok (.dload_n 2, 1) := by decide +kernel
theorem dX1_nearer_8 : decode cX1_nearer 8 = .ok (.dsub, 1) := by decide +kernel
theorem dX1_nearer_9 : decode cX1_nearer 9 = .ok (.dreturn, 1) := by decide +kernel
theorem dX1_nearer_10 : decode cX1_nearer 10 = .ok (.dload_n 0, 1) := by decide +kernel
theorem dX1_nearer_11 : decode cX1_nearer 11 = .ok (.dload_n 2, 1) := by decide +kernel
theorem dX1_nearer_12 : decode cX1_nearer 12 = .ok (.dneg, 1) := by decide +kernel
theorem dX1_nearer_13 : decode cX1_nearer 13 = .ok (.dcmp .g, 1) := by decide +kernel
theorem dX1_nearer_14 : decode cX1_nearer 14 = .ok (.ifCond .ge 9, 3) := by decide +kernel
theorem dX1_nearer_17 : decode cX1_nearer 17 = .ok (.dload_n 0, 1) := by decide +kernel
theorem dX1_nearer_18 : decode cX1_nearer 18 = .ok (.dload_n 2, 1) := by decide +kernel
theorem dX1_nearer_19 : decode cX1_nearer 19 = .ok (.dadd, 1) := by decide +kernel
theorem dX1_nearer_20 : decode cX1_nearer 20 = .ok (.goto 4, 3) := by decide +kernel
theorem dX1_nearer_23 : decode cX1_nearer 23 = .ok (.dconst 0, 1) := by decide +kernel
theorem dX1_nearer_24 : decode cX1_nearer 24 = .ok (.dreturn, 1) := by decide +kernel
theorem dX1_sizeOf_0 : decode cX1_sizeOf 0 = .ok (.dload_n 0, 1) := by decide +kernel
theorem dX1_sizeOf_1 : decode cX1_sizeOf 1 = .ok (.dconst 0, 1) := by decide +kernel
theorem dX1_sizeOf_2 : decode cX1_sizeOf 2 = .ok (.dcmp .g, 1) := by decide +kernel
theorem dX1_sizeOf_3 : decode cX1_sizeOf 3 = .ok (.ifCond .ge 8, 3) := by decide +kernel
theorem dX1_sizeOf_6 : decode cX1_sizeOf 6 = .ok (.dload_n 0, 1) := by decide +kernel
theorem dX1_sizeOf_7 : decode cX1_sizeOf 7 = .ok (.dneg, 1) := by decide +kernel
theorem dX1_sizeOf_8 : decode cX1_sizeOf 8 = .ok (.goto 4, 3) := by decide +kernel
theorem dX1_sizeOf_11 : decode cX1_sizeOf 11 = .ok (.dload_n 0, 1) := by decide +kernel
theorem dX1_sizeOf_12 : decode cX1_sizeOf 12 = .ok (.dreturn, 1) := by decide +kernel
theorem dX1_far_0 : decode cX1_far 0 = .ok (.aload_n 0, 1) := by decide +kernel
theorem dX1_far_1 : decode cX1_far 1 = .ok (.getfield 38, 3) := by decide +kernel
theorem dX1_far_4 : decode cX1_far 4 = .ok (.invokestatic 79, 3) := by decide +kernel
theorem dX1_far_7 : decode cX1_far 7 = .ok (.aload_n 0, 1) := by decide +kernel
theorem dX1_far_8 : decode cX1_far 8 = .ok (.getfield 41, 3) := by decide +kernel
theorem dX1_far_11 : decode cX1_far 11 = .ok (.invokestatic 79, 3) := by decide +kernel
theorem dX1_far_14 : decode cX1_far 14 = .ok (.dcmp .l, 1) := by decide +kernel
theorem dX1_far_15 : decode cX1_far 15 = .ok (.ifCond .lt 13, 3) := by decide +kernel
theorem dX1_far_18 : decode cX1_far 18 = .ok (.aload_n 0, 1) := by decide +kernel
theorem dX1_far_19 : decode cX1_far 19 = .ok (.getfield 38, 3) := by decide +kernel
theorem dX1_far_22 : decode cX1_far 22 = .ok (.invokestatic 79, 3) := by decide +kernel
theorem dX1_far_25 : decode cX1_far 25 = .ok (.goto 10, 3) := by decide +kernel
theorem dX1_far_28 : decode cX1_far 28 = .ok (.aload_n 0, 1) := by decide +kernel
theorem dX1_far_29 : decode cX1_far 29 = .ok (.getfield 41, 3) := by decide +kernel
theorem dX1_far_32 : decode cX1_far 32 = .ok (.invokestatic 79, 3) := by decide +kernel
theorem dX1_far_35 : decode cX1_far 35 = .ok (.dreturn, 1) := by decide +kernel
theorem dX1_points_0 : decode cX1_points 0 = .ok (.aload_n 0, 1) := by decide +kernel
theorem dX1_points_1 : decode cX1_points 1 = .ok (.invokevirtual 87, 3) := by decide +kernel
theorem dX1_points_4 : decode cX1_points 4 = .ok (.dstore_n 1, 1) := by decide +kernel
theorem dX1_points_5 : decode cX1_points 5 = .ok (.dload_n 1, 1) := by decide +kernel
theorem dX1_points_6 : decode cX1_points 6 = .ok (.ldc2_w 91, 3) := by decide +kernel
theorem dX1_points_9 : decode cX1_points 9 = .ok (.dcmp .g, 1) := by decide +kernel
theorem dX1_points_10 : decode cX1_points 10 = .ok (.ifCond .gt 5, 3) := by decide +kernel
theorem dX1_points_13 : decode cX1_points 13 = .ok (.iconst 3, 1) := by decide +kernel
theorem dX1_points_14 : decode cX1_points 14 = .ok (.ireturn, 1) := by decide +kernel
theorem dX1_points_15 : decode cX1_points 15 = .ok (.dload_n 1, 1) := by decide +kernel
theorem dX1_points_16 : decode cX1_points 16 = .ok (.ldc2_w 93, 3) := by decide +kernel
theorem dX1_points_19 : decode cX1_points 19 = .ok (.dcmp .g, 1) := by decide +kernel
theorem dX1_points_20 : decode cX1_points 20 = .ok (.ifCond .gt 7, 3) := by decide +kernel
theorem dX1_points_23 : decode cX1_points 23 = .ok (.iconst 1, 1) := by decide +kernel
theorem dX1_points_24 : decode cX1_points 24 = .ok (.goto 4, 3) := by decide +kernel
theorem dX1_points_27 : decode cX1_points 27 = .ok (.iconst 0, 1) := by decide +kernel
theorem dX1_points_28 : decode cX1_points 28 = .ok (.ireturn, 1) := by decide +kernel
theorem dX1_isNear_0 : decode cX1_isNear 0 = .ok (.aload_n 0, 1) := by decide +kernel
theorem dX1_isNear_1 : decode cX1_isNear 1 = .ok (.invokevirtual 62, 3) := by decide +kernel
theorem dX1_isNear_4 : decode cX1_isNear 4 = .ok (.ifCond .eq 63, 3) := by decide +kernel
theorem dX1_isNear_7 : decode cX1_isNear 7 = .ok (.aload_n 1, 1) := by decide +kernel
theorem dX1_isNear_8 : decode cX1_isNear 8 = .ok (.invokevirtual 62, 3) := by decide +kernel
theorem dX1_isNear_11 : decode cX1_isNear 11 = .ok (.ifCond .eq 56, 3) := by decide +kernel
theorem dX1_isNear_14 : decode cX1_isNear 14 = .ok (.aload_n 0, 1) := by decide +kernel
theorem dX1_isNear_15 : decode cX1_isNear 15 = .ok (.getfield 32, 3) := by decide +kernel
theorem dX1_isNear_18 : decode cX1_isNear 18 = .ok (.aload_n 1, 1) := by decide +kernel
theorem dX1_isNear_19 : decode cX1_isNear 19 = .ok (.getfield 32, 3) := by decide +kernel
theorem dX1_isNear_22 : decode cX1_isNear 22 = .ok (.if_icmp .ne 45, 3) := by decide +kernel
theorem dX1_isNear_25 : decode cX1_isNear 25 = .ok (.aload_n 0, 1) := by decide +kernel
theorem dX1_isNear_26 : decode cX1_isNear 26 = .ok (.getfield 38, 3) := by decide +kernel
theorem dX1_isNear_29 : decode cX1_isNear 29 = .ok (.aload_n 1, 1) := by decide +kernel
theorem dX1_isNear_30 : decode cX1_isNear 30 = .ok (.getfield 38, 3) := by decide +kernel
theorem dX1_isNear_33 : decode cX1_isNear 33 = .ok (.dsub, 1) := by decide +kernel
theorem dX1_isNear_34 : decode cX1_isNear 34 = .ok (.invokestatic 79, 3) := by decide +kernel
theorem dX1_isNear_37 : decode cX1_isNear 37 = .ok (.ldc2_w 95, 3) := by decide +kernel
theorem dX1_isNear_40 : decode cX1_isNear 40 = .ok (.dcmp .g, 1) := by decide +kernel
theorem dX1_isNear_41 : decode cX1_isNear 41 = .ok (.ifCond .ge 26, 3) := by decide +kernel
theorem dX1_isNear_44 : decode cX1_isNear 44 = .ok (.aload_n 0, 1) := by decide +kernel
theorem dX1_isNear_45 : decode cX1_isNear 45 = .ok (.getfield 41, 3) := by decide +kernel
theorem dX1_isNear_48 : decode cX1_isNear 48 = .ok (.aload_n 1, 1) := by decide +kernel
theorem dX1_isNear_49 : decode cX1_isNear 49 = .ok (.getfield 41, 3) := by decide +kernel
theorem dX1_isNear_52 : decode cX1_isNear 52 = .ok (.dsub, 1) := by decide +kernel
theorem dX1_isNear_53 : decode cX1_isNear 53 = .ok (.invokestatic 79, 3) := by decide +kernel
theorem dX1_isNear_56 : decode cX1_isNear 56 = .ok (.ldc2_w 95, 3) := by decide +kernel
theorem dX1_isNear_59 : decode cX1_isNear 59 = .ok (.dcmp .g, 1) := by decide +kernel
theorem dX1_isNear_60 : decode cX1_isNear 60 = .ok (.ifCond .ge 7, 3) := by decide +kernel
theorem dX1_isNear_63 : decode cX1_isNear 63 = .ok (.iconst 1, 1) := by decide +kernel
theorem dX1_isNear_64 : decode cX1_isNear 64 = .ok (.goto 4, 3) := by decide +kernel
theorem dX1_isNear_67 : decode cX1_isNear 67 = .ok (.iconst 0, 1) := by decide +kernel
theorem dX1_isNear_68 : decode cX1_isNear 68 = .ok (.ireturn, 1) := by decide +kernel
theorem dX2_init_0 : decode cX2_init 0 = .ok (.aload_n 0, 1) := by decide +kernel
theorem dX2_init_1 : decode cX2_init 1 = .ok (.invokespecial 3, 3) := by decide +kernel
theorem dX2_init_4 : decode cX2_init 4 = .ok (.aload_n 0, 1) := by decide +kernel
theorem dX2_init_5 : decode cX2_init 5 = .ok (.iconst 0, 1) := by decide +kernel
theorem dX2_init_6 : decode cX2_init 6 = .ok (.putfield 9, 3) := by decide +kernel
theorem dX2_init_9 : decode cX2_init 9 = .ok (.aload_n 0, 1) := by decide +kernel
theorem dX2_init_10 : decode cX2_init 10 = .ok (.iconst 0, 1) := by decide +kernel
theorem dX2_init_11 : decode cX2_init 11 = .ok (.putfield 15, 3) := by decide +kernel
theorem dX2_init_14 : decode cX2_init 14 = .ok (.aload_n 0, 1) := by decide +kernel
theorem dX2_init_15 : decode cX2_init 15 = .ok (.iconst (-1), 1) := by decide +kernel
theorem dX2_init_16 : decode cX2_init 16 = .ok (.putfield 18, 3) := by decide +kernel
theorem dX2_init_19 : decode cX2_init 19 = .ok (.aload_n 0, 1) := by decide +kernel
theorem dX2_init_20 : decode cX2_init 20 = .ok (.iconst 0, 1) := by decide +kernel
theorem dX2_init_21 : decode cX2_init 21 = .ok (.putfield 21, 3) := by decide +kernel
theorem dX2_init_24 : decode cX2_init 24 = .ok (.aload_n 0, 1) := by decide +kernel
theorem dX2_init_25 : decode cX2_init 25 = .ok (.iconst 0, 1) := by decide +kernel
theorem dX2_init_26 : decode cX2_init 26 = .ok (.putfield 24, 3) := by decide +kernel
theorem dX2_init_29 : decode cX2_init 29 = .ok (.aload_n 0, 1) := by decide +kernel
theorem dX2_init_30 : decode cX2_init 30 = .ok (.iconst 0, 1) := by decide +kernel
theorem dX2_init_31 : decode cX2_init 31 = .ok (.putfield 27, 3) := by decide +kernel
theorem dX2_init_34 : decode cX2_init 34 = .ok (.aload_n 0, 1) := by decide +kernel
theorem dX2_init_35 : decode cX2_init 35 = .ok (.iconst 0, 1) := by decide +kernel
theorem dX2_init_36 : decode cX2_init 36 = .ok (.putfield 30, 3) := by decide +kernel
theorem dX2_init_39 : decode cX2_init 39 = .ok (.aload_n 0, 1) := by decide +kernel
theorem dX2_init_40 : decode cX2_init 40 = .ok (.iconst 0, 1) := by decide +kernel
theorem dX2_init_41 : decode cX2_init 41 = .ok (.putfield 33, 3) := by decide +kernel
theorem dX2_init_44 : decode cX2_init 44 = .ok (.aload_n 0, 1) := by decide +kernel
theorem dX2_init_45 : decode cX2_init 45 = .ok (.dconst 0, 1) := by decide +kernel
theorem dX2_init_46 : decode cX2_init 46 = .ok (.putfield 36, 3) := by decide +kernel
theorem dX2_init_49 : decode cX2_init 49 = .ok (.aload_n 0, 1) := by decide +kernel
theorem dX2_init_50 : decode cX2_init 50 = .ok (.dconst 0, 1) := by decide +kernel
theorem dX2_init_51 : decode cX2_init 51 = .ok (.putfield 40, 3) := by decide +kernel
theorem dX2_init_54 : decode cX2_init 54 = .ok (.aload_n 0, 1) := by decide +kernel
theorem dX2_init_55 : decode cX2_init 55 = .ok (.iconst 0, 1) := by decide +kernel
theorem dX2_init_56 : decode cX2_init 56 = .ok (.putfield 43, 3) := by decide +kernel
theorem dX2_init_59 : decode cX2_init 59 = .ok (.aload_n 0, 1) := by decide +kernel
theorem dX2_init_60 : decode cX2_init 60 = .ok (.bipush 6, 2) := by decide +kernel
theorem dX2_init_62 : decode cX2_init 62 = .ok (.putfield 46, 3) := by decide +kernel
theorem dX2_init_65 : decode cX2_init 65 = .ok (.return_, 1) := by decide +kernel
theorem dX3_init_0 : decode cX3_init 0 = .ok (.aload_n 0, 1) := by decide +kernel
theorem dX3_init_1 : decode cX3_init 1 = .ok (.invokespecial 1, 3) := by decide +kernel
theorem dX3_init_4 : decode cX3_init 4 = .ok (.aload_n 0, 1) := by decide +kernel
theorem dX3_init_5 : decode cX3_init 5 = .ok (.iconst 0, 1) := by decide +kernel
theorem dX3_init_6 : decode cX3_init 6 = .ok (.putfield 7, 3) := by decide +kernel
theorem dX3_init_9 : decode cX3_init 9 = .ok (.aload_n 0, 1) := by decide +kernel
theorem dX3_init_10 : decode cX3_init 10 = .ok (.iconst 0, 1) := by decide +kernel
theorem dX3_init_11 : decode cX3_init 11 = .ok (.putfield 13, 3) := by decide +kernel
theorem dX3_init_14 : decode cX3_init 14 = .ok (.aload_n 0, 1) := by decide +kernel
theorem dX3_init_15 : decode cX3_init 15 = .ok (.iconst 0, 1) := by decide +kernel
theorem dX3_init_16 : decode cX3_init 16 = .ok (.putfield 16, 3) := by decide +kernel
theorem dX3_init_19 : decode cX3_init 19 = .ok (.aload_n 0, 1) := by decide +kernel
theorem dX3_init_20 : decode cX3_init 20 = .ok (.iconst 0, 1) := by decide +kernel
theorem dX3_init_21 : decode cX3_init 21 = .ok (.putfield 19, 3) := by decide +kernel
theorem dX3_init_24 : decode cX3_init 24 = .ok (.aload_n 0, 1) := by decide +kernel
theorem dX3_init_25 : decode cX3_init 25 = .ok (.fconst 0, 1) := by decide +kernel
theorem dX3_init_26 : decode cX3_init 26 = .ok (.putfield 23, 3) := by decide +kernel
theorem dX3_init_29 : decode cX3_init 29 = .ok (.return_, 1) := by decide +kernel
theorem dX4_init_0 : decode cX4_init 0 = .ok (.aload_n 0, 1) := by decide +kernel
theorem dX4_init_1 : decode cX4_init 1 = .ok (.invokespecial 3, 3) := by decide +kernel
theorem dX4_init_4 : decode cX4_init 4 = .ok (.aload_n 0, 1) := by decide +kernel
theorem dX4_init_5 : decode cX4_init 5 = .ok (.bipush 10, 2) := by decide +kernel
theorem dX4_init_7 : decode cX4_init 7 = .ok (.newarray .int, 2) := by decide +kernel
theorem dX4_init_9 : decode cX4_init 9 = .ok (.putfield 9, 3) := by decide +kernel
theorem dX4_init_12 : decode cX4_init 12 = .ok (.aload_n 0, 1) := by decide +kernel
theorem dX4_init_13 : decode cX4_init 13 = .ok (.bipush 10, 2) := by decide +kernel
theorem dX4_init_15 : decode cX4_init 15 = .ok (.newarray .int, 2) := by decide +kernel
theorem dX4_init_17 : decode cX4_init 17 = .ok (.putfield 15, 3) := by decide +kernel
theorem dX4_init_20 : decode cX4_init 20 = .ok (.return_, 1) := by decide +kernel
theorem dX4_tell_0 : decode cX4_tell 0 = .ok (.iload_n 1, 1) := by decide +kernel
theorem dX4_tell_1 : decode cX4_tell 1 = .ok (.ifCond .lt 23, 3) := by decide +kernel
theorem dX4_tell_4 : decode cX4_tell 4 = .ok (.iload_n 1, 1) := by decide +kernel
theorem dX4_tell_5 : decode cX4_tell 5 = .ok (.bipush 10, 2) := by decide +kernel
theorem dX4_tell_7 : decode cX4_tell 7 = .ok (.if_icmp .ge 17, 3) := by decide +kernel
theorem dX4_tell_10 : decode cX4_tell 10 = .ok (.aload_n 0, 1) := by decide +kernel
theorem dX4_tell_11 : decode cX4_tell 11 = .ok (.getfield 9, 3) := by decide +kernel
theorem dX4_tell_14 : decode cX4_tell 14 = .ok (.iload_n 1, 1) := by decide +kernel
theorem dX4_tell_15 : decode cX4_tell 15 = .ok (.iload_n 2, 1) := by decide +kernel
theorem dX4_tell_16 : decode cX4_tell 16 = .ok (.iastore, 1) := by decide +kernel
theorem dX4_tell_17 : decode cX4_tell 17 = .ok (.aload_n 0, 1) := by decide +kernel
theorem dX4_tell_18 : decode cX4_tell 18 = .ok (.getfield 15, 3) := by decide +kernel
theorem dX4_tell_21 : decode cX4_tell 21 = .ok (.iload_n 1, 1) := by decide +kernel
theorem dX4_tell_22 : decode cX4_tell 22 = .ok (.iload_n 3, 1) := by decide +kernel
theorem dX4_tell_23 : decode cX4_tell 23 = .ok (.iastore, 1) := by decide +kernel
theorem dX4_tell_24 : decode cX4_tell 24 = .ok (.return_, 1) := by decide +kernel
theorem dX4_xOf_0 : decode cX4_xOf 0 = .ok (.iload_n 1, 1) := by decide +kernel
theorem dX4_xOf_1 : decode cX4_xOf 1 = .ok (.ifCond .lt 18, 3) := by decide +kernel
theorem dX4_xOf_4 : decode cX4_xOf 4 = .ok (.iload_n 1, 1) := by decide +kernel
theorem dX4_xOf_5 : decode cX4_xOf 5 = .ok (.bipush 10, 2) := by decide +kernel
theorem dX4_xOf_7 : decode cX4_xOf 7 = .ok (.if_icmp .ge 12, 3) := by decide +kernel
theorem dX4_xOf_10 : decode cX4_xOf 10 = .ok (.aload_n 0, 1) := by decide +kernel
theorem dX4_xOf_11 : decode cX4_xOf 11 = .ok (.getfield 9, 3) := by decide +kernel
theorem dX4_xOf_14 : decode cX4_xOf 14 = .ok (.iload_n 1, 1) := by decide +kernel
theorem dX4_xOf_15 : decode cX4_xOf 15 = .ok (.iaload, 1) := by decide +kernel
theorem dX4_xOf_16 : decode cX4_xOf 16 = .ok (.goto 4, 3) := by decide +kernel
theorem dX4_xOf_19 : decode cX4_xOf 19 = .ok (.iconst 0, 1) := by decide +kernel
theorem dX4_xOf_20 : decode cX4_xOf 20 = .ok (.ireturn, 1) := by decide +kernel
theorem dX4_yOf_0 : decode cX4_yOf 0 = .ok (.iload_n 1, 1) := by decide +kernel
theorem dX4_yOf_1 : decode cX4_yOf 1 = .ok (.ifCond .lt 18, 3) := by decide +kernel
theorem dX4_yOf_4 : decode cX4_yOf 4 = .ok (.iload_n 1, 1) := by decide +kernel
theorem dX4_yOf_5 : decode cX4_yOf 5 = .ok (.bipush 10, 2) := by decide +kernel
theorem dX4_yOf_7 : decode cX4_yOf 7 = .ok (.if_icmp .ge 12, 3) := by decide +kernel
theorem dX4_yOf_10 : decode cX4_yOf 10 = .ok (.aload_n 0, 1) := by decide +kernel
theorem dX4_yOf_11 : decode cX4_yOf 11 = .ok (.getfield 15, 3) := by decide +kernel
theorem dX4_yOf_14 : decode cX4_yOf 14 = .ok (.iload_n 1, 1) := by decide +kernel
theorem dX4_yOf_15 : decode cX4_yOf 15 = .ok (.iaload, 1) := by decide +kernel
theorem dX4_yOf_16 : decode cX4_yOf 16 = .ok (.goto 4, 3) := by decide +kernel
theorem dX4_yOf_19 : decode cX4_yOf 19 = .ok (.iconst 0, 1) := by decide +kernel
theorem dX4_yOf_20 : decode cX4_yOf 20 = .ok (.ireturn, 1) := by decide +kernel
theorem dX4_ground_0 : decode cX4_ground 0 = .ok (.aload_n 0, 1) := by decide +kernel
theorem dX4_ground_1 : decode cX4_ground 1 = .ok (.getfield 9, 3) := by decide +kernel
theorem dX4_ground_4 : decode cX4_ground 4 = .ok (.iconst 0, 1) := by decide +kernel
theorem dX4_ground_5 : decode cX4_ground 5 = .ok (.iaload, 1) := by decide +kernel
theorem dX4_ground_6 : decode cX4_ground 6 = .ok (.invokestatic 18, 3) := by decide +kernel
theorem dX4_ground_9 : decode cX4_ground 9 = .ok (.aload_n 0, 1) := by decide +kernel
theorem dX4_ground_10 : decode cX4_ground 10 = .ok (.getfield 15, 3) := by decide +kernel
theorem dX4_ground_13 : decode cX4_ground 13 = .ok (.iconst 0, 1) := by decide +kernel
theorem dX4_ground_14 : decode cX4_ground 14 = .ok (.iaload, 1) := by decide +kernel
theorem dX4_ground_15 : decode cX4_ground 15 = .ok (.invokestatic 18, 3) := by decide +kernel
theorem dX4_ground_18 : decode cX4_ground 18 = .ok (.iadd, 1) := by decide +kernel
theorem dX4_ground_19 : decode cX4_ground 19 = .ok (.ireturn, 1) := by decide +kernel
theorem dX5_init_0 : decode cX5_init 0 = .ok (.aload_n 0, 1) := by decide +kernel
theorem dX5_init_1 : decode cX5_init 1 = .ok (.invokespecial 3, 3) := by decide +kernel
theorem dX5_init_4 : decode cX5_init 4 = .ok (.aload_n 0, 1) := by decide +kernel
theorem dX5_init_5 : decode cX5_init 5 = .ok (.bipush 8, 2) := by decide +kernel
theorem dX5_init_7 : decode cX5_init 7 = .ok (.anewarray 9, 3) := by decide +kernel
theorem dX5_init_10 : decode cX5_init 10 = .ok (.putfield 11, 3) := by decide +kernel
theorem dX5_init_13 : decode cX5_init 13 = .ok (.aload_n 0, 1) := by decide +kernel
theorem dX5_init_14 : decode cX5_init 14 = .ok (.iconst 0, 1) := by decide +kernel
theorem dX5_init_15 : decode cX5_init 15 = .ok (.putfield 15, 3) := by decide +kernel
theorem dX5_init_18 : decode cX5_init 18 = .ok (.aload_n 0, 1) := by decide +kernel
theorem dX5_init_19 : decode cX5_init 19 = .ok (.bipush 8, 2) := by decide +kernel
theorem dX5_init_21 : decode cX5_init 21 = .ok (.anewarray 19, 3) := by decide +kernel
theorem dX5_init_24 : decode cX5_init 24 = .ok (.putfield 21, 3) := by decide +kernel
theorem dX5_init_27 : decode cX5_init 27 = .ok (.aload_n 0, 1) := by decide +kernel
theorem dX5_init_28 : decode cX5_init 28 = .ok (.iconst 0, 1) := by decide +kernel
theorem dX5_init_29 : decode cX5_init 29 = .ok (.putfield 25, 3) := by decide +kernel
theorem dX5_init_32 : decode cX5_init 32 = .ok (.aload_n 0, 1) := by decide +kernel
theorem dX5_init_33 : decode cX5_init 33 = .ok (.new 28, 3) := by decide +kernel
theorem dX5_init_36 : decode cX5_init 36 = .ok (.dup, 1) := by decide +kernel
theorem dX5_init_37 : decode cX5_init 37 = .ok (.invokespecial 30, 3) := by decide +kernel
theorem dX5_init_40 : decode cX5_init 40 = .ok (.putfield 31, 3) := by decide +kernel
theorem dX5_init_43 : decode cX5_init 43 = .ok (.aload_n 0, 1) := by decide +kernel
theorem dX5_init_44 : decode cX5_init 44 = .ok (.bipush 6, 2) := by decide +kernel
theorem dX5_init_46 : decode cX5_init 46 = .ok (.newarray .int, 2) := by decide +kernel
theorem dX5_init_48 : decode cX5_init 48 = .ok (.putfield 35, 3) := by decide +kernel
theorem dX5_init_51 : decode cX5_init 51 = .ok (.aload_n 0, 1) := by decide +kernel
theorem dX5_init_52 : decode cX5_init 52 = .ok (.iconst 0, 1) := by decide +kernel
theorem dX5_init_53 : decode cX5_init 53 = .ok (.putfield 39, 3) := by decide +kernel
theorem dX5_init_56 : decode cX5_init 56 = .ok (.aload_n 0, 1) := by decide +kernel
theorem dX5_init_57 : decode cX5_init 57 = .ok (.iconst 0, 1) := by decide +kernel
theorem dX5_init_58 : decode cX5_init 58 = .ok (.putfield 42, 3) := by decide +kernel
theorem dX5_init_61 : decode cX5_init 61 = .ok (.aload_n 0, 1) := by decide +kernel
theorem dX5_init_62 : decode cX5_init 62 = .ok (.new 46, 3) := by decide +kernel
theorem dX5_init_65 : decode cX5_init 65 = .ok (.dup, 1) := by decide +kernel
theorem dX5_init_66 : decode cX5_init 66 = .ok (.invokespecial 48, 3) := by decide +kernel
theorem dX5_init_69 : decode cX5_init 69 = .ok (.putfield 49, 3) := by decide +kernel
theorem dX5_init_72 : decode cX5_init 72 = .ok (.aload_n 0, 1) := by decide +kernel
theorem dX5_init_73 : decode cX5_init 73 = .ok (.new 53, 3) := by decide +kernel
theorem dX5_init_76 : decode cX5_init 76 = .ok (.dup, 1) := by decide +kernel
theorem dX5_init_77 : decode cX5_init 77 = .ok (.invokespecial 55, 3) := by decide +kernel
theorem dX5_init_80 : decode cX5_init 80 = .ok (.putfield 56, 3) := by decide +kernel
theorem dX5_init_83 : decode cX5_init 83 = .ok (.aload_n 0, 1) := by decide +kernel
theorem dX5_init_84 : decode cX5_init 84 = .ok (.iconst 0, 1) := by decide +kernel
theorem dX5_init_85 : decode cX5_init 85 = .ok (.putfield 60, 3) := by decide +kernel
theorem dX5_init_88 : decode cX5_init 88 = .ok (.aload_n 0, 1) := by decide +kernel
theorem dX5_init_89 : decode cX5_init 89 = .ok (.iconst 3, 1) := by decide +kernel
theorem dX5_init_90 : decode cX5_init 90 = .ok (.putfield 63, 3) := by decide +kernel
theorem dX5_init_93 : decode cX5_init 93 = .ok (.aload_n 0, 1) := by decide +kernel
theorem dX5_init_94 : decode cX5_init 94 = .ok (.iconst 0, 1) := by decide +kernel
theorem dX5_init_95 : decode cX5_init 95 = .ok (.putfield 66, 3) := by decide +kernel
theorem dX5_init_98 : decode cX5_init 98 = .ok (.aload_n 0, 1) := by decide +kernel
theorem dX5_init_99 : decode cX5_init 99 = .ok (.iconst 0, 1) := by decide +kernel
theorem dX5_init_100 : decode cX5_init 100 = .ok (.putfield 69, 3) := by decide +kernel
theorem dX5_init_103 : decode cX5_init 103 = .ok (.aload_n 0, 1) := by decide +kernel
theorem dX5_init_104 : decode cX5_init 104 = .ok (.iconst 0, 1) := by decide +kernel
theorem dX5_init_105 : decode cX5_init 105 = .ok (.putfield 72, 3) := by decide +kernel
theorem dX5_init_108 : decode cX5_init 108 = .ok (.aload_n 0, 1) := by decide +kernel
theorem dX5_init_109 : decode cX5_init 109 = .ok (.iconst 0, 1) := by decide +kernel
theorem dX5_init_110 : decode cX5_init 110 = .ok (.putfield 75, 3) := by decide +kernel
theorem dX5_init_113 : decode cX5_init 113 = .ok (.aload_n 0, 1) := by decide +kernel
theorem dX5_init_114 : decode cX5_init 114 = .ok (.iconst 0, 1) := by decide +kernel
theorem dX5_init_115 : decode cX5_init 115 = .ok (.putfield 78, 3) := by decide +kernel
theorem dX5_init_118 : decode cX5_init 118 = .ok (.aload_n 0, 1) := by decide +kernel
theorem dX5_init_119 : decode cX5_init 119 = .ok (.iconst 0, 1) := by decide +kernel
theorem dX5_init_120 : decode cX5_init 120 = .ok (.putfield 81, 3) := by decide +kernel
theorem dX5_init_123 : decode cX5_init 123 = .ok (.iconst 0, 1) := by decide +kernel
theorem dX5_init_124 : decode cX5_init 124 = .ok (.istore_n 1, 1) := by decide +kernel
theorem dX5_init_125 : decode cX5_init 125 = .ok (.iload_n 1, 1) := by decide +kernel
theorem dX5_init_126 : decode cX5_init 126 = .ok (.bipush 8, 2) := by decide +kernel
theorem dX5_init_128 : decode cX5_init 128 = .ok (.if_icmp .ge 22, 3) := by decide +kernel
theorem dX5_init_131 : decode cX5_init 131 = .ok (.aload_n 0, 1) := by decide +kernel
theorem dX5_init_132 : decode cX5_init 132 = .ok (.getfield 11, 3) := by decide +kernel
theorem dX5_init_135 : decode cX5_init 135 = .ok (.iload_n 1, 1) := by decide +kernel
theorem dX5_init_136 : decode cX5_init 136 = .ok (.new 9, 3) := by decide +kernel
theorem dX5_init_139 : decode cX5_init 139 = .ok (.dup, 1) := by decide +kernel
theorem dX5_init_140 : decode cX5_init 140 = .ok (.invokespecial 84, 3) := by decide +kernel
theorem dX5_init_143 : decode cX5_init 143 = .ok (.aastore, 1) := by decide +kernel
theorem dX5_init_144 : decode cX5_init 144 = .ok (.iinc 1 1, 3) := by decide +kernel
theorem dX5_init_147 : decode cX5_init 147 = .ok (.goto (-22), 3) := by decide +kernel
theorem dX5_init_150 : decode cX5_init 150 = .ok (.iconst 0, 1) := by decide +kernel
theorem dX5_init_151 : decode cX5_init 151 = .ok (.istore_n 1, 1) := by decide +kernel
theorem dX5_init_152 : decode cX5_init 152 = .ok (.iload_n 1, 1) := by decide +kernel
theorem dX5_init_153 : decode cX5_init 153 = .ok (.bipush 8, 2) := by decide +kernel
theorem dX5_init_155 : decode cX5_init 155 = .ok (.if_icmp .ge 22, 3) := by decide +kernel
theorem dX5_init_158 : decode cX5_init 158 = .ok (.aload_n 0, 1) := by decide +kernel
theorem dX5_init_159 : decode cX5_init 159 = .ok (.getfield 21, 3) := by decide +kernel
theorem dX5_init_162 : decode cX5_init 162 = .ok (.iload_n 1, 1) := by decide +kernel
theorem dX5_init_163 : decode cX5_init 163 = .ok (.new 19, 3) := by decide +kernel
theorem dX5_init_166 : decode cX5_init 166 = .ok (.dup, 1) := by decide +kernel
theorem dX5_init_167 : decode cX5_init 167 = .ok (.invokespecial 85, 3) := by decide +kernel
theorem dX5_init_170 : decode cX5_init 170 = .ok (.aastore, 1) := by decide +kernel
theorem dX5_init_171 : decode cX5_init 171 = .ok (.iinc 1 1, 3) := by decide +kernel
theorem dX5_init_174 : decode cX5_init 174 = .ok (.goto (-22), 3) := by decide +kernel
theorem dX5_init_177 : decode cX5_init 177 = .ok (.return_, 1) := by decide +kernel
theorem dX5_jumper_0 : decode cX5_jumper 0 = .ok (.iload_n 1, 1) := by decide +kernel
theorem dX5_jumper_1 : decode cX5_jumper 1 = .ok (.bipush 50, 2) := by decide +kernel
theorem dX5_jumper_3 : decode cX5_jumper 3 = .ok (.sipush 130, 3) := by decide +kernel
theorem dX5_jumper_6 : decode cX5_jumper 6 = .ok (.invokestatic 86, 3) := by decide +kernel
theorem dX5_jumper_9 : decode cX5_jumper 9 = .ok (.iload_n 2, 1) := by decide +kernel
theorem dX5_jumper_10 : decode cX5_jumper 10 = .ok (.iconst 0, 1) := by decide +kernel
theorem dX5_jumper_11 : decode cX5_jumper 11 = .ok (.iconst 3, 1) := by decide +kernel
theorem dX5_jumper_12 : decode cX5_jumper 12 = .ok (.invokestatic 86, 3) := by decide +kernel
theorem dX5_jumper_15 : decode cX5_jumper 15 = .ok (.aload_n 0, 1) := by decide +kernel
theorem dX5_jumper_16 : decode cX5_jumper 16 = .ok (.getfield 15, 3) := by decide +kernel
theorem dX5_jumper_19 : decode cX5_jumper 19 = .ok (.bipush 8, 2) := by decide +kernel
theorem dX5_jumper_21 : decode cX5_jumper 21 = .ok (.if_icmp .lt 13, 3) := by decide +kernel
theorem dX5_jumper_24 : decode cX5_jumper 24 = .ok (.new 90, 3) := by decide +kernel
theorem dX5_jumper_27 : decode cX5_jumper 27 = .ok (.dup, 1) := by decide +kernel
theorem dX5_jumper_28 : decode cX5_jumper 28 = .ok (.ldc 92, 2) := by decide +kernel
theorem dX5_jumper_30 : decode cX5_jumper 30 = .ok (.invokespecial 94, 3) := by decide +kernel
theorem dX5_jumper_33 : decode cX5_jumper 33 = .ok (.athrow, 1) := by decide +kernel
theorem dX5_jumper_34 : decode cX5_jumper 34 = .ok (.aload_n 0, 1) := by decide +kernel
theorem dX5_jumper_35 : decode cX5_jumper 35 = .ok (.getfield 11, 3) := by decide +kernel
theorem dX5_jumper_38 : decode cX5_jumper 38 = .ok (.aload_n 0, 1) := by decide +kernel
theorem dX5_jumper_39 : decode cX5_jumper 39 = .ok (.getfield 15, 3) := by decide +kernel
theorem dX5_jumper_42 : decode cX5_jumper 42 = .ok (.aaload, 1) := by decide +kernel
theorem dX5_jumper_43 : decode cX5_jumper 43 = .ok (.astore_n 3, 1) := by decide +kernel
theorem dX5_jumper_44 : decode cX5_jumper 44 = .ok (.aload_n 3, 1) := by decide +kernel
theorem dX5_jumper_45 : decode cX5_jumper 45 = .ok (.iload_n 1, 1) := by decide +kernel
theorem dX5_jumper_46 : decode cX5_jumper 46 = .ok (.putfield 97, 3) := by decide +kernel
theorem dX5_jumper_49 : decode cX5_jumper 49 = .ok (.aload_n 3, 1) := by decide +kernel
theorem dX5_jumper_50 : decode cX5_jumper 50 = .ok (.iload_n 2, 1) := by decide +kernel
theorem dX5_jumper_51 : decode cX5_jumper 51 = .ok (.putfield 100, 3) := by decide +kernel
theorem dX5_jumper_54 : decode cX5_jumper 54 = .ok (.aload_n 3, 1) := by decide +kernel
theorem dX5_jumper_55 : decode cX5_jumper 55 = .ok (.aload_n 0, 1) := by decide +kernel
theorem dX5_jumper_56 : decode cX5_jumper 56 = .ok (.getfield 60, 3) := by decide +kernel
theorem dX5_jumper_59 : decode cX5_jumper 59 = .ok (.putfield 103, 3) := by decide +kernel
theorem dX5_jumper_62 : decode cX5_jumper 62 = .ok (.aload_n 0, 1) := by decide +kernel
theorem dX5_jumper_63 : decode cX5_jumper 63 = .ok (.dup, 1) := by decide +kernel
theorem dX5_jumper_64 : decode cX5_jumper 64 = .ok (.getfield 15, 3) := by decide +kernel
theorem dX5_jumper_67 : decode cX5_jumper 67 = .ok (.iconst 1, 1) := by decide +kernel
theorem dX5_jumper_68 : decode cX5_jumper 68 = .ok (.iadd, 1) := by decide +kernel
theorem dX5_jumper_69 : decode cX5_jumper 69 = .ok (.putfield 15, 3) := by decide +kernel
theorem dX5_jumper_72 : decode cX5_jumper 72 = .ok (.aload_n 0, 1) := by decide +kernel
theorem dX5_jumper_73 : decode cX5_jumper 73 = .ok (.getfield 15, 3) := by decide +kernel
theorem dX5_jumper_76 : decode cX5_jumper 76 = .ok (.iconst 1, 1) := by decide +kernel
theorem dX5_jumper_77 : decode cX5_jumper 77 = .ok (.isub, 1) := by decide +kernel
theorem dX5_jumper_78 : decode cX5_jumper 78 = .ok (.ireturn, 1) := by decide +kernel
theorem dX5_rig_0 : decode cX5_rig 0 = .ok (.iload_n 1, 1) := by decide +kernel
theorem dX5_rig_1 : decode cX5_rig 1 = .ok (.bipush 80, 2) := by decide +kernel
theorem dX5_rig_3 : decode cX5_rig 3 = .ok (.sipush 300, 3) := by decide +kernel
theorem dX5_rig_6 : decode cX5_rig 6 = .ok (.invokestatic 86, 3) := by decide +kernel
theorem dX5_rig_9 : decode cX5_rig 9 = .ok (.iload_n 2, 1) := by decide +kernel
theorem dX5_rig_10 : decode cX5_rig 10 = .ok (.iconst 0, 1) := by decide +kernel
theorem dX5_rig_11 : decode cX5_rig 11 = .ok (.bipush 60, 2) := by decide +kernel
theorem dX5_rig_13 : decode cX5_rig 13 = .ok (.invokestatic 86, 3) := by decide +kernel
theorem dX5_rig_16 : decode cX5_rig 16 = .ok (.aload_n 0, 1) := by decide +kernel
theorem dX5_rig_17 : decode cX5_rig 17 = .ok (.getfield 25, 3) := by decide +kernel
theorem dX5_rig_20 : decode cX5_rig 20 = .ok (.bipush 8, 2) := by decide +kernel
theorem dX5_rig_22 : decode cX5_rig 22 = .ok (.if_icmp .lt 13, 3) := by decide +kernel
theorem dX5_rig_25 : decode cX5_rig 25 = .ok (.new 90, 3) := by decide +kernel
theorem dX5_rig_28 : decode cX5_rig 28 = .ok (.dup, 1) := by decide +kernel
theorem dX5_rig_29 : decode cX5_rig 29 = .ok (.ldc 106, 2) := by decide +kernel
theorem dX5_rig_31 : decode cX5_rig 31 = .ok (.invokespecial 94, 3) := by decide +kernel
theorem dX5_rig_34 : decode cX5_rig 34 = .ok (.athrow, 1) := by decide +kernel
theorem dX5_rig_35 : decode cX5_rig 35 = .ok (.aload_n 0, 1) := by decide +kernel
theorem dX5_rig_36 : decode cX5_rig 36 = .ok (.getfield 21, 3) := by decide +kernel
theorem dX5_rig_39 : decode cX5_rig 39 = .ok (.aload_n 0, 1) := by decide +kernel
theorem dX5_rig_40 : decode cX5_rig 40 = .ok (.getfield 25, 3) := by decide +kernel
theorem dX5_rig_43 : decode cX5_rig 43 = .ok (.aaload, 1) := by decide +kernel
theorem dX5_rig_44 : decode cX5_rig 44 = .ok (.astore_n 3, 1) := by decide +kernel
theorem dX5_rig_45 : decode cX5_rig 45 = .ok (.aload_n 3, 1) := by decide +kernel
theorem dX5_rig_46 : decode cX5_rig 46 = .ok (.iload_n 1, 1) := by decide +kernel
theorem dX5_rig_47 : decode cX5_rig 47 = .ok (.putfield 108, 3) := by decide +kernel
theorem dX5_rig_50 : decode cX5_rig 50 = .ok (.aload_n 3, 1) := by decide +kernel
theorem dX5_rig_51 : decode cX5_rig 51 = .ok (.aload_n 0, 1) := by decide +kernel
theorem dX5_rig_52 : decode cX5_rig 52 = .ok (.getfield 60, 3) := by decide +kernel
theorem dX5_rig_55 : decode cX5_rig 55 = .ok (.iload_n 2, 1) := by decide +kernel
theorem dX5_rig_56 : decode cX5_rig 56 = .ok (.iadd, 1) := by decide +kernel
theorem dX5_rig_57 : decode cX5_rig 57 = .ok (.putfield 111, 3) := by decide +kernel
theorem dX5_rig_60 : decode cX5_rig 60 = .ok (.aload_n 0, 1) := by decide +kernel
theorem dX5_rig_61 : decode cX5_rig 61 = .ok (.dup, 1) := by decide +kernel
theorem dX5_rig_62 : decode cX5_rig 62 = .ok (.getfield 25, 3) := by decide +kernel
theorem dX5_rig_65 : decode cX5_rig 65 = .ok (.iconst 1, 1) := by decide +kernel
theorem dX5_rig_66 : decode cX5_rig 66 = .ok (.iadd, 1) := by decide +kernel
theorem dX5_rig_67 : decode cX5_rig 67 = .ok (.putfield 25, 3) := by decide +kernel
theorem dX5_rig_70 : decode cX5_rig 70 = .ok (.aload_n 0, 1) := by decide +kernel
theorem dX5_rig_71 : decode cX5_rig 71 = .ok (.getfield 25, 3) := by decide +kernel
theorem dX5_rig_74 : decode cX5_rig 74 = .ok (.iconst 1, 1) := by decide +kernel
theorem dX5_rig_75 : decode cX5_rig 75 = .ok (.isub, 1) := by decide +kernel
theorem dX5_rig_76 : decode cX5_rig 76 = .ok (.ireturn, 1) := by decide +kernel
theorem dX5_lend_0 : decode cX5_lend 0 = .ok (.aload_n 0, 1) := by decide +kernel
theorem dX5_lend_1 : decode cX5_lend 1 = .ok (.iload_n 1, 1) := by decide +kernel
theorem dX5_lend_2 : decode cX5_lend 2 = .ok (.invokevirtual 114, 3) := by decide +kernel
theorem dX5_lend_5 : decode cX5_lend 5 = .ok (.pop, 1) := by decide +kernel
theorem dX5_lend_6 : decode cX5_lend 6 = .ok (.aload_n 0, 1) := by decide +kernel
theorem dX5_lend_7 : decode cX5_lend 7 = .ok (.iload_n 2, 1) := by decide +kernel
theorem dX5_lend_8 : decode cX5_lend 8 = .ok (.invokevirtual 118, 3) := by decide +kernel
theorem dX5_lend_11 : decode cX5_lend 11 = .ok (.astore_n 3, 1) := by decide +kernel
theorem dX5_lend_12 : decode cX5_lend 12 = .ok (.aload_n 0, 1) := by decide +kernel
theorem dX5_lend_13 : decode cX5_lend 13 = .ok (.iload_n 1, 1) := by decide +kernel
theorem dX5_lend_14 : decode cX5_lend 14 = .ok (.invokevirtual 122, 3) := by decide +kernel
theorem dX5_lend_17 : decode cX5_lend 17 = .ok (.istore 4, 2) := by decide +kernel
theorem dX5_lend_19 : decode cX5_lend 19 = .ok (.aload_n 0, 1) := by decide +kernel
theorem dX5_lend_20 : decode cX5_lend 20 = .ok (.iload_n 2, 1) := by decide +kernel
theorem dX5_lend_21 : decode cX5_lend 21 = .ok (.invokevirtual 126, 3) := by decide +kernel
theorem dX5_lend_24 : decode cX5_lend 24 = .ok (.iconst (-1), 1) := by decide +kernel
theorem dX5_lend_25 : decode cX5_lend 25 = .ok (.if_icmp .ne 13, 3) := by decide +kernel
theorem dX5_lend_28 : decode cX5_lend 28 = .ok (.aload_n 0, 1) := by decide +kernel
theorem dX5_lend_29 : decode cX5_lend 29 = .ok (.iload 4, 2) := by decide +kernel
theorem dX5_lend_31 : decode cX5_lend 31 = .ok (.invokevirtual 126, 3) := by decide +kernel
theorem dX5_lend_34 : decode cX5_lend 34 = .ok (.iconst (-1), 1) := by decide +kernel
theorem dX5_lend_35 : decode cX5_lend 35 = .ok (.if_icmp .eq 13, 3) := by decide +kernel
theorem dX5_lend_38 : decode cX5_lend 38 = .ok (.new 90, 3) := by decide +kernel
theorem dX5_lend_41 : decode cX5_lend 41 = .ok (.dup, 1) := by decide +kernel
theorem dX5_lend_42 : decode cX5_lend 42 = .ok (.ldc 129, 2) := by decide +kernel
theorem dX5_lend_44 : decode cX5_lend 44 = .ok (.invokespecial 94, 3) := by decide +kernel
theorem dX5_lend_47 : decode cX5_lend 47 = .ok (.athrow, 1) := by decide +kernel
theorem dX5_lend_48 : decode cX5_lend 48 = .ok (.iload 4, 2) := by decide +kernel
theorem dX5_lend_50 : decode cX5_lend 50 = .ok (.iconst (-1), 1) := by decide +kernel
theorem dX5_lend_51 : decode cX5_lend 51 = .ok (.if_icmp .eq 13, 3) := by decide +kernel
theorem dX5_lend_54 : decode cX5_lend 54 = .ok (.aload_n 0, 1) := by decide +kernel
theorem dX5_lend_55 : decode cX5_lend 55 = .ok (.iload 4, 2) := by decide +kernel
theorem dX5_lend_57 : decode cX5_lend 57 = .ok (.invokevirtual 118, 3) := by decide +kernel
theorem dX5_lend_60 : decode cX5_lend 60 = .ok (.iconst (-1), 1) := by decide +kernel
theorem dX5_lend_61 : decode cX5_lend 61 = .ok (.putfield 131, 3) := by decide +kernel
theorem dX5_lend_64 : decode cX5_lend 64 = .ok (.aload_n 3, 1) := by decide +kernel
theorem dX5_lend_65 : decode cX5_lend 65 = .ok (.iload_n 1, 1) := by decide +kernel
theorem dX5_lend_66 : decode cX5_lend 66 = .ok (.putfield 131, 3) := by decide +kernel
theorem dX5_lend_69 : decode cX5_lend 69 = .ok (.iload 4, 2) := by decide +kernel
theorem dX5_lend_71 : decode cX5_lend 71 = .ok (.ireturn, 1) := by decide +kernel
theorem dX5_pack_0 : decode cX5_pack 0 = .ok (.aload_n 0, 1) := by decide +kernel
theorem dX5_pack_1 : decode cX5_pack 1 = .ok (.iload_n 1, 1) := by decide +kernel
theorem dX5_pack_2 : decode cX5_pack 2 = .ok (.invokevirtual 114, 3) := by decide +kernel
theorem dX5_pack_5 : decode cX5_pack 5 = .ok (.astore_n 3, 1) := by decide +kernel
theorem dX5_pack_6 : decode cX5_pack 6 = .ok (.aload_n 0, 1) := by decide +kernel
theorem dX5_pack_7 : decode cX5_pack 7 = .ok (.iload_n 2, 1) := by decide +kernel
theorem dX5_pack_8 : decode cX5_pack 8 = .ok (.invokevirtual 118, 3) := by decide +kernel
theorem dX5_pack_11 : decode cX5_pack 11 = .ok (.astore 4, 2) := by decide +kernel
theorem dX5_pack_13 : decode cX5_pack 13 = .ok (.aload_n 3, 1) := by decide +kernel
theorem dX5_pack_14 : decode cX5_pack 14 = .ok (.getfield 134, 3) := by decide +kernel
theorem dX5_pack_17 : decode cX5_pack 17 = .ok (.ifCond .eq 13, 3) := by decide +kernel
theorem dX5_pack_20 : decode cX5_pack 20 = .ok (.new 90, 3) := by decide +kernel
theorem dX5_pack_23 : decode cX5_pack 23 = .ok (.dup, 1) := by decide +kernel
theorem dX5_pack_24 : decode cX5_pack 24 = .ok (.ldc 137, 2) := by decide +kernel
theorem dX5_pack_26 : decode cX5_pack 26 = .ok (.invokespecial 94, 3) := by decide +kernel
theorem dX5_pack_29 : decode cX5_pack 29 = .ok (.athrow, 1) := by decide +kernel
theorem dX5_pack_30 : decode cX5_pack 30 = .ok (.aload_n 3, 1) := by decide +kernel
theorem dX5_pack_31 : decode cX5_pack 31 = .ok (.iconst 0, 1) := by decide +kernel
theorem dX5_pack_32 : decode cX5_pack 32 = .ok (.bipush 9, 2) := by decide +kernel
theorem dX5_pack_34 : decode cX5_pack 34 = .ok (.aload 4, 2) := by decide +kernel
theorem dX5_pack_36 : decode cX5_pack 36 = .ok (.getfield 139, 3) := by decide +kernel
theorem dX5_pack_39 : decode cX5_pack 39 = .ok (.isub, 1) := by decide +kernel
theorem dX5_pack_40 : decode cX5_pack 40 = .ok (.invokestatic 142, 3) := by decide +kernel
theorem dX5_pack_43 : decode cX5_pack 43 = .ok (.putfield 148, 3) := by decide +kernel
theorem dX5_pack_46 : decode cX5_pack 46 = .ok (.aload_n 3, 1) := by decide +kernel
theorem dX5_pack_47 : decode cX5_pack 47 = .ok (.iconst 1, 1) := by decide +kernel
theorem dX5_pack_48 : decode cX5_pack 48 = .ok (.putfield 134, 3) := by decide +kernel
theorem dX5_pack_51 : decode cX5_pack 51 = .ok (.aload 4, 2) := by decide +kernel
theorem dX5_pack_53 : decode cX5_pack 53 = .ok (.dup, 1) := by decide +kernel
theorem dX5_pack_54 : decode cX5_pack 54 = .ok (.getfield 139, 3) := by decide +kernel
theorem dX5_pack_57 : decode cX5_pack 57 = .ok (.iconst 1, 1) := by decide +kernel
theorem dX5_pack_58 : decode cX5_pack 58 = .ok (.iadd, 1) := by decide +kernel
theorem dX5_pack_59 : decode cX5_pack 59 = .ok (.putfield 139, 3) := by decide +kernel
theorem dX5_pack_62 : decode cX5_pack 62 = .ok (.aload_n 3, 1) := by decide +kernel
theorem dX5_pack_63 : decode cX5_pack 63 = .ok (.getfield 148, 3) := by decide +kernel
theorem dX5_pack_66 : decode cX5_pack 66 = .ok (.ireturn, 1) := by decide +kernel
theorem dX5_renew_0 : decode cX5_renew 0 = .ok (.aload_n 0, 1) := by decide +kernel
theorem dX5_renew_1 : decode cX5_renew 1 = .ok (.iload_n 1, 1) := by decide +kernel
theorem dX5_renew_2 : decode cX5_renew 2 = .ok (.invokevirtual 114, 3) := by decide +kernel
theorem dX5_renew_5 : decode cX5_renew 5 = .ok (.astore_n 2, 1) := by decide +kernel
theorem dX5_renew_6 : decode cX5_renew 6 = .ok (.aload_n 2, 1) := by decide +kernel
theorem dX5_renew_7 : decode cX5_renew 7 = .ok (.aload_n 0, 1) := by decide +kernel
theorem dX5_renew_8 : decode cX5_renew 8 = .ok (.getfield 60, 3) := by decide +kernel
theorem dX5_renew_11 : decode cX5_renew 11 = .ok (.bipush 60, 2) := by decide +kernel
theorem dX5_renew_13 : decode cX5_renew 13 = .ok (.iadd, 1) := by decide +kernel
theorem dX5_renew_14 : decode cX5_renew 14 = .ok (.putfield 111, 3) := by decide +kernel
theorem dX5_renew_17 : decode cX5_renew 17 = .ok (.aload_n 2, 1) := by decide +kernel
theorem dX5_renew_18 : decode cX5_renew 18 = .ok (.getfield 111, 3) := by decide +kernel
theorem dX5_renew_21 : decode cX5_renew 21 = .ok (.ireturn, 1) := by decide +kernel
theorem dX5_pass_0 : decode cX5_pass 0 = .ok (.iload_n 1, 1) := by decide +kernel
theorem dX5_pass_1 : decode cX5_pass 1 = .ok (.iconst 1, 1) := by decide +kernel
theorem dX5_pass_2 : decode cX5_pass 2 = .ok (.bipush 90, 2) := by decide +kernel
theorem dX5_pass_4 : decode cX5_pass 4 = .ok (.invokestatic 86, 3) := by decide +kernel
theorem dX5_pass_7 : decode cX5_pass 7 = .ok (.aload_n 0, 1) := by decide +kernel
theorem dX5_pass_8 : decode cX5_pass 8 = .ok (.getfield 60, 3) := by decide +kernel
theorem dX5_pass_11 : decode cX5_pass 11 = .ok (.iload_n 1, 1) := by decide +kernel
theorem dX5_pass_12 : decode cX5_pass 12 = .ok (.iadd, 1) := by decide +kernel
theorem dX5_pass_13 : decode cX5_pass 13 = .ok (.sipush 500, 3) := by decide +kernel
theorem dX5_pass_16 : decode cX5_pass 16 = .ok (.if_icmp .gt 10, 3) := by decide +kernel
theorem dX5_pass_19 : decode cX5_pass 19 = .ok (.aload_n 0, 1) := by decide +kernel
theorem dX5_pass_20 : decode cX5_pass 20 = .ok (.getfield 39, 3) := by decide +kernel
theorem dX5_pass_23 : decode cX5_pass 23 = .ok (.ifCond .le 13, 3) := by decide +kernel
theorem dX5_pass_26 : decode cX5_pass 26 = .ok (.new 90, 3) := by decide +kernel
theorem dX5_pass_29 : decode cX5_pass 29 = .ok (.dup, 1) := by decide +kernel
theorem dX5_pass_30 : decode cX5_pass 30 = .ok (.ldc 151, 2) := by decide +kernel
theorem dX5_pass_32 : decode cX5_pass 32 = .ok (.invokespecial 94, 3) := by decide +kernel
theorem dX5_pass_35 : decode cX5_pass 35 = .ok (.athrow, 1) := by decide +kernel
theorem dX5_pass_36 : decode cX5_pass 36 = .ok (.aload_n 0, 1) := by decide +kernel
theorem dX5_pass_37 : decode cX5_pass 37 = .ok (.dup, 1) := by decide +kernel
theorem dX5_pass_38 : decode cX5_pass 38 = .ok (.getfield 60, 3) := by decide +kernel
theorem dX5_pass_41 : decode cX5_pass 41 = .ok (.iload_n 1, 1) := by decide +kernel
theorem dX5_pass_42 : decode cX5_pass 42 = .ok (.iadd, 1) := by decide +kernel
theorem dX5_pass_43 : decode cX5_pass 43 = .ok (.putfield 60, 3) := by decide +kernel
theorem dX5_pass_46 : decode cX5_pass 46 = .ok (.iconst 0, 1) := by decide +kernel
theorem dX5_pass_47 : decode cX5_pass 47 = .ok (.istore_n 2, 1) := by decide +kernel
theorem dX5_pass_48 : decode cX5_pass 48 = .ok (.iload_n 2, 1) := by decide +kernel
theorem dX5_pass_49 : decode cX5_pass 49 = .ok (.aload_n 0, 1) := by decide +kernel
theorem dX5_pass_50 : decode cX5_pass 50 = .ok (.getfield 15, 3) := by decide +kernel
theorem dX5_pass_53 : decode cX5_pass 53 = .ok (.if_icmp .ge 18, 3) := by decide +kernel
theorem dX5_pass_56 : decode cX5_pass 56 = .ok (.aload_n 0, 1) := by decide +kernel
theorem dX5_pass_57 : decode cX5_pass 57 = .ok (.iload_n 2, 1) := by decide +kernel
theorem dX5_pass_58 : decode cX5_pass 58 = .ok (.invokevirtual 118, 3) := by decide +kernel
theorem dX5_pass_61 : decode cX5_pass 61 = .ok (.iconst 0, 1) := by decide +kernel
theorem dX5_pass_62 : decode cX5_pass 62 = .ok (.putfield 139, 3) := by decide +kernel
theorem dX5_pass_65 : decode cX5_pass 65 = .ok (.iinc 2 1, 3) := by decide +kernel
theorem dX5_pass_68 : decode cX5_pass 68 = .ok (.goto (-20), 3) := by decide +kernel
theorem dX5_pass_71 : decode cX5_pass 71 = .ok (.aload_n 0, 1) := by decide +kernel
theorem dX5_pass_72 : decode cX5_pass 72 = .ok (.getfield 60, 3) := by decide +kernel
theorem dX5_pass_75 : decode cX5_pass 75 = .ok (.ireturn, 1) := by decide +kernel
theorem dX5_wind_0 : decode cX5_wind 0 = .ok (.iload_n 1, 1) := by decide +kernel
theorem dX5_wind_1 : decode cX5_wind 1 = .ok (.invokestatic 153, 3) := by decide +kernel
theorem dX5_wind_4 : decode cX5_wind 4 = .ok (.iload_n 2, 1) := by decide +kernel
theorem dX5_wind_5 : decode cX5_wind 5 = .ok (.bipush (-20), 2) := by decide +kernel
theorem dX5_wind_7 : decode cX5_wind 7 = .ok (.bipush 20, 2) := by decide +kernel
theorem dX5_wind_9 : decode cX5_wind 9 = .ok (.invokestatic 86, 3) := by decide +kernel
theorem dX5_wind_12 : decode cX5_wind 12 = .ok (.iload_n 3, 1) := by decide +kernel
theorem dX5_wind_13 : decode cX5_wind 13 = .ok (.bipush (-20), 2) := by decide +kernel
theorem dX5_wind_15 : decode cX5_wind 15 = .ok (.bipush 20, 2) := by decide +kernel
theorem dX5_wind_17 : decode cX5_wind 17 = .ok (.invokestatic 86, 3) := by decide +kernel
theorem dX5_wind_20 : decode cX5_wind 20 = .ok (.aload_n 0, 1) := by decide +kernel
theorem dX5_wind_21 : decode cX5_wind 21 = .ok (.getfield 31, 3) := by decide +kernel
theorem dX5_wind_24 : decode cX5_wind 24 = .ok (.iload_n 1, 1) := by decide +kernel
theorem dX5_wind_25 : decode cX5_wind 25 = .ok (.iload_n 2, 1) := by decide +kernel
theorem dX5_wind_26 : decode cX5_wind 26 = .ok (.iload_n 3, 1) := by decide +kernel
theorem dX5_wind_27 : decode cX5_wind 27 = .ok (.invokevirtual 157, 3) := by decide +kernel
theorem dX5_wind_30 : decode cX5_wind 30 = .ok (.aload_n 0, 1) := by decide +kernel
theorem dX5_wind_31 : decode cX5_wind 31 = .ok (.getfield 31, 3) := by decide +kernel
theorem dX5_wind_34 : decode cX5_wind 34 = .ok (.invokevirtual 160, 3) := by decide +kernel
theorem dX5_wind_37 : decode cX5_wind 37 = .ok (.ireturn, 1) := by decide +kernel
theorem dX5_board_0 : decode cX5_board 0 = .ok (.aload_n 0, 1) := by decide +kernel
theorem dX5_board_1 : decode cX5_board 1 = .ok (.iload_n 1, 1) := by decide +kernel
theorem dX5_board_2 : decode cX5_board 2 = .ok (.invokevirtual 118, 3) := by decide +kernel
theorem dX5_board_5 : decode cX5_board 5 = .ok (.astore 4, 2) := by decide +kernel
theorem dX5_board_7 : decode cX5_board 7 = .ok (.iload_n 2, 1) := by decide +kernel
theorem dX5_board_8 : decode cX5_board 8 = .ok (.iconst 0, 1) := by decide +kernel
theorem dX5_board_9 : decode cX5_board 9 = .ok (.iconst 1, 1) := by decide +kernel
theorem dX5_board_10 : decode cX5_board 10 = .ok (.invokestatic 86, 3) := by decide +kernel
theorem dX5_board_13 : decode cX5_board 13 = .ok (.iload_n 3, 1) := by decide +kernel
theorem dX5_board_14 : decode cX5_board 14 = .ok (.aload 4, 2) := by decide +kernel
theorem dX5_board_16 : decode cX5_board 16 = .ok (.getfield 100, 3) := by decide +kernel
theorem dX5_board_19 : decode cX5_board 19 = .ok (.ifCond .ne 7, 3) := by decide +kernel
theorem dX5_board_22 : decode cX5_board 22 = .ok (.iconst 4, 1) := by decide +kernel
theorem dX5_board_23 : decode cX5_board 23 = .ok (.goto 4, 3) := by decide +kernel
theorem dX5_board_26 : decode cX5_board 26 = .ok (.iconst 2, 1) := by decide +kernel
theorem dX5_board_27 : decode cX5_board 27 = .ok (.bipush 6, 2) := by decide +kernel
theorem dX5_board_29 : decode cX5_board 29 = .ok (.invokestatic 86, 3) := by decide +kernel
theorem dX5_board_32 : decode cX5_board 32 = .ok (.aload_n 0, 1) := by decide +kernel
theorem dX5_board_33 : decode cX5_board 33 = .ok (.getfield 42, 3) := by decide +kernel
theorem dX5_board_36 : decode cX5_board 36 = .ok (.ifCond .ne 12, 3) := by decide +kernel
theorem dX5_board_39 : decode cX5_board 39 = .ok (.aload_n 0, 1) := by decide +kernel
theorem dX5_board_40 : decode cX5_board 40 = .ok (.getfield 39, 3) := by decide +kernel
theorem dX5_board_43 : decode cX5_board 43 = .ok (.bipush 6, 2) := by decide +kernel
theorem dX5_board_45 : decode cX5_board 45 = .ok (.if_icmp .lt 13, 3) := by decide +kernel
theorem dX5_board_48 : decode cX5_board 48 = .ok (.new 90, 3) := by decide +kernel
theorem dX5_board_51 : decode cX5_board 51 = .ok (.dup, 1) := by decide +kernel
theorem dX5_board_52 : decode cX5_board 52 = .ok (.ldc 164, 2) := by decide +kernel
theorem dX5_board_54 : decode cX5_board 54 = .ok (.invokespecial 94, 3) := by decide +kernel
theorem dX5_board_57 : decode cX5_board 57 = .ok (.athrow, 1) := by decide +kernel
theorem dX5_board_58 : decode cX5_board 58 = .ok (.aload_n 0, 1) := by decide +kernel
theorem dX5_board_59 : decode cX5_board 59 = .ok (.iload_n 1, 1) := by decide +kernel
theorem dX5_board_60 : decode cX5_board 60 = .ok (.invokevirtual 166, 3) := by decide +kernel
theorem dX5_board_63 : decode cX5_board 63 = .ok (.istore 5, 2) := by decide +kernel
theorem dX5_board_65 : decode cX5_board 65 = .ok (.iload 5, 2) := by decide +kernel
theorem dX5_board_67 : decode cX5_board 67 = .ok (.ifCond .eq 7, 3) := by decide +kernel
theorem dX5_board_70 : decode cX5_board 70 = .ok (.iload 5, 2) := by decide +kernel
theorem dX5_board_72 : decode cX5_board 72 = .ok (.ineg, 1) := by decide +kernel
theorem dX5_board_73 : decode cX5_board 73 = .ok (.ireturn, 1) := by decide +kernel
theorem dX5_board_74 : decode cX5_board 74 = .ok (.aload 4, 2) := by decide +kernel
theorem dX5_board_76 : decode cX5_board 76 = .ok (.iload_n 2, 1) := by decide +kernel
theorem dX5_board_77 : decode cX5_board 77 = .ok (.putfield 169, 3) := by decide +kernel
theorem dX5_board_80 : decode cX5_board 80 = .ok (.aload 4, 2) := by decide +kernel
theorem dX5_board_82 : decode cX5_board 82 = .ok (.iload_n 3, 1) := by decide +kernel
theorem dX5_board_83 : decode cX5_board 83 = .ok (.putfield 172, 3) := by decide +kernel
theorem dX5_board_86 : decode cX5_board 86 = .ok (.aload_n 0, 1) := by decide +kernel
theorem dX5_board_87 : decode cX5_board 87 = .ok (.iload_n 1, 1) := by decide +kernel
theorem dX5_board_88 : decode cX5_board 88 = .ok (.invokevirtual 175, 3) := by decide +kernel
theorem dX5_board_91 : decode cX5_board 91 = .ok (.aload_n 0, 1) := by decide +kernel
theorem dX5_board_92 : decode cX5_board 92 = .ok (.getfield 39, 3) := by decide +kernel
theorem dX5_board_95 : decode cX5_board 95 = .ok (.ireturn, 1) := by decide +kernel
theorem dX5_empty_0 : decode cX5_empty 0 = .ok (.aload_n 0, 1) := by decide +kernel
theorem dX5_empty_1 : decode cX5_empty 1 = .ok (.getfield 39, 3) := by decide +kernel
theorem dX5_empty_4 : decode cX5_empty 4 = .ok (.istore_n 1, 1) := by decide +kernel
theorem dX5_empty_5 : decode cX5_empty 5 = .ok (.aload_n 0, 1) := by decide +kernel
theorem dX5_empty_6 : decode cX5_empty 6 = .ok (.iconst 0, 1) := by decide +kernel
theorem dX5_empty_7 : decode cX5_empty 7 = .ok (.putfield 39, 3) := by decide +kernel
theorem dX5_empty_10 : decode cX5_empty 10 = .ok (.iload_n 1, 1) := by decide +kernel
theorem dX5_empty_11 : decode cX5_empty 11 = .ok (.ireturn, 1) := by decide +kernel
theorem dX5_fly_0 : decode cX5_fly 0 = .ok (.iload_n 1, 1) := by decide +kernel
theorem dX5_fly_1 : decode cX5_fly 1 = .ok (.sipush (-200), 3) := by decide +kernel
theorem dX5_fly_4 : decode cX5_fly 4 = .ok (.sipush 200, 3) := by decide +kernel
theorem dX5_fly_7 : decode cX5_fly 7 = .ok (.invokestatic 86, 3) := by decide +kernel
theorem dX5_fly_10 : decode cX5_fly 10 = .ok (.iload_n 2, 1) := by decide +kernel
theorem dX5_fly_11 : decode cX5_fly 11 = .ok (.iconst 1, 1) := by decide +kernel
theorem dX5_fly_12 : decode cX5_fly 12 = .ok (.bipush 9, 2) := by decide +kernel
theorem dX5_fly_14 : decode cX5_fly 14 = .ok (.invokestatic 86, 3) := by decide +kernel
theorem dX5_fly_17 : decode cX5_fly 17 = .ok (.aload_n 0, 1) := by decide +kernel
theorem dX5_fly_18 : decode cX5_fly 18 = .ok (.getfield 42, 3) := by decide +kernel
theorem dX5_fly_21 : decode cX5_fly 21 = .ok (.ifCond .ne 10, 3) := by decide +kernel
theorem dX5_fly_24 : decode cX5_fly 24 = .ok (.aload_n 0, 1) := by decide +kernel
theorem dX5_fly_25 : decode cX5_fly 25 = .ok (.getfield 39, 3) := by decide +kernel
theorem dX5_fly_28 : decode cX5_fly 28 = .ok (.ifCond .ne 13, 3) := by decide +kernel
theorem dX5_fly_31 : decode cX5_fly 31 = .ok (.new 90, 3) := by decide +kernel
theorem dX5_fly_34 : decode cX5_fly 34 = .ok (.dup, 1) := by decide +kernel
theorem dX5_fly_35 : decode cX5_fly 35 = .ok (.ldc 178, 2) := by decide +kernel
theorem dX5_fly_37 : decode cX5_fly 37 = .ok (.invokespecial 94, 3) := by decide +kernel
theorem dX5_fly_40 : decode cX5_fly 40 = .ok (.athrow, 1) := by decide +kernel
theorem dX5_fly_41 : decode cX5_fly 41 = .ok (.aload_n 0, 1) := by decide +kernel
theorem dX5_fly_42 : decode cX5_fly 42 = .ok (.invokevirtual 180, 3) := by decide +kernel
theorem dX5_fly_45 : decode cX5_fly 45 = .ok (.aload_n 0, 1) := by decide +kernel
theorem dX5_fly_46 : decode cX5_fly 46 = .ok (.invokevirtual 183, 3) := by decide +kernel
theorem dX5_fly_49 : decode cX5_fly 49 = .ok (.aload_n 0, 1) := by decide +kernel
theorem dX5_fly_50 : decode cX5_fly 50 = .ok (.getfield 49, 3) := by decide +kernel
theorem dX5_fly_53 : decode cX5_fly 53 = .ok (.iload_n 1, 1) := by decide +kernel
theorem dX5_fly_54 : decode cX5_fly 54 = .ok (.iload_n 2, 1) := by decide +kernel
theorem dX5_fly_55 : decode cX5_fly 55 = .ok (.aload_n 0, 1) := by decide +kernel
theorem dX5_fly_56 : decode cX5_fly 56 = .ok (.getfield 31, 3) := by decide +kernel
theorem dX5_fly_59 : decode cX5_fly 59 = .ok (.invokevirtual 186, 3) := by decide +kernel
theorem dX5_fly_62 : decode cX5_fly 62 = .ok (.aload_n 0, 1) := by decide +kernel
theorem dX5_fly_63 : decode cX5_fly 63 = .ok (.dup, 1) := by decide +kernel
theorem dX5_fly_64 : decode cX5_fly 64 = .ok (.getfield 78, 3) := by decide +kernel
theorem dX5_fly_67 : decode cX5_fly 67 = .ok (.aload_n 0, 1) := by decide +kernel
theorem dX5_fly_68 : decode cX5_fly 68 = .ok (.getfield 49, 3) := by decide +kernel
theorem dX5_fly_71 : decode cX5_fly 71 = .ok (.aload_n 0, 1) := by decide +kernel
theorem dX5_fly_72 : decode cX5_fly 72 = .ok (.getfield 31, 3) := by decide +kernel
theorem dX5_fly_75 : decode cX5_fly 75 = .ok (.invokevirtual 190, 3) := by decide +kernel
theorem dX5_fly_78 : decode cX5_fly 78 = .ok (.iadd, 1) := by decide +kernel
theorem dX5_fly_79 : decode cX5_fly 79 = .ok (.putfield 78, 3) := by decide +kernel
theorem dX5_fly_82 : decode cX5_fly 82 = .ok (.iconst 0, 1) := by decide +kernel
theorem dX5_fly_83 : decode cX5_fly 83 = .ok (.istore_n 3, 1) := by decide +kernel
theorem dX5_fly_84 : decode cX5_fly 84 = .ok (.iconst 0, 1) := by decide +kernel
theorem dX5_fly_85 : decode cX5_fly 85 = .ok (.istore 4, 2) := by decide +kernel
theorem dX5_fly_87 : decode cX5_fly 87 = .ok (.iload 4, 2) := by decide +kernel
theorem dX5_fly_89 : decode cX5_fly 89 = .ok (.aload_n 0, 1) := by decide +kernel
theorem dX5_fly_90 : decode cX5_fly 90 = .ok (.getfield 39, 3) := by decide +kernel
theorem dX5_fly_93 : decode cX5_fly 93 = .ok (.if_icmp .ge 35, 3) := by decide +kernel
theorem dX5_fly_96 : decode cX5_fly 96 = .ok (.iload_n 3, 1) := by decide +kernel
theorem dX5_fly_97 : decode cX5_fly 97 = .ok (.aload_n 0, 1) := by decide +kernel
theorem dX5_fly_98 : decode cX5_fly 98 = .ok (.aload_n 0, 1) := by decide +kernel
theorem dX5_fly_99 : decode cX5_fly 99 = .ok (.aload_n 0, 1) := by decide +kernel
theorem dX5_fly_100 : decode cX5_fly 100 = .ok (.iload 4, 2) := by decide +kernel
theorem dX5_fly_102 : decode cX5_fly 102 = .ok (.invokevirtual 194, 3) := by decide +kernel
theorem dX5_fly_105 : decode cX5_fly 105 = .ok (.invokevirtual 118, 3) := by decide +kernel
theorem dX5_fly_108 : decode cX5_fly 108 = .ok (.aload_n 0, 1) := by decide +kernel
theorem dX5_fly_109 : decode cX5_fly 109 = .ok (.getfield 49, 3) := by decide +kernel
theorem dX5_fly_112 : decode cX5_fly 112 = .ok (.iload 4, 2) := by decide +kernel
theorem dX5_fly_114 : decode cX5_fly 114 = .ok (.invokevirtual 197, 3) := by decide +kernel
theorem dX5_fly_117 : decode cX5_fly 117 = .ok (.invokevirtual 201, 3) := by decide +kernel
theorem dX5_fly_120 : decode cX5_fly 120 = .ok (.iadd, 1) := by decide +kernel
theorem dX5_fly_121 : decode cX5_fly 121 = .ok (.istore_n 3, 1) := by decide +kernel
theorem dX5_fly_122 : decode cX5_fly 122 = .ok (.iinc 4 1, 3) := by decide +kernel
theorem dX5_fly_125 : decode cX5_fly 125 = .ok (.goto (-38), 3) := by decide +kernel
theorem dX5_fly_128 : decode cX5_fly 128 = .ok (.aload_n 0, 1) := by decide +kernel
theorem dX5_fly_129 : decode cX5_fly 129 = .ok (.iconst 0, 1) := by decide +kernel
theorem dX5_fly_130 : decode cX5_fly 130 = .ok (.putfield 39, 3) := by decide +kernel
theorem dX5_fly_133 : decode cX5_fly 133 = .ok (.aload_n 0, 1) := by decide +kernel
theorem dX5_fly_134 : decode cX5_fly 134 = .ok (.dup, 1) := by decide +kernel
theorem dX5_fly_135 : decode cX5_fly 135 = .ok (.getfield 66, 3) := by decide +kernel
theorem dX5_fly_138 : decode cX5_fly 138 = .ok (.iconst 1, 1) := by decide +kernel
theorem dX5_fly_139 : decode cX5_fly 139 = .ok (.iadd, 1) := by decide +kernel
theorem dX5_fly_140 : decode cX5_fly 140 = .ok (.putfield 66, 3) := by decide +kernel
theorem dX5_fly_143 : decode cX5_fly 143 = .ok (.iload_n 3, 1) := by decide +kernel
theorem dX5_fly_144 : decode cX5_fly 144 = .ok (.ireturn, 1) := by decide +kernel
theorem dX5_hold_0 : decode cX5_hold 0 = .ok (.aload_n 0, 1) := by decide +kernel
theorem dX5_hold_1 : decode cX5_hold 1 = .ok (.getfield 42, 3) := by decide +kernel
theorem dX5_hold_4 : decode cX5_hold 4 = .ok (.istore_n 2, 1) := by decide +kernel
theorem dX5_hold_5 : decode cX5_hold 5 = .ok (.aload_n 0, 1) := by decide +kernel
theorem dX5_hold_6 : decode cX5_hold 6 = .ok (.iload_n 1, 1) := by decide +kernel
theorem dX5_hold_7 : decode cX5_hold 7 = .ok (.putfield 42, 3) := by decide +kernel
theorem dX5_hold_10 : decode cX5_hold 10 = .ok (.iload_n 2, 1) := by decide +kernel
theorem dX5_hold_11 : decode cX5_hold 11 = .ok (.ireturn, 1) := by decide +kernel
theorem dX5_gong_0 : decode cX5_gong 0 = .ok (.aload_n 0, 1) := by decide +kernel
theorem dX5_gong_1 : decode cX5_gong 1 = .ok (.dup, 1) := by decide +kernel
theorem dX5_gong_2 : decode cX5_gong 2 = .ok (.getfield 81, 3) := by decide +kernel
theorem dX5_gong_5 : decode cX5_gong 5 = .ok (.iconst 1, 1) := by decide +kernel
theorem dX5_gong_6 : decode cX5_gong 6 = .ok (.iadd, 1) := by decide +kernel
theorem dX5_gong_7 : decode cX5_gong 7 = .ok (.putfield 81, 3) := by decide +kernel
theorem dX5_gong_10 : decode cX5_gong 10 = .ok (.aload_n 0, 1) := by decide +kernel
theorem dX5_gong_11 : decode cX5_gong 11 = .ok (.getfield 81, 3) := by decide +kernel
theorem dX5_gong_14 : decode cX5_gong 14 = .ok (.ireturn, 1) := by decide +kernel
theorem dX5_ofJumper_0 : decode cX5_ofJumper 0 = .ok (.aload_n 0, 1) := by decide +kernel
theorem dX5_ofJumper_1 : decode cX5_ofJumper 1 = .ok (.iload_n 1, 1) := by decide +kernel
theorem dX5_ofJumper_2 : decode cX5_ofJumper 2 = .ok (.invokevirtual 118, 3) := by decide +kernel
theorem dX5_ofJumper_5 : decode cX5_ofJumper 5 = .ok (.astore_n 3, 1) := by decide +kernel
theorem dX5_ofJumper_6 : decode cX5_ofJumper 6 = .ok (.iload_n 2, 1) := by decide +kernel
theorem dX5_ofJumper_7 : decode cX5_ofJumper 7 = .ok (.tableswitch 95 0 8 #[49, 54, 59, 64, 69, 74, 79, 84, 90], 49) := by decide +kernel
theorem dX5_ofJumper_56 : decode cX5_ofJumper 56 = .ok (.aload_n 3, 1) := by decide +kernel
theorem dX5_ofJumper_57 : decode cX5_ofJumper 57 = .ok (.getfield 97, 3) := by decide +kernel
theorem dX5_ofJumper_60 : decode cX5_ofJumper 60 = .ok (.ireturn, 1) := by decide +kernel
theorem dX5_ofJumper_61 : decode cX5_ofJumper 61 = .ok (.aload_n 3, 1) := by decide +kernel
theorem dX5_ofJumper_62 : decode cX5_ofJumper 62 = .ok (.getfield 100, 3) := by decide +kernel
theorem dX5_ofJumper_65 : decode cX5_ofJumper 65 = .ok (.ireturn, 1) := by decide +kernel
theorem dX5_ofJumper_66 : decode cX5_ofJumper 66 = .ok (.aload_n 3, 1) := by decide +kernel
theorem dX5_ofJumper_67 : decode cX5_ofJumper 67 = .ok (.getfield 131, 3) := by decide +kernel
theorem dX5_ofJumper_70 : decode cX5_ofJumper 70 = .ok (.ireturn, 1) := by decide +kernel
theorem dX5_ofJumper_71 : decode cX5_ofJumper 71 = .ok (.aload_n 3, 1) := by decide +kernel
theorem dX5_ofJumper_72 : decode cX5_ofJumper 72 = .ok (.getfield 103, 3) := by decide +kernel
theorem dX5_ofJumper_75 : decode cX5_ofJumper 75 = .ok (.ireturn, 1) := by decide +kernel
theorem dX5_ofJumper_76 : decode cX5_ofJumper 76 = .ok (.aload_n 3, 1) := by decide +kernel
theorem dX5_ofJumper_77 : decode cX5_ofJumper 77 = .ok (.getfield 205, 3) := by decide +kernel
theorem dX5_ofJumper_80 : decode cX5_ofJumper 80 = .ok (.ireturn, 1) := by decide +kernel
theorem dX5_ofJumper_81 : decode cX5_ofJumper 81 = .ok (.aload_n 3, 1) := by decide +kernel
theorem dX5_ofJumper_82 : decode cX5_ofJumper 82 = .ok (.getfield 206, 3) := by decide +kernel
theorem dX5_ofJumper_85 : decode cX5_ofJumper 85 = .ok (.ireturn, 1) := by decide +kernel
theorem dX5_ofJumper_86 : decode cX5_ofJumper 86 = .ok (.aload_n 3, 1) := by decide +kernel
theorem dX5_ofJumper_87 : decode cX5_ofJumper 87 = .ok (.getfield 139, 3) := by decide +kernel
theorem dX5_ofJumper_90 : decode cX5_ofJumper 90 = .ok (.ireturn, 1) := by decide +kernel
theorem dX5_ofJumper_91 : decode cX5_ofJumper 91 = .ok (.aload_n 0, 1) := by decide +kernel
theorem dX5_ofJumper_92 : decode cX5_ofJumper 92 = .ok (.iload_n 1, 1) := by decide +kernel
theorem dX5_ofJumper_93 : decode cX5_ofJumper 93 = .ok (.invokevirtual 126, 3) := by decide +kernel
theorem dX5_ofJumper_96 : decode cX5_ofJumper 96 = .ok (.ireturn, 1) := by decide +kernel
theorem dX5_ofJumper_97 : decode cX5_ofJumper 97 = .ok (.aload_n 3, 1) := by decide +kernel
theorem dX5_ofJumper_98 : decode cX5_ofJumper 98 = .ok (.getfield 209, 3) := by decide +kernel
theorem dX5_ofJumper_101 : decode cX5_ofJumper 101 = .ok (.ireturn, 1) := by decide +kernel
theorem dX5_ofJumper_102 : decode cX5_ofJumper 102 = .ok (.new 210, 3) := by decide +kernel
theorem dX5_ofJumper_105 : decode cX5_ofJumper 105 = .ok (.dup, 1) := by decide +kernel
theorem dX5_ofJumper_106 : decode cX5_ofJumper 106 = .ok (.ldc 212, 2) := by decide +kernel
theorem dX5_ofJumper_108 : decode cX5_ofJumper 108 = .ok (.invokespecial 214, 3) := by decide +kernel
theorem dX5_ofJumper_111 : decode cX5_ofJumper 111 = .ok (.athrow, 1) := by decide +kernel
theorem dX5_loading_0 : decode cX5_loading 0 = .ok (.aload_n 0, 1) := by decide +kernel
theorem dX5_loading_1 : decode cX5_loading 1 = .ok (.aload_n 0, 1) := by decide +kernel
theorem dX5_loading_2 : decode cX5_loading 2 = .ok (.iload_n 1, 1) := by decide +kernel
theorem dX5_loading_3 : decode cX5_loading 3 = .ok (.invokevirtual 118, 3) := by decide +kernel
theorem dX5_loading_6 : decode cX5_loading 6 = .ok (.invokevirtual 215, 3) := by decide +kernel
theorem dX5_loading_9 : decode cX5_loading 9 = .ok (.f2d, 1) := by decide +kernel
theorem dX5_loading_10 : decode cX5_loading 10 = .ok (.dreturn, 1) := by decide +kernel
theorem dX5_landed_0 : decode cX5_landed 0 = .ok (.aload_n 0, 1) := by decide +kernel
theorem dX5_landed_1 : decode cX5_landed 1 = .ok (.iload_n 1, 1) := by decide +kernel
theorem dX5_landed_2 : decode cX5_landed 2 = .ok (.invokevirtual 118, 3) := by decide +kernel
theorem dX5_landed_5 : decode cX5_landed 5 = .ok (.astore_n 3, 1) := by decide +kernel
theorem dX5_landed_6 : decode cX5_landed 6 = .ok (.iload_n 2, 1) := by decide +kernel
theorem dX5_landed_7 : decode cX5_landed 7 = .ok (.ifCond .eq 10, 3) := by decide +kernel
theorem dX5_landed_10 : decode cX5_landed 10 = .ok (.aload_n 3, 1) := by decide +kernel
theorem dX5_landed_11 : decode cX5_landed 11 = .ok (.getfield 219, 3) := by decide +kernel
theorem dX5_landed_14 : decode cX5_landed 14 = .ok (.goto 7, 3) := by decide +kernel
theorem dX5_landed_17 : decode cX5_landed 17 = .ok (.aload_n 3, 1) := by decide +kernel
theorem dX5_landed_18 : decode cX5_landed 18 = .ok (.getfield 223, 3) := by decide +kernel
theorem dX5_landed_21 : decode cX5_landed 21 = .ok (.dreturn, 1) := by decide +kernel
theorem dX5_refuses_0 : decode cX5_refuses 0 = .ok (.aload_n 0, 1) := by decide +kernel
theorem dX5_refuses_1 : decode cX5_refuses 1 = .ok (.iload_n 1, 1) := by decide +kernel
theorem dX5_refuses_2 : decode cX5_refuses 2 = .ok (.invokevirtual 166, 3) := by decide +kernel
theorem dX5_refuses_5 : decode cX5_refuses 5 = .ok (.ireturn, 1) := by decide +kernel
theorem dX5_ofRig_0 : decode cX5_ofRig 0 = .ok (.aload_n 0, 1) := by decide +kernel
theorem dX5_ofRig_1 : decode cX5_ofRig 1 = .ok (.iload_n 1, 1) := by decide +kernel
theorem dX5_ofRig_2 : decode cX5_ofRig 2 = .ok (.invokevirtual 114, 3) := by decide +kernel
theorem dX5_ofRig_5 : decode cX5_ofRig 5 = .ok (.astore_n 3, 1) := by decide +kernel
theorem dX5_ofRig_6 : decode cX5_ofRig 6 = .ok (.iload_n 2, 1) := by decide +kernel
theorem dX5_ofRig_7 : decode cX5_ofRig 7 = .ok (.tableswitch 67 0 4 #[33, 38, 43, 48, 61], 33) := by decide +kernel
theorem dX5_ofRig_40 : decode cX5_ofRig 40 = .ok (.aload_n 3, 1) := by decide +kernel
theorem dX5_ofRig_41 : decode cX5_ofRig 41 = .ok (.getfield 108, 3) := by decide +kernel
theorem dX5_ofRig_44 : decode cX5_ofRig 44 = .ok (.ireturn, 1) := by decide +kernel
theorem dX5_ofRig_45 : decode cX5_ofRig 45 = .ok (.aload_n 3, 1) := by decide +kernel
theorem dX5_ofRig_46 : decode cX5_ofRig 46 = .ok (.getfield 111, 3) := by decide +kernel
theorem dX5_ofRig_49 : decode cX5_ofRig 49 = .ok (.ireturn, 1) := by decide +kernel
theorem dX5_ofRig_50 : decode cX5_ofRig 50 = .ok (.aload_n 3, 1) := by decide +kernel
theorem dX5_ofRig_51 : decode cX5_ofRig 51 = .ok (.getfield 148, 3) := by decide +kernel
theorem dX5_ofRig_54 : decode cX5_ofRig 54 = .ok (.ireturn, 1) := by decide +kernel
theorem dX5_ofRig_55 : decode cX5_ofRig 55 = .ok (.aload_n 3, 1) := by decide +kernel
theorem dX5_ofRig_56 : decode cX5_ofRig 56 = .ok (.getfield 134, 3) := by decide +kernel
theorem dX5_ofRig_59 : decode cX5_ofRig 59 = .ok (.ifCond .eq 7, 3) := by decide +kernel
theorem dX5_ofRig_62 : decode cX5_ofRig 62 = .ok (.iconst 1, 1) := by decide +kernel
theorem dX5_ofRig_63 : decode cX5_ofRig 63 = .ok (.goto 4, 3) := by decide +kernel
theorem dX5_ofRig_66 : decode cX5_ofRig 66 = .ok (.iconst 0, 1) := by decide +kernel
theorem dX5_ofRig_67 : decode cX5_ofRig 67 = .ok (.ireturn, 1) := by decide +kernel
theorem dX5_ofRig_68 : decode cX5_ofRig 68 = .ok (.aload_n 0, 1) := by decide +kernel
theorem dX5_ofRig_69 : decode cX5_ofRig 69 = .ok (.iload_n 1, 1) := by decide +kernel
theorem dX5_ofRig_70 : decode cX5_ofRig 70 = .ok (.invokevirtual 122, 3) := by decide +kernel
theorem dX5_ofRig_73 : decode cX5_ofRig 73 = .ok (.ireturn, 1) := by decide +kernel
theorem dX5_ofRig_74 : decode cX5_ofRig 74 = .ok (.new 210, 3) := by decide +kernel
theorem dX5_ofRig_77 : decode cX5_ofRig 77 = .ok (.dup, 1) := by decide +kernel
theorem dX5_ofRig_78 : decode cX5_ofRig 78 = .ok (.ldc 226, 2) := by decide +kernel
theorem dX5_ofRig_80 : decode cX5_ofRig 80 = .ok (.invokespecial 214, 3) := by decide +kernel
theorem dX5_ofRig_83 : decode cX5_ofRig 83 = .ok (.athrow, 1) := by decide +kernel
theorem dX5_wear_0 : decode cX5_wear 0 = .ok (.aload_n 0, 1) := by decide +kernel
theorem dX5_wear_1 : decode cX5_wear 1 = .ok (.iload_n 1, 1) := by decide +kernel
theorem dX5_wear_2 : decode cX5_wear 2 = .ok (.invokevirtual 114, 3) := by decide +kernel
theorem dX5_wear_5 : decode cX5_wear 5 = .ok (.getfield 228, 3) := by decide +kernel
theorem dX5_wear_8 : decode cX5_wear 8 = .ok (.f2d, 1) := by decide +kernel
theorem dX5_wear_9 : decode cX5_wear 9 = .ok (.dreturn, 1) := by decide +kernel
theorem dX5_ofWind_0 : decode cX5_ofWind 0 = .ok (.iload_n 1, 1) := by decide +kernel
theorem dX5_ofWind_1 : decode cX5_ofWind 1 = .ok (.invokestatic 153, 3) := by decide +kernel
theorem dX5_ofWind_4 : decode cX5_ofWind 4 = .ok (.iload_n 2, 1) := by decide +kernel
theorem dX5_ofWind_5 : decode cX5_ofWind 5 = .ok (.ifCond .eq 14, 3) := by decide +kernel
theorem dX5_ofWind_8 : decode cX5_ofWind 8 = .ok (.aload_n 0, 1) := by decide +kernel
theorem dX5_ofWind_9 : decode cX5_ofWind 9 = .ok (.getfield 31, 3) := by decide +kernel
theorem dX5_ofWind_12 : decode cX5_ofWind 12 = .ok (.iload_n 1, 1) := by decide +kernel
theorem dX5_ofWind_13 : decode cX5_ofWind 13 = .ok (.invokevirtual 232, 3) := by decide +kernel
theorem dX5_ofWind_16 : decode cX5_ofWind 16 = .ok (.goto 11, 3) := by decide +kernel
theorem dX5_ofWind_19 : decode cX5_ofWind 19 = .ok (.aload_n 0, 1) := by decide +kernel
theorem dX5_ofWind_20 : decode cX5_ofWind 20 = .ok (.getfield 31, 3) := by decide +kernel
theorem dX5_ofWind_23 : decode cX5_ofWind 23 = .ok (.iload_n 1, 1) := by decide +kernel
theorem dX5_ofWind_24 : decode cX5_ofWind 24 = .ok (.invokevirtual 235, 3) := by decide +kernel
theorem dX5_ofWind_27 : decode cX5_ofWind 27 = .ok (.ireturn, 1) := by decide +kernel
theorem dX5_many_0 : decode cX5_many 0 = .ok (.iload_n 1, 1) := by decide +kernel
theorem dX5_many_1 : decode cX5_many 1 = .ok (.tableswitch 143 0 12 #[67, 72, 77, 82, 90, 95, 100, 105, 110, 115, 120, 125, 138], 67) := by decide +kernel
theorem dX5_many_68 : decode cX5_many 68 = .ok (.aload_n 0, 1) := by decide +kernel
theorem dX5_many_69 : decode cX5_many 69 = .ok (.getfield 60, 3) := by decide +kernel
theorem dX5_many_72 : decode cX5_many 72 = .ok (.ireturn, 1) := by decide +kernel
theorem dX5_many_73 : decode cX5_many 73 = .ok (.aload_n 0, 1) := by decide +kernel
theorem dX5_many_74 : decode cX5_many 74 = .ok (.getfield 15, 3) := by decide +kernel
theorem dX5_many_77 : decode cX5_many 77 = .ok (.ireturn, 1) := by decide +kernel
theorem dX5_many_78 : decode cX5_many 78 = .ok (.aload_n 0, 1) := by decide +kernel
theorem dX5_many_79 : decode cX5_many 79 = .ok (.getfield 25, 3) := by decide +kernel
theorem dX5_many_82 : decode cX5_many 82 = .ok (.ireturn, 1) := by decide +kernel
theorem dX5_many_83 : decode cX5_many 83 = .ok (.aload_n 0, 1) := by decide +kernel
theorem dX5_many_84 : decode cX5_many 84 = .ok (.getfield 31, 3) := by decide +kernel
theorem dX5_many_87 : decode cX5_many 87 = .ok (.invokevirtual 160, 3) := by decide +kernel
theorem dX5_many_90 : decode cX5_many 90 = .ok (.ireturn, 1) := by decide +kernel
theorem dX5_many_91 : decode cX5_many 91 = .ok (.aload_n 0, 1) := by decide +kernel
theorem dX5_many_92 : decode cX5_many 92 = .ok (.getfield 39, 3) := by decide +kernel
theorem dX5_many_95 : decode cX5_many 95 = .ok (.ireturn, 1) := by decide +kernel
theorem dX5_many_96 : decode cX5_many 96 = .ok (.aload_n 0, 1) := by decide +kernel
theorem dX5_many_97 : decode cX5_many 97 = .ok (.getfield 63, 3) := by decide +kernel
theorem dX5_many_100 : decode cX5_many 100 = .ok (.ireturn, 1) := by decide +kernel
theorem dX5_many_101 : decode cX5_many 101 = .ok (.aload_n 0, 1) := by decide +kernel
theorem dX5_many_102 : decode cX5_many 102 = .ok (.getfield 66, 3) := by decide +kernel
theorem dX5_many_105 : decode cX5_many 105 = .ok (.ireturn, 1) := by decide +kernel
theorem dX5_many_106 : decode cX5_many 106 = .ok (.aload_n 0, 1) := by decide +kernel
theorem dX5_many_107 : decode cX5_many 107 = .ok (.getfield 69, 3) := by decide +kernel
theorem dX5_many_110 : decode cX5_many 110 = .ok (.ireturn, 1) := by decide +kernel
theorem dX5_many_111 : decode cX5_many 111 = .ok (.aload_n 0, 1) := by decide +kernel
theorem dX5_many_112 : decode cX5_many 112 = .ok (.getfield 72, 3) := by decide +kernel
theorem dX5_many_115 : decode cX5_many 115 = .ok (.ireturn, 1) := by decide +kernel
theorem dX5_many_116 : decode cX5_many 116 = .ok (.aload_n 0, 1) := by decide +kernel
theorem dX5_many_117 : decode cX5_many 117 = .ok (.getfield 75, 3) := by decide +kernel
theorem dX5_many_120 : decode cX5_many 120 = .ok (.ireturn, 1) := by decide +kernel
theorem dX5_many_121 : decode cX5_many 121 = .ok (.aload_n 0, 1) := by decide +kernel
theorem dX5_many_122 : decode cX5_many 122 = .ok (.getfield 78, 3) := by decide +kernel
theorem dX5_many_125 : decode cX5_many 125 = .ok (.ireturn, 1) := by decide +kernel
theorem dX5_many_126 : decode cX5_many 126 = .ok (.aload_n 0, 1) := by decide +kernel
theorem dX5_many_127 : decode cX5_many 127 = .ok (.getfield 42, 3) := by decide +kernel
theorem dX5_many_130 : decode cX5_many 130 = .ok (.ifCond .eq 7, 3) := by decide +kernel
theorem dX5_many_133 : decode cX5_many 133 = .ok (.iconst 1, 1) := by decide +kernel
theorem dX5_many_134 : decode cX5_many 134 = .ok (.goto 4, 3) := by decide +kernel
theorem dX5_many_137 : decode cX5_many 137 = .ok (.iconst 0, 1) := by decide +kernel
theorem dX5_many_138 : decode cX5_many 138 = .ok (.ireturn, 1) := by decide +kernel
theorem dX5_many_139 : decode cX5_many 139 = .ok (.aload_n 0, 1) := by decide +kernel
theorem dX5_many_140 : decode cX5_many 140 = .ok (.getfield 81, 3) := by decide +kernel
theorem dX5_many_143 : decode cX5_many 143 = .ok (.ireturn, 1) := by decide +kernel
theorem dX5_many_144 : decode cX5_many 144 = .ok (.new 210, 3) := by decide +kernel
theorem dX5_many_147 : decode cX5_many 147 = .ok (.dup, 1) := by decide +kernel
theorem dX5_many_148 : decode cX5_many 148 = .ok (.ldc 238, 2) := by decide +kernel
theorem dX5_many_150 : decode cX5_many 150 = .ok (.invokespecial 214, 3) := by decide +kernel
theorem dX5_many_153 : decode cX5_many 153 = .ok (.athrow, 1) := by decide +kernel
theorem dX5_order_0 : decode cX5_order 0 = .ok (.iload_n 1, 1) := by decide +kernel
theorem dX5_order_1 : decode cX5_order 1 = .ok (.ifCond .lt 17, 3) := by decide +kernel
theorem dX5_order_4 : decode cX5_order 4 = .ok (.iload_n 1, 1) := by decide +kernel
theorem dX5_order_5 : decode cX5_order 5 = .ok (.aload_n 0, 1) := by decide +kernel
theorem dX5_order_6 : decode cX5_order 6 = .ok (.getfield 39, 3) := by decide +kernel
theorem dX5_order_9 : decode cX5_order 9 = .ok (.if_icmp .ge 9, 3) := by decide +kernel
theorem dX5_order_12 : decode cX5_order 12 = .ok (.iload_n 1, 1) := by decide +kernel
theorem dX5_order_13 : decode cX5_order 13 = .ok (.bipush 6, 2) := by decide +kernel
theorem dX5_order_15 : decode cX5_order 15 = .ok (.if_icmp .lt 13, 3) := by decide +kernel
theorem dX5_order_18 : decode cX5_order 18 = .ok (.new 240, 3) := by decide +kernel
theorem dX5_order_21 : decode cX5_order 21 = .ok (.dup, 1) := by decide +kernel
theorem dX5_order_22 : decode cX5_order 22 = .ok (.ldc 242, 2) := by decide +kernel
theorem dX5_order_24 : decode cX5_order 24 = .ok (.invokespecial 244, 3) := by decide +kernel
theorem dX5_order_27 : decode cX5_order 27 = .ok (.athrow, 1) := by decide +kernel
theorem dX5_order_28 : decode cX5_order 28 = .ok (.aload_n 0, 1) := by decide +kernel
theorem dX5_order_29 : decode cX5_order 29 = .ok (.getfield 35, 3) := by decide +kernel
theorem dX5_order_32 : decode cX5_order 32 = .ok (.iload_n 1, 1) := by decide +kernel
theorem dX5_order_33 : decode cX5_order 33 = .ok (.iaload, 1) := by decide +kernel
theorem dX5_order_34 : decode cX5_order 34 = .ok (.ireturn, 1) := by decide +kernel
theorem dX5_wouldLand_0 : decode cX5_wouldLand 0 = .ok (.aload_n 0, 1) := by decide +kernel
theorem dX5_wouldLand_1 : decode cX5_wouldLand 1 = .ok (.iload_n 1, 1) := by decide +kernel
theorem dX5_wouldLand_2 : decode cX5_wouldLand 2 = .ok (.invokevirtual 118, 3) := by decide +kernel
theorem dX5_wouldLand_5 : decode cX5_wouldLand 5 = .ok (.astore 6, 2) := by decide +kernel
theorem dX5_wouldLand_7 : decode cX5_wouldLand 7 = .ok (.iload_n 2, 1) := by decide +kernel
theorem dX5_wouldLand_8 : decode cX5_wouldLand 8 = .ok (.iconst 0, 1) := by decide +kernel
theorem dX5_wouldLand_9 : decode cX5_wouldLand 9 = .ok (.iconst 1, 1) := by decide +kernel
theorem dX5_wouldLand_10 : decode cX5_wouldLand 10 = .ok (.invokestatic 86, 3) := by decide +kernel
theorem dX5_wouldLand_13 : decode cX5_wouldLand 13 = .ok (.iload_n 3, 1) := by decide +kernel
theorem dX5_wouldLand_14 : decode cX5_wouldLand 14 = .ok (.iconst 2, 1) := by decide +kernel
theorem dX5_wouldLand_15 : decode cX5_wouldLand 15 = .ok (.bipush 6, 2) := by decide +kernel
theorem dX5_wouldLand_17 : decode cX5_wouldLand 17 = .ok (.invokestatic 86, 3) := by decide +kernel
theorem dX5_wouldLand_20 : decode cX5_wouldLand 20 = .ok (.iload 4, 2) := by decide +kernel
theorem dX5_wouldLand_22 : decode cX5_wouldLand 22 = .ok (.sipush (-200), 3) := by decide +kernel
theorem dX5_wouldLand_25 : decode cX5_wouldLand 25 = .ok (.sipush 200, 3) := by decide +kernel
theorem dX5_wouldLand_28 : decode cX5_wouldLand 28 = .ok (.invokestatic 86, 3) := by decide +kernel
theorem dX5_wouldLand_31 : decode cX5_wouldLand 31 = .ok (.aload_n 0, 1) := by decide +kernel
theorem dX5_wouldLand_32 : decode cX5_wouldLand 32 = .ok (.aload 6, 2) := by decide +kernel
theorem dX5_wouldLand_34 : decode cX5_wouldLand 34 = .ok (.iload_n 2, 1) := by decide +kernel
theorem dX5_wouldLand_35 : decode cX5_wouldLand 35 = .ok (.iload_n 3, 1) := by decide +kernel
theorem dX5_wouldLand_36 : decode cX5_wouldLand 36 = .ok (.invokevirtual 245, 3) := by decide +kernel
theorem dX5_wouldLand_39 : decode cX5_wouldLand 39 = .ok (.aload_n 0, 1) := by decide +kernel
theorem dX5_wouldLand_40 : decode cX5_wouldLand 40 = .ok (.getfield 56, 3) := by decide +kernel
theorem dX5_wouldLand_43 : decode cX5_wouldLand 43 = .ok (.iload 4, 2) := by decide +kernel
theorem dX5_wouldLand_45 : decode cX5_wouldLand 45 = .ok (.i2d, 1) := by decide +kernel
theorem dX5_wouldLand_46 : decode cX5_wouldLand 46 = .ok (.iconst 0, 1) := by decide +kernel
theorem dX5_wouldLand_47 : decode cX5_wouldLand 47 = .ok (.invokevirtual 249, 3) := by decide +kernel
theorem dX5_wouldLand_50 : decode cX5_wouldLand 50 = .ok (.aload_n 0, 1) := by decide +kernel
theorem dX5_wouldLand_51 : decode cX5_wouldLand 51 = .ok (.getfield 56, 3) := by decide +kernel
theorem dX5_wouldLand_54 : decode cX5_wouldLand 54 = .ok (.aload_n 0, 1) := by decide +kernel
theorem dX5_wouldLand_55 : decode cX5_wouldLand 55 = .ok (.getfield 31, 3) := by decide +kernel
theorem dX5_wouldLand_58 : decode cX5_wouldLand 58 = .ok (.invokevirtual 252, 3) := by decide +kernel
theorem dX5_wouldLand_61 : decode cX5_wouldLand 61 = .ok (.pop, 1) := by decide +kernel
theorem dX5_wouldLand_62 : decode cX5_wouldLand 62 = .ok (.iload 5, 2) := by decide +kernel
theorem dX5_wouldLand_64 : decode cX5_wouldLand 64 = .ok (.ifCond .eq 13, 3) := by decide +kernel
theorem dX5_wouldLand_67 : decode cX5_wouldLand 67 = .ok (.aload_n 0, 1) := by decide +kernel
theorem dX5_wouldLand_68 : decode cX5_wouldLand 68 = .ok (.getfield 56, 3) := by decide +kernel
theorem dX5_wouldLand_71 : decode cX5_wouldLand 71 = .ok (.getfield 255, 3) := by decide +kernel
theorem dX5_wouldLand_74 : decode cX5_wouldLand 74 = .ok (.goto 10, 3) := by decide +kernel
theorem dX5_wouldLand_77 : decode cX5_wouldLand 77 = .ok (.aload_n 0, 1) := by decide +kernel
theorem dX5_wouldLand_78 : decode cX5_wouldLand 78 = .ok (.getfield 56, 3) := by decide +kernel
theorem dX5_wouldLand_81 : decode cX5_wouldLand 81 = .ok (.getfield 258, 3) := by decide +kernel
theorem dX5_wouldLand_84 : decode cX5_wouldLand 84 = .ok (.dreturn, 1) := by decide +kernel
theorem dX5_takes_0 : decode cX5_takes 0 = .ok (.aload_n 0, 1) := by decide +kernel
theorem dX5_takes_1 : decode cX5_takes 1 = .ok (.iload_n 1, 1) := by decide +kernel
theorem dX5_takes_2 : decode cX5_takes 2 = .ok (.invokevirtual 118, 3) := by decide +kernel
theorem dX5_takes_5 : decode cX5_takes 5 = .ok (.astore 4, 2) := by decide +kernel
theorem dX5_takes_7 : decode cX5_takes 7 = .ok (.iload_n 2, 1) := by decide +kernel
theorem dX5_takes_8 : decode cX5_takes 8 = .ok (.iconst 0, 1) := by decide +kernel
theorem dX5_takes_9 : decode cX5_takes 9 = .ok (.iconst 1, 1) := by decide +kernel
theorem dX5_takes_10 : decode cX5_takes 10 = .ok (.invokestatic 86, 3) := by decide +kernel
theorem dX5_takes_13 : decode cX5_takes 13 = .ok (.iload_n 3, 1) := by decide +kernel
theorem dX5_takes_14 : decode cX5_takes 14 = .ok (.iconst 2, 1) := by decide +kernel
theorem dX5_takes_15 : decode cX5_takes 15 = .ok (.bipush 6, 2) := by decide +kernel
theorem dX5_takes_17 : decode cX5_takes 17 = .ok (.invokestatic 86, 3) := by decide +kernel
theorem dX5_takes_20 : decode cX5_takes 20 = .ok (.aload_n 0, 1) := by decide +kernel
theorem dX5_takes_21 : decode cX5_takes 21 = .ok (.aload 4, 2) := by decide +kernel
theorem dX5_takes_23 : decode cX5_takes 23 = .ok (.iload_n 2, 1) := by decide +kernel
theorem dX5_takes_24 : decode cX5_takes 24 = .ok (.iload_n 3, 1) := by decide +kernel
theorem dX5_takes_25 : decode cX5_takes 25 = .ok (.invokevirtual 245, 3) := by decide +kernel
theorem dX5_takes_28 : decode cX5_takes 28 = .ok (.aload_n 0, 1) := by decide +kernel
theorem dX5_takes_29 : decode cX5_takes 29 = .ok (.getfield 56, 3) := by decide +kernel
theorem dX5_takes_32 : decode cX5_takes 32 = .ok (.dconst 0, 1) := by decide +kernel
theorem dX5_takes_33 : decode cX5_takes 33 = .ok (.iconst 0, 1) := by decide +kernel
theorem dX5_takes_34 : decode cX5_takes 34 = .ok (.invokevirtual 249, 3) := by decide +kernel
theorem dX5_takes_37 : decode cX5_takes 37 = .ok (.aload_n 0, 1) := by decide +kernel
theorem dX5_takes_38 : decode cX5_takes 38 = .ok (.getfield 56, 3) := by decide +kernel
theorem dX5_takes_41 : decode cX5_takes 41 = .ok (.aload_n 0, 1) := by decide +kernel
theorem dX5_takes_42 : decode cX5_takes 42 = .ok (.getfield 31, 3) := by decide +kernel
theorem dX5_takes_45 : decode cX5_takes 45 = .ok (.invokevirtual 252, 3) := by decide +kernel
theorem dX5_takes_48 : decode cX5_takes 48 = .ok (.ireturn, 1) := by decide +kernel
theorem dX5_spot_0 : decode cX5_spot 0 = .ok (.iload_n 1, 1) := by decide +kernel
theorem dX5_spot_1 : decode cX5_spot 1 = .ok (.iconst 1, 1) := by decide +kernel
theorem dX5_spot_2 : decode cX5_spot 2 = .ok (.bipush 9, 2) := by decide +kernel
theorem dX5_spot_4 : decode cX5_spot 4 = .ok (.invokestatic 86, 3) := by decide +kernel
theorem dX5_spot_7 : decode cX5_spot 7 = .ok (.aload_n 0, 1) := by decide +kernel
theorem dX5_spot_8 : decode cX5_spot 8 = .ok (.invokevirtual 180, 3) := by decide +kernel
theorem dX5_spot_11 : decode cX5_spot 11 = .ok (.iconst 0, 1) := by decide +kernel
theorem dX5_spot_12 : decode cX5_spot 12 = .ok (.istore_n 2, 1) := by decide +kernel
theorem dX5_spot_13 : decode cX5_spot 13 = .ok (.iconst (-1), 1) := by decide +kernel
theorem dX5_spot_14 : decode cX5_spot 14 = .ok (.istore_n 3, 1) := by decide +kernel
theorem dX5_spot_15 : decode cX5_spot 15 = .ok (.sipush (-200), 3) := by decide +kernel
theorem dX5_spot_18 : decode cX5_spot 18 = .ok (.istore 4, 2) := by decide +kernel
theorem dX5_spot_20 : decode cX5_spot 20 = .ok (.iload 4, 2) := by decide +kernel
theorem dX5_spot_22 : decode cX5_spot 22 = .ok (.sipush 200, 3) := by decide +kernel
theorem dX5_spot_25 : decode cX5_spot 25 = .ok (.if_icmp .gt 48, 3) := by decide +kernel
theorem dX5_spot_28 : decode cX5_spot 28 = .ok (.aload_n 0, 1) := by decide +kernel
theorem dX5_spot_29 : decode cX5_spot 29 = .ok (.iload 4, 2) := by decide +kernel
theorem dX5_spot_31 : decode cX5_spot 31 = .ok (.iload_n 1, 1) := by decide +kernel
theorem dX5_spot_32 : decode cX5_spot 32 = .ok (.invokevirtual 261, 3) := by decide +kernel
theorem dX5_spot_35 : decode cX5_spot 35 = .ok (.istore 5, 2) := by decide +kernel
theorem dX5_spot_37 : decode cX5_spot 37 = .ok (.iload 5, 2) := by decide +kernel
theorem dX5_spot_39 : decode cX5_spot 39 = .ok (.iload_n 3, 1) := by decide +kernel
theorem dX5_spot_40 : decode cX5_spot 40 = .ok (.if_icmp .gt 21, 3) := by decide +kernel
theorem dX5_spot_43 : decode cX5_spot 43 = .ok (.iload 5, 2) := by decide +kernel
theorem dX5_spot_45 : decode cX5_spot 45 = .ok (.iload_n 3, 1) := by decide +kernel
theorem dX5_spot_46 : decode cX5_spot 46 = .ok (.if_icmp .ne 21, 3) := by decide +kernel
theorem dX5_spot_49 : decode cX5_spot 49 = .ok (.iload 4, 2) := by decide +kernel
theorem dX5_spot_51 : decode cX5_spot 51 = .ok (.invokestatic 264, 3) := by decide +kernel
theorem dX5_spot_54 : decode cX5_spot 54 = .ok (.iload_n 2, 1) := by decide +kernel
theorem dX5_spot_55 : decode cX5_spot 55 = .ok (.invokestatic 264, 3) := by decide +kernel
theorem dX5_spot_58 : decode cX5_spot 58 = .ok (.if_icmp .ge 9, 3) := by decide +kernel
theorem dX5_spot_61 : decode cX5_spot 61 = .ok (.iload 5, 2) := by decide +kernel
theorem dX5_spot_63 : decode cX5_spot 63 = .ok (.istore_n 3, 1) := by decide +kernel
theorem dX5_spot_64 : decode cX5_spot 64 = .ok (.iload 4, 2) := by decide +kernel
theorem dX5_spot_66 : decode cX5_spot 66 = .ok (.istore_n 2, 1) := by decide +kernel
theorem dX5_spot_67 : decode cX5_spot 67 = .ok (.iinc 4 20, 3) := by decide +kernel
theorem dX5_spot_70 : decode cX5_spot 70 = .ok (.goto (-50), 3) := by decide +kernel
theorem dX5_spot_73 : decode cX5_spot 73 = .ok (.iload_n 2, 1) := by decide +kernel
theorem dX5_spot_74 : decode cX5_spot 74 = .ok (.ireturn, 1) := by decide +kernel
theorem dX5_wouldMeet_0 : decode cX5_wouldMeet 0 = .ok (.iload_n 1, 1) := by decide +kernel
theorem dX5_wouldMeet_1 : decode cX5_wouldMeet 1 = .ok (.iconst 1, 1) := by decide +kernel
theorem dX5_wouldMeet_2 : decode cX5_wouldMeet 2 = .ok (.bipush 9, 2) := by decide +kernel
theorem dX5_wouldMeet_4 : decode cX5_wouldMeet 4 = .ok (.invokestatic 86, 3) := by decide +kernel
theorem dX5_wouldMeet_7 : decode cX5_wouldMeet 7 = .ok (.iload_n 2, 1) := by decide +kernel
theorem dX5_wouldMeet_8 : decode cX5_wouldMeet 8 = .ok (.sipush (-200), 3) := by decide +kernel
theorem dX5_wouldMeet_11 : decode cX5_wouldMeet 11 = .ok (.sipush 200, 3) := by decide +kernel
theorem dX5_wouldMeet_14 : decode cX5_wouldMeet 14 = .ok (.invokestatic 86, 3) := by decide +kernel
theorem dX5_wouldMeet_17 : decode cX5_wouldMeet 17 = .ok (.aload_n 0, 1) := by decide +kernel
theorem dX5_wouldMeet_18 : decode cX5_wouldMeet 18 = .ok (.invokevirtual 180, 3) := by decide +kernel
theorem dX5_wouldMeet_21 : decode cX5_wouldMeet 21 = .ok (.aload_n 0, 1) := by decide +kernel
theorem dX5_wouldMeet_22 : decode cX5_wouldMeet 22 = .ok (.getfield 49, 3) := by decide +kernel
theorem dX5_wouldMeet_25 : decode cX5_wouldMeet 25 = .ok (.iload_n 2, 1) := by decide +kernel
theorem dX5_wouldMeet_26 : decode cX5_wouldMeet 26 = .ok (.iload_n 1, 1) := by decide +kernel
theorem dX5_wouldMeet_27 : decode cX5_wouldMeet 27 = .ok (.aload_n 0, 1) := by decide +kernel
theorem dX5_wouldMeet_28 : decode cX5_wouldMeet 28 = .ok (.getfield 31, 3) := by decide +kernel
theorem dX5_wouldMeet_31 : decode cX5_wouldMeet 31 = .ok (.invokevirtual 186, 3) := by decide +kernel
theorem dX5_wouldMeet_34 : decode cX5_wouldMeet 34 = .ok (.aload_n 0, 1) := by decide +kernel
theorem dX5_wouldMeet_35 : decode cX5_wouldMeet 35 = .ok (.getfield 49, 3) := by decide +kernel
theorem dX5_wouldMeet_38 : decode cX5_wouldMeet 38 = .ok (.aload_n 0, 1) := by decide +kernel
theorem dX5_wouldMeet_39 : decode cX5_wouldMeet 39 = .ok (.getfield 31, 3) := by decide +kernel
theorem dX5_wouldMeet_42 : decode cX5_wouldMeet 42 = .ok (.invokevirtual 190, 3) := by decide +kernel
theorem dX5_wouldMeet_45 : decode cX5_wouldMeet 45 = .ok (.ireturn, 1) := by decide +kernel
theorem dX5_best_0 : decode cX5_best 0 = .ok (.aload_n 0, 1) := by decide +kernel
theorem dX5_best_1 : decode cX5_best 1 = .ok (.iload_n 1, 1) := by decide +kernel
theorem dX5_best_2 : decode cX5_best 2 = .ok (.invokevirtual 118, 3) := by decide +kernel
theorem dX5_best_5 : decode cX5_best 5 = .ok (.astore_n 2, 1) := by decide +kernel
theorem dX5_best_6 : decode cX5_best 6 = .ok (.iconst (-1), 1) := by decide +kernel
theorem dX5_best_7 : decode cX5_best 7 = .ok (.istore_n 3, 1) := by decide +kernel
theorem dX5_best_8 : decode cX5_best 8 = .ok (.fconst 0, 1) := by decide +kernel
theorem dX5_best_9 : decode cX5_best 9 = .ok (.fstore 4, 2) := by decide +kernel
theorem dX5_best_11 : decode cX5_best 11 = .ok (.iconst 0, 1) := by decide +kernel
theorem dX5_best_12 : decode cX5_best 12 = .ok (.istore 5, 2) := by decide +kernel
theorem dX5_best_14 : decode cX5_best 14 = .ok (.iload 5, 2) := by decide +kernel
theorem dX5_best_16 : decode cX5_best 16 = .ok (.aload_n 0, 1) := by decide +kernel
theorem dX5_best_17 : decode cX5_best 17 = .ok (.getfield 25, 3) := by decide +kernel
theorem dX5_best_20 : decode cX5_best 20 = .ok (.if_icmp .ge 66, 3) := by decide +kernel
theorem dX5_best_23 : decode cX5_best 23 = .ok (.aload_n 0, 1) := by decide +kernel
theorem dX5_best_24 : decode cX5_best 24 = .ok (.iload 5, 2) := by decide +kernel
theorem dX5_best_26 : decode cX5_best 26 = .ok (.invokevirtual 122, 3) := by decide +kernel
theorem dX5_best_29 : decode cX5_best 29 = .ok (.istore 6, 2) := by decide +kernel
theorem dX5_best_31 : decode cX5_best 31 = .ok (.aload_n 2, 1) := by decide +kernel
theorem dX5_best_32 : decode cX5_best 32 = .ok (.aload_n 0, 1) := by decide +kernel
theorem dX5_best_33 : decode cX5_best 33 = .ok (.iload 5, 2) := by decide +kernel
theorem dX5_best_35 : decode cX5_best 35 = .ok (.invokevirtual 114, 3) := by decide +kernel
theorem dX5_best_38 : decode cX5_best 38 = .ok (.invokestatic 267, 3) := by decide +kernel
theorem dX5_best_41 : decode cX5_best 41 = .ok (.fstore 7, 2) := by decide +kernel
theorem dX5_best_43 : decode cX5_best 43 = .ok (.iload 6, 2) := by decide +kernel
theorem dX5_best_45 : decode cX5_best 45 = .ok (.iconst (-1), 1) := by decide +kernel
theorem dX5_best_46 : decode cX5_best 46 = .ok (.if_icmp .eq 9, 3) := by decide +kernel
theorem dX5_best_49 : decode cX5_best 49 = .ok (.iload 6, 2) := by decide +kernel
theorem dX5_best_51 : decode cX5_best 51 = .ok (.iload_n 1, 1) := by decide +kernel
theorem dX5_best_52 : decode cX5_best 52 = .ok (.if_icmp .ne 28, 3) := by decide +kernel
theorem dX5_best_55 : decode cX5_best 55 = .ok (.aload_n 0, 1) := by decide +kernel
theorem dX5_best_56 : decode cX5_best 56 = .ok (.aload_n 2, 1) := by decide +kernel
theorem dX5_best_57 : decode cX5_best 57 = .ok (.fload 7, 2) := by decide +kernel
theorem dX5_best_59 : decode cX5_best 59 = .ok (.invokevirtual 271, 3) := by decide +kernel
theorem dX5_best_62 : decode cX5_best 62 = .ok (.ifCond .eq 18, 3) := by decide +kernel
theorem dX5_best_65 : decode cX5_best 65 = .ok (.fload 7, 2) := by decide +kernel
theorem dX5_best_67 : decode cX5_best 67 = .ok (.fload 4, 2) := by decide +kernel
theorem dX5_best_69 : decode cX5_best 69 = .ok (.fcmp .l, 1) := by decide +kernel
theorem dX5_best_70 : decode cX5_best 70 = .ok (.ifCond .le 10, 3) := by decide +kernel
theorem dX5_best_73 : decode cX5_best 73 = .ok (.iload 5, 2) := by decide +kernel
theorem dX5_best_75 : decode cX5_best 75 = .ok (.istore_n 3, 1) := by decide +kernel
theorem dX5_best_76 : decode cX5_best 76 = .ok (.fload 7, 2) := by decide +kernel
theorem dX5_best_78 : decode cX5_best 78 = .ok (.fstore 4, 2) := by decide +kernel
theorem dX5_best_80 : decode cX5_best 80 = .ok (.iinc 5 1, 3) := by decide +kernel
theorem dX5_best_83 : decode cX5_best 83 = .ok (.goto (-69), 3) := by decide +kernel
theorem dX5_best_86 : decode cX5_best 86 = .ok (.iload_n 3, 1) := by decide +kernel
theorem dX5_best_87 : decode cX5_best 87 = .ok (.ireturn, 1) := by decide +kernel
theorem dX5_digest_0 : decode cX5_digest 0 = .ok (.ldc2_w 275, 3) := by decide +kernel
theorem dX5_digest_3 : decode cX5_digest 3 = .ok (.lstore_n 1, 1) := by decide +kernel
theorem dX5_digest_4 : decode cX5_digest 4 = .ok (.iconst 0, 1) := by decide +kernel
theorem dX5_digest_5 : decode cX5_digest 5 = .ok (.istore_n 3, 1) := by decide +kernel
theorem dX5_digest_6 : decode cX5_digest 6 = .ok (.iload_n 3, 1) := by decide +kernel
theorem dX5_digest_7 : decode cX5_digest 7 = .ok (.bipush 12, 2) := by decide +kernel
theorem dX5_digest_9 : decode cX5_digest 9 = .ok (.if_icmp .gt 22, 3) := by decide +kernel
theorem dX5_digest_12 : decode cX5_digest 12 = .ok (.lload_n 1, 1) := by decide +kernel
theorem dX5_digest_13 : decode cX5_digest 13 = .ok (.ldc2_w 277, 3) := by decide +kernel
theorem dX5_digest_16 : decode cX5_digest 16 = .ok (.lmul, 1) := by decide +kernel
theorem dX5_digest_17 : decode cX5_digest 17 = .ok (.aload_n 0, 1) := by decide +kernel
theorem dX5_digest_18 : decode cX5_digest 18 = .ok (.iload_n 3, 1) := by decide +kernel
theorem dX5_digest_19 : decode cX5_digest 19 = .ok (.invokevirtual 279, 3) := by decide +kernel
theorem dX5_digest_22 : decode cX5_digest 22 = .ok (.i2l, 1) := by decide +kernel
theorem dX5_digest_23 : decode cX5_digest 23 = .ok (.ladd, 1) := by decide +kernel
theorem dX5_digest_24 : decode cX5_digest 24 = .ok (.lstore_n 1, 1) := by decide +kernel
theorem dX5_digest_25 : decode cX5_digest 25 = .ok (.iinc 3 1, 3) := by decide +kernel
theorem dX5_digest_28 : decode cX5_digest 28 = .ok (.goto (-22), 3) := by decide +kernel
theorem dX5_digest_31 : decode cX5_digest 31 = .ok (.iconst 0, 1) := by decide +kernel
theorem dX5_digest_32 : decode cX5_digest 32 = .ok (.istore_n 3, 1) := by decide +kernel
theorem dX5_digest_33 : decode cX5_digest 33 = .ok (.iload_n 3, 1) := by decide +kernel
theorem dX5_digest_34 : decode cX5_digest 34 = .ok (.aload_n 0, 1) := by decide +kernel
theorem dX5_digest_35 : decode cX5_digest 35 = .ok (.getfield 15, 3) := by decide +kernel
theorem dX5_digest_38 : decode cX5_digest 38 = .ok (.if_icmp .ge 16, 3) := by decide +kernel
theorem dX5_digest_41 : decode cX5_digest 41 = .ok (.aload_n 0, 1) := by decide +kernel
theorem dX5_digest_42 : decode cX5_digest 42 = .ok (.lload_n 1, 1) := by decide +kernel
theorem dX5_digest_43 : decode cX5_digest 43 = .ok (.iload_n 3, 1) := by decide +kernel
theorem dX5_digest_44 : decode cX5_digest 44 = .ok (.invokevirtual 282, 3) := by decide +kernel
theorem dX5_digest_47 : decode cX5_digest 47 = .ok (.lstore_n 1, 1) := by decide +kernel
theorem dX5_digest_48 : decode cX5_digest 48 = .ok (.iinc 3 1, 3) := by decide +kernel
theorem dX5_digest_51 : decode cX5_digest 51 = .ok (.goto (-18), 3) := by decide +kernel
theorem dX5_digest_54 : decode cX5_digest 54 = .ok (.iconst 0, 1) := by decide +kernel
theorem dX5_digest_55 : decode cX5_digest 55 = .ok (.istore_n 3, 1) := by decide +kernel
theorem dX5_digest_56 : decode cX5_digest 56 = .ok (.iload_n 3, 1) := by decide +kernel
theorem dX5_digest_57 : decode cX5_digest 57 = .ok (.aload_n 0, 1) := by decide +kernel
theorem dX5_digest_58 : decode cX5_digest 58 = .ok (.getfield 25, 3) := by decide +kernel
theorem dX5_digest_61 : decode cX5_digest 61 = .ok (.if_icmp .ge 16, 3) := by decide +kernel
theorem dX5_digest_64 : decode cX5_digest 64 = .ok (.aload_n 0, 1) := by decide +kernel
theorem dX5_digest_65 : decode cX5_digest 65 = .ok (.lload_n 1, 1) := by decide +kernel
theorem dX5_digest_66 : decode cX5_digest 66 = .ok (.iload_n 3, 1) := by decide +kernel
theorem dX5_digest_67 : decode cX5_digest 67 = .ok (.invokevirtual 286, 3) := by decide +kernel
theorem dX5_digest_70 : decode cX5_digest 70 = .ok (.lstore_n 1, 1) := by decide +kernel
theorem dX5_digest_71 : decode cX5_digest 71 = .ok (.iinc 3 1, 3) := by decide +kernel
theorem dX5_digest_74 : decode cX5_digest 74 = .ok (.goto (-18), 3) := by decide +kernel
theorem dX5_digest_77 : decode cX5_digest 77 = .ok (.iconst 0, 1) := by decide +kernel
theorem dX5_digest_78 : decode cX5_digest 78 = .ok (.istore_n 3, 1) := by decide +kernel
theorem dX5_digest_79 : decode cX5_digest 79 = .ok (.iload_n 3, 1) := by decide +kernel
theorem dX5_digest_80 : decode cX5_digest 80 = .ok (.bipush 10, 2) := by decide +kernel
theorem dX5_digest_82 : decode cX5_digest 82 = .ok (.if_icmp .ge 37, 3) := by decide +kernel
theorem dX5_digest_85 : decode cX5_digest 85 = .ok (.lload_n 1, 1) := by decide +kernel
theorem dX5_digest_86 : decode cX5_digest 86 = .ok (.ldc2_w 277, 3) := by decide +kernel
theorem dX5_digest_89 : decode cX5_digest 89 = .ok (.lmul, 1) := by decide +kernel
theorem dX5_digest_90 : decode cX5_digest 90 = .ok (.aload_n 0, 1) := by decide +kernel
theorem dX5_digest_91 : decode cX5_digest 91 = .ok (.iload_n 3, 1) := by decide +kernel
theorem dX5_digest_92 : decode cX5_digest 92 = .ok (.iconst 0, 1) := by decide +kernel
theorem dX5_digest_93 : decode cX5_digest 93 = .ok (.invokevirtual 289, 3) := by decide +kernel
theorem dX5_digest_96 : decode cX5_digest 96 = .ok (.i2l, 1) := by decide +kernel
theorem dX5_digest_97 : decode cX5_digest 97 = .ok (.ladd, 1) := by decide +kernel
theorem dX5_digest_98 : decode cX5_digest 98 = .ok (.lstore_n 1, 1) := by decide +kernel
theorem dX5_digest_99 : decode cX5_digest 99 = .ok (.lload_n 1, 1) := by decide +kernel
theorem dX5_digest_100 : decode cX5_digest 100 = .ok (.ldc2_w 277, 3) := by decide +kernel
theorem dX5_digest_103 : decode cX5_digest 103 = .ok (.lmul, 1) := by decide +kernel
theorem dX5_digest_104 : decode cX5_digest 104 = .ok (.aload_n 0, 1) := by decide +kernel
theorem dX5_digest_105 : decode cX5_digest 105 = .ok (.iload_n 3, 1) := by decide +kernel
theorem dX5_digest_106 : decode cX5_digest 106 = .ok (.iconst 1, 1) := by decide +kernel
theorem dX5_digest_107 : decode cX5_digest 107 = .ok (.invokevirtual 289, 3) := by decide +kernel
theorem dX5_digest_110 : decode cX5_digest 110 = .ok (.i2l, 1) := by decide +kernel
theorem dX5_digest_111 : decode cX5_digest 111 = .ok (.ladd, 1) := by decide +kernel
theorem dX5_digest_112 : decode cX5_digest 112 = .ok (.lstore_n 1, 1) := by decide +kernel
theorem dX5_digest_113 : decode cX5_digest 113 = .ok (.iinc 3 1, 3) := by decide +kernel
theorem dX5_digest_116 : decode cX5_digest 116 = .ok (.goto (-37), 3) := by decide +kernel
theorem dX5_digest_119 : decode cX5_digest 119 = .ok (.lload_n 1, 1) := by decide +kernel
theorem dX5_digest_120 : decode cX5_digest 120 = .ok (.ldc2_w 277, 3) := by decide +kernel
theorem dX5_digest_123 : decode cX5_digest 123 = .ok (.lmul, 1) := by decide +kernel
theorem dX5_digest_124 : decode cX5_digest 124 = .ok (.aload_n 0, 1) := by decide +kernel
theorem dX5_digest_125 : decode cX5_digest 125 = .ok (.iconst 3, 1) := by decide +kernel
theorem dX5_digest_126 : decode cX5_digest 126 = .ok (.invokevirtual 293, 3) := by decide +kernel
theorem dX5_digest_129 : decode cX5_digest 129 = .ok (.i2l, 1) := by decide +kernel
theorem dX5_digest_130 : decode cX5_digest 130 = .ok (.ladd, 1) := by decide +kernel
theorem dX5_digest_131 : decode cX5_digest 131 = .ok (.lstore_n 1, 1) := by decide +kernel
theorem dX5_digest_132 : decode cX5_digest 132 = .ok (.lload_n 1, 1) := by decide +kernel
theorem dX5_digest_133 : decode cX5_digest 133 = .ok (.ldc2_w 277, 3) := by decide +kernel
theorem dX5_digest_136 : decode cX5_digest 136 = .ok (.lmul, 1) := by decide +kernel
theorem dX5_digest_137 : decode cX5_digest 137 = .ok (.aload_n 0, 1) := by decide +kernel
theorem dX5_digest_138 : decode cX5_digest 138 = .ok (.iconst 3, 1) := by decide +kernel
theorem dX5_digest_139 : decode cX5_digest 139 = .ok (.iconst 0, 1) := by decide +kernel
theorem dX5_digest_140 : decode cX5_digest 140 = .ok (.invokevirtual 296, 3) := by decide +kernel
theorem dX5_digest_143 : decode cX5_digest 143 = .ok (.i2l, 1) := by decide +kernel
theorem dX5_digest_144 : decode cX5_digest 144 = .ok (.ladd, 1) := by decide +kernel
theorem dX5_digest_145 : decode cX5_digest 145 = .ok (.lreturn, 1) := by decide +kernel
theorem dX5_digestOfJumper_0 : decode cX5_digestOfJumper 0 = .ok (.lload_n 1, 1) := by decide +kernel
theorem dX5_digestOfJumper_1 : decode cX5_digestOfJumper 1 = .ok (.lstore 4, 2) := by decide +kernel
theorem dX5_digestOfJumper_3 : decode cX5_digestOfJumper 3 = .ok (.iconst 0, 1) := by decide +kernel
theorem dX5_digestOfJumper_4 : decode cX5_digestOfJumper 4 = .ok (.istore 6, 2) := by decide +kernel
theorem dX5_digestOfJumper_6 : decode cX5_digestOfJumper 6 = .ok (.iload 6, 2) := by decide +kernel
theorem dX5_digestOfJumper_8 : decode cX5_digestOfJumper 8 = .ok (.bipush 8, 2) := by decide +kernel
theorem dX5_digestOfJumper_10 : decode cX5_digestOfJumper 10 = .ok (.if_icmp .gt 26, 3) := by decide +kernel
theorem dX5_digestOfJumper_13 : decode cX5_digestOfJumper 13 = .ok (.lload 4, 2) := by decide +kernel
theorem dX5_digestOfJumper_15 : decode cX5_digestOfJumper 15 = .ok (.ldc2_w 277, 3) := by decide +kernel
theorem dX5_digestOfJumper_18 : decode cX5_digestOfJumper 18 = .ok (.lmul, 1) := by decide +kernel
theorem dX5_digestOfJumper_19 : decode cX5_digestOfJumper 19 = .ok (.aload_n 0, 1) := by decide +kernel
theorem dX5_digestOfJumper_20 : decode cX5_digestOfJumper 20 = .ok (.iload_n 3, 1) := by decide +kernel
theorem dX5_digestOfJumper_21 : decode cX5_digestOfJumper 21 = .ok (.iload 6, 2) := by decide +kernel
theorem dX5_digestOfJumper_23 : decode cX5_digestOfJumper 23 = .ok (.invokevirtual 299, 3) := by decide +kernel
theorem dX5_digestOfJumper_26 : decode cX5_digestOfJumper 26 = .ok (.i2l, 1) := by decide +kernel
theorem dX5_digestOfJumper_27 : decode cX5_digestOfJumper 27 = .ok (.ladd, 1) := by decide +kernel
theorem dX5_digestOfJumper_28 : decode cX5_digestOfJumper 28 = .ok (.lstore 4, 2) := by decide +kernel
theorem dX5_digestOfJumper_30 : decode cX5_digestOfJumper 30 = .ok (.iinc 6 1, 3) := by decide +kernel
theorem dX5_digestOfJumper_33 : decode cX5_digestOfJumper 33 = .ok (.goto (-27), 3) := by decide +kernel
theorem dX5_digestOfJumper_36 : decode cX5_digestOfJumper 36 = .ok (.lload 4, 2) := by decide +kernel
theorem dX5_digestOfJumper_38 : decode cX5_digestOfJumper 38 = .ok (.ldc2_w 277, 3) := by decide +kernel
theorem dX5_digestOfJumper_41 : decode cX5_digestOfJumper 41 = .ok (.lmul, 1) := by decide +kernel
theorem dX5_digestOfJumper_42 : decode cX5_digestOfJumper 42 = .ok (.ldc2_w 302, 3) := by decide +kernel
theorem dX5_digestOfJumper_45 : decode cX5_digestOfJumper 45 = .ok (.aload_n 0, 1) := by decide +kernel
theorem dX5_digestOfJumper_46 : decode cX5_digestOfJumper 46 = .ok (.iload_n 3, 1) := by decide +kernel
theorem dX5_digestOfJumper_47 : decode cX5_digestOfJumper 47 = .ok (.iconst 0, 1) := by decide +kernel
theorem dX5_digestOfJumper_48 : decode cX5_digestOfJumper 48 = .ok (.invokevirtual 304, 3) := by decide +kernel
theorem dX5_digestOfJumper_51 : decode cX5_digestOfJumper 51 = .ok (.dmul, 1) := by decide +kernel
theorem dX5_digestOfJumper_52 : decode cX5_digestOfJumper 52 = .ok (.d2l, 1) := by decide +kernel
theorem dX5_digestOfJumper_53 : decode cX5_digestOfJumper 53 = .ok (.ladd, 1) := by decide +kernel
theorem dX5_digestOfJumper_54 : decode cX5_digestOfJumper 54 = .ok (.lstore 4, 2) := by decide +kernel
theorem dX5_digestOfJumper_56 : decode cX5_digestOfJumper 56 = .ok (.lload 4, 2) := by decide +kernel
theorem dX5_digestOfJumper_58 : decode cX5_digestOfJumper 58 = .ok (.ldc2_w 277, 3) := by decide +kernel
theorem dX5_digestOfJumper_61 : decode cX5_digestOfJumper 61 = .ok (.lmul, 1) := by decide +kernel
theorem dX5_digestOfJumper_62 : decode cX5_digestOfJumper 62 = .ok (.ldc2_w 302, 3) := by decide +kernel
theorem dX5_digestOfJumper_65 : decode cX5_digestOfJumper 65 = .ok (.aload_n 0, 1) := by decide +kernel
theorem dX5_digestOfJumper_66 : decode cX5_digestOfJumper 66 = .ok (.iload_n 3, 1) := by decide +kernel
theorem dX5_digestOfJumper_67 : decode cX5_digestOfJumper 67 = .ok (.iconst 1, 1) := by decide +kernel
theorem dX5_digestOfJumper_68 : decode cX5_digestOfJumper 68 = .ok (.invokevirtual 304, 3) := by decide +kernel
theorem dX5_digestOfJumper_71 : decode cX5_digestOfJumper 71 = .ok (.dmul, 1) := by decide +kernel
theorem dX5_digestOfJumper_72 : decode cX5_digestOfJumper 72 = .ok (.d2l, 1) := by decide +kernel
theorem dX5_digestOfJumper_73 : decode cX5_digestOfJumper 73 = .ok (.ladd, 1) := by decide +kernel
theorem dX5_digestOfJumper_74 : decode cX5_digestOfJumper 74 = .ok (.lstore 4, 2) := by decide +kernel
theorem dX5_digestOfJumper_76 : decode cX5_digestOfJumper 76 = .ok (.lload 4, 2) := by decide +kernel
theorem dX5_digestOfJumper_78 : decode cX5_digestOfJumper 78 = .ok (.ldc2_w 277, 3) := by decide +kernel
theorem dX5_digestOfJumper_81 : decode cX5_digestOfJumper 81 = .ok (.lmul, 1) := by decide +kernel
theorem dX5_digestOfJumper_82 : decode cX5_digestOfJumper 82 = .ok (.aload_n 0, 1) := by decide +kernel
theorem dX5_digestOfJumper_83 : decode cX5_digestOfJumper 83 = .ok (.iload_n 3, 1) := by decide +kernel
theorem dX5_digestOfJumper_84 : decode cX5_digestOfJumper 84 = .ok (.invokevirtual 308, 3) := by decide +kernel
theorem dX5_digestOfJumper_87 : decode cX5_digestOfJumper 87 = .ok (.i2l, 1) := by decide +kernel
theorem dX5_digestOfJumper_88 : decode cX5_digestOfJumper 88 = .ok (.ladd, 1) := by decide +kernel
theorem dX5_digestOfJumper_89 : decode cX5_digestOfJumper 89 = .ok (.lstore 4, 2) := by decide +kernel
theorem dX5_digestOfJumper_91 : decode cX5_digestOfJumper 91 = .ok (.lload 4, 2) := by decide +kernel
theorem dX5_digestOfJumper_93 : decode cX5_digestOfJumper 93 = .ok (.ldc2_w 277, 3) := by decide +kernel
theorem dX5_digestOfJumper_96 : decode cX5_digestOfJumper 96 = .ok (.lmul, 1) := by decide +kernel
theorem dX5_digestOfJumper_97 : decode cX5_digestOfJumper 97 = .ok (.aload_n 0, 1) := by decide +kernel
theorem dX5_digestOfJumper_98 : decode cX5_digestOfJumper 98 = .ok (.iload_n 3, 1) := by decide +kernel
theorem dX5_digestOfJumper_99 : decode cX5_digestOfJumper 99 = .ok (.invokevirtual 311, 3) := by decide +kernel
theorem dX5_digestOfJumper_102 : decode cX5_digestOfJumper 102 = .ok (.i2l, 1) := by decide +kernel
theorem dX5_digestOfJumper_103 : decode cX5_digestOfJumper 103 = .ok (.ladd, 1) := by decide +kernel
theorem dX5_digestOfJumper_104 : decode cX5_digestOfJumper 104 = .ok (.lreturn, 1) := by decide +kernel
theorem dX5_digestOfRig_0 : decode cX5_digestOfRig 0 = .ok (.lload_n 1, 1) := by decide +kernel
theorem dX5_digestOfRig_1 : decode cX5_digestOfRig 1 = .ok (.lstore 4, 2) := by decide +kernel
theorem dX5_digestOfRig_3 : decode cX5_digestOfRig 3 = .ok (.iconst 0, 1) := by decide +kernel
theorem dX5_digestOfRig_4 : decode cX5_digestOfRig 4 = .ok (.istore 6, 2) := by decide +kernel
theorem dX5_digestOfRig_6 : decode cX5_digestOfRig 6 = .ok (.iload 6, 2) := by decide +kernel
theorem dX5_digestOfRig_8 : decode cX5_digestOfRig 8 = .ok (.iconst 4, 1) := by decide +kernel
theorem dX5_digestOfRig_9 : decode cX5_digestOfRig 9 = .ok (.if_icmp .gt 26, 3) := by decide +kernel
theorem dX5_digestOfRig_12 : decode cX5_digestOfRig 12 = .ok (.lload 4, 2) := by decide +kernel
theorem dX5_digestOfRig_14 : decode cX5_digestOfRig 14 = .ok (.ldc2_w 277, 3) := by decide +kernel
theorem dX5_digestOfRig_17 : decode cX5_digestOfRig 17 = .ok (.lmul, 1) := by decide +kernel
theorem dX5_digestOfRig_18 : decode cX5_digestOfRig 18 = .ok (.aload_n 0, 1) := by decide +kernel
theorem dX5_digestOfRig_19 : decode cX5_digestOfRig 19 = .ok (.iload_n 3, 1) := by decide +kernel
theorem dX5_digestOfRig_20 : decode cX5_digestOfRig 20 = .ok (.iload 6, 2) := by decide +kernel
theorem dX5_digestOfRig_22 : decode cX5_digestOfRig 22 = .ok (.invokevirtual 314, 3) := by decide +kernel
theorem dX5_digestOfRig_25 : decode cX5_digestOfRig 25 = .ok (.i2l, 1) := by decide +kernel
theorem dX5_digestOfRig_26 : decode cX5_digestOfRig 26 = .ok (.ladd, 1) := by decide +kernel
theorem dX5_digestOfRig_27 : decode cX5_digestOfRig 27 = .ok (.lstore 4, 2) := by decide +kernel
theorem dX5_digestOfRig_29 : decode cX5_digestOfRig 29 = .ok (.iinc 6 1, 3) := by decide +kernel
theorem dX5_digestOfRig_32 : decode cX5_digestOfRig 32 = .ok (.goto (-26), 3) := by decide +kernel
theorem dX5_digestOfRig_35 : decode cX5_digestOfRig 35 = .ok (.lload 4, 2) := by decide +kernel
theorem dX5_digestOfRig_37 : decode cX5_digestOfRig 37 = .ok (.ldc2_w 277, 3) := by decide +kernel
theorem dX5_digestOfRig_40 : decode cX5_digestOfRig 40 = .ok (.lmul, 1) := by decide +kernel
theorem dX5_digestOfRig_41 : decode cX5_digestOfRig 41 = .ok (.ldc2_w 317, 3) := by decide +kernel
theorem dX5_digestOfRig_44 : decode cX5_digestOfRig 44 = .ok (.aload_n 0, 1) := by decide +kernel
theorem dX5_digestOfRig_45 : decode cX5_digestOfRig 45 = .ok (.iload_n 3, 1) := by decide +kernel
theorem dX5_digestOfRig_46 : decode cX5_digestOfRig 46 = .ok (.invokevirtual 319, 3) := by decide +kernel
theorem dX5_digestOfRig_49 : decode cX5_digestOfRig 49 = .ok (.dmul, 1) := by decide +kernel
theorem dX5_digestOfRig_50 : decode cX5_digestOfRig 50 = .ok (.d2l, 1) := by decide +kernel
theorem dX5_digestOfRig_51 : decode cX5_digestOfRig 51 = .ok (.ladd, 1) := by decide +kernel
theorem dX5_digestOfRig_52 : decode cX5_digestOfRig 52 = .ok (.lreturn, 1) := by decide +kernel
theorem dX5_checkArgument_0 : decode cX5_checkArgument 0 = .ok (.iload_n 0, 1) := by decide +kernel
theorem dX5_checkArgument_1 : decode cX5_checkArgument 1 = .ok (.iload_n 1, 1) := by decide +kernel
theorem dX5_checkArgument_2 : decode cX5_checkArgument 2 = .ok (.if_icmp .lt 8, 3) := by decide +kernel
theorem dX5_checkArgument_5 : decode cX5_checkArgument 5 = .ok (.iload_n 0, 1) := by decide +kernel
theorem dX5_checkArgument_6 : decode cX5_checkArgument 6 = .ok (.iload_n 2, 1) := by decide +kernel
theorem dX5_checkArgument_7 : decode cX5_checkArgument 7 = .ok (.if_icmp .le 14, 3) := by decide +kernel
theorem dX5_checkArgument_10 : decode cX5_checkArgument 10 = .ok (.new 210, 3) := by decide +kernel
theorem dX5_checkArgument_13 : decode cX5_checkArgument 13 = .ok (.dup, 1) := by decide +kernel
theorem dX5_checkArgument_14 : decode cX5_checkArgument 14 = .ok (.ldc_w 322, 3) := by decide +kernel
theorem dX5_checkArgument_17 : decode cX5_checkArgument 17 = .ok (.invokespecial 214, 3) := by decide +kernel
theorem dX5_checkArgument_20 : decode cX5_checkArgument 20 = .ok (.athrow, 1) := by decide +kernel
theorem dX5_checkArgument_21 : decode cX5_checkArgument 21 = .ok (.return_, 1) := by decide +kernel
theorem dX5_checkLayer_0 : decode cX5_checkLayer 0 = .ok (.iload_n 0, 1) := by decide +kernel
theorem dX5_checkLayer_1 : decode cX5_checkLayer 1 = .ok (.ifCond .lt 9, 3) := by decide +kernel
theorem dX5_checkLayer_4 : decode cX5_checkLayer 4 = .ok (.iload_n 0, 1) := by decide +kernel
theorem dX5_checkLayer_5 : decode cX5_checkLayer 5 = .ok (.bipush 10, 2) := by decide +kernel
theorem dX5_checkLayer_7 : decode cX5_checkLayer 7 = .ok (.if_icmp .lt 14, 3) := by decide +kernel
theorem dX5_checkLayer_10 : decode cX5_checkLayer 10 = .ok (.new 240, 3) := by decide +kernel
theorem dX5_checkLayer_13 : decode cX5_checkLayer 13 = .ok (.dup, 1) := by decide +kernel
theorem dX5_checkLayer_14 : decode cX5_checkLayer 14 = .ok (.ldc_w 324, 3) := by decide +kernel
theorem dX5_checkLayer_17 : decode cX5_checkLayer 17 = .ok (.invokespecial 244, 3) := by decide +kernel
theorem dX5_checkLayer_20 : decode cX5_checkLayer 20 = .ok (.athrow, 1) := by decide +kernel
theorem dX5_checkLayer_21 : decode cX5_checkLayer 21 = .ok (.return_, 1) := by decide +kernel
theorem dX5_jumperAt_0 : decode cX5_jumperAt 0 = .ok (.iload_n 1, 1) := by decide +kernel
theorem dX5_jumperAt_1 : decode cX5_jumperAt 1 = .ok (.ifCond .lt 17, 3) := by decide +kernel
theorem dX5_jumperAt_4 : decode cX5_jumperAt 4 = .ok (.iload_n 1, 1) := by decide +kernel
theorem dX5_jumperAt_5 : decode cX5_jumperAt 5 = .ok (.aload_n 0, 1) := by decide +kernel
theorem dX5_jumperAt_6 : decode cX5_jumperAt 6 = .ok (.getfield 15, 3) := by decide +kernel
theorem dX5_jumperAt_9 : decode cX5_jumperAt 9 = .ok (.if_icmp .ge 9, 3) := by decide +kernel
theorem dX5_jumperAt_12 : decode cX5_jumperAt 12 = .ok (.iload_n 1, 1) := by decide +kernel
theorem dX5_jumperAt_13 : decode cX5_jumperAt 13 = .ok (.bipush 8, 2) := by decide +kernel
theorem dX5_jumperAt_15 : decode cX5_jumperAt 15 = .ok (.if_icmp .lt 14, 3) := by decide +kernel
theorem dX5_jumperAt_18 : decode cX5_jumperAt 18 = .ok (.new 240, 3) := by decide +kernel
theorem dX5_jumperAt_21 : decode cX5_jumperAt 21 = .ok (.dup, 1) := by decide +kernel
theorem dX5_jumperAt_22 : decode cX5_jumperAt 22 = .ok (.ldc_w 326, 3) := by decide +kernel
theorem dX5_jumperAt_25 : decode cX5_jumperAt 25 = .ok (.invokespecial 244, 3) := by decide +kernel
theorem dX5_jumperAt_28 : decode cX5_jumperAt 28 = .ok (.athrow, 1) := by decide +kernel
theorem dX5_jumperAt_29 : decode cX5_jumperAt 29 = .ok (.aload_n 0, 1) := by decide +kernel
theorem dX5_jumperAt_30 : decode cX5_jumperAt 30 = .ok (.getfield 11, 3) := by decide +kernel
theorem dX5_jumperAt_33 : decode cX5_jumperAt 33 = .ok (.iload_n 1, 1) := by decide +kernel
theorem dX5_jumperAt_34 : decode cX5_jumperAt 34 = .ok (.aaload, 1) := by decide +kernel
theorem dX5_jumperAt_35 : decode cX5_jumperAt 35 = .ok (.areturn, 1) := by decide +kernel
theorem dX5_rigAt_0 : decode cX5_rigAt 0 = .ok (.iload_n 1, 1) := by decide +kernel
theorem dX5_rigAt_1 : decode cX5_rigAt 1 = .ok (.ifCond .lt 17, 3) := by decide +kernel
theorem dX5_rigAt_4 : decode cX5_rigAt 4 = .ok (.iload_n 1, 1) := by decide +kernel
theorem dX5_rigAt_5 : decode cX5_rigAt 5 = .ok (.aload_n 0, 1) := by decide +kernel
theorem dX5_rigAt_6 : decode cX5_rigAt 6 = .ok (.getfield 25, 3) := by decide +kernel
theorem dX5_rigAt_9 : decode cX5_rigAt 9 = .ok (.if_icmp .ge 9, 3) := by decide +kernel
theorem dX5_rigAt_12 : decode cX5_rigAt 12 = .ok (.iload_n 1, 1) := by decide +kernel
theorem dX5_rigAt_13 : decode cX5_rigAt 13 = .ok (.bipush 8, 2) := by decide +kernel
theorem dX5_rigAt_15 : decode cX5_rigAt 15 = .ok (.if_icmp .lt 14, 3) := by decide +kernel
theorem dX5_rigAt_18 : decode cX5_rigAt 18 = .ok (.new 240, 3) := by decide +kernel
theorem dX5_rigAt_21 : decode cX5_rigAt 21 = .ok (.dup, 1) := by decide +kernel
theorem dX5_rigAt_22 : decode cX5_rigAt 22 = .ok (.ldc_w 328, 3) := by decide +kernel
theorem dX5_rigAt_25 : decode cX5_rigAt 25 = .ok (.invokespecial 244, 3) := by decide +kernel
theorem dX5_rigAt_28 : decode cX5_rigAt 28 = .ok (.athrow, 1) := by decide +kernel
theorem dX5_rigAt_29 : decode cX5_rigAt 29 = .ok (.aload_n 0, 1) := by decide +kernel
theorem dX5_rigAt_30 : decode cX5_rigAt 30 = .ok (.getfield 21, 3) := by decide +kernel
theorem dX5_rigAt_33 : decode cX5_rigAt 33 = .ok (.iload_n 1, 1) := by decide +kernel
theorem dX5_rigAt_34 : decode cX5_rigAt 34 = .ok (.aaload, 1) := by decide +kernel
theorem dX5_rigAt_35 : decode cX5_rigAt 35 = .ok (.areturn, 1) := by decide +kernel
theorem dX5_holderOf_0 : decode cX5_holderOf 0 = .ok (.iconst 0, 1) := by decide +kernel
theorem dX5_holderOf_1 : decode cX5_holderOf 1 = .ok (.istore_n 2, 1) := by decide +kernel
theorem dX5_holderOf_2 : decode cX5_holderOf 2 = .ok (.iload_n 2, 1) := by decide +kernel
theorem dX5_holderOf_3 : decode cX5_holderOf 3 = .ok (.aload_n 0, 1) := by decide +kernel
theorem dX5_holderOf_4 : decode cX5_holderOf 4 = .ok (.getfield 15, 3) := by decide +kernel
theorem dX5_holderOf_7 : decode cX5_holderOf 7 = .ok (.if_icmp .ge 23, 3) := by decide +kernel
theorem dX5_holderOf_10 : decode cX5_holderOf 10 = .ok (.aload_n 0, 1) := by decide +kernel
theorem dX5_holderOf_11 : decode cX5_holderOf 11 = .ok (.iload_n 2, 1) := by decide +kernel
theorem dX5_holderOf_12 : decode cX5_holderOf 12 = .ok (.invokevirtual 118, 3) := by decide +kernel
theorem dX5_holderOf_15 : decode cX5_holderOf 15 = .ok (.getfield 131, 3) := by decide +kernel
theorem dX5_holderOf_18 : decode cX5_holderOf 18 = .ok (.iload_n 1, 1) := by decide +kernel
theorem dX5_holderOf_19 : decode cX5_holderOf 19 = .ok (.if_icmp .ne 5, 3) := by decide +kernel
theorem dX5_holderOf_22 : decode cX5_holderOf 22 = .ok (.iload_n 2, 1) := by decide +kernel
theorem dX5_holderOf_23 : decode cX5_holderOf 23 = .ok (.ireturn, 1) := by decide +kernel
theorem dX5_holderOf_24 : decode cX5_holderOf 24 = .ok (.iinc 2 1, 3) := by decide +kernel
theorem dX5_holderOf_27 : decode cX5_holderOf 27 = .ok (.goto (-25), 3) := by decide +kernel
theorem dX5_holderOf_30 : decode cX5_holderOf 30 = .ok (.iconst (-1), 1) := by decide +kernel
theorem dX5_holderOf_31 : decode cX5_holderOf 31 = .ok (.ireturn, 1) := by decide +kernel
theorem dX5_placeOf_0 : decode cX5_placeOf 0 = .ok (.iconst 0, 1) := by decide +kernel
theorem dX5_placeOf_1 : decode cX5_placeOf 1 = .ok (.istore_n 2, 1) := by decide +kernel
theorem dX5_placeOf_2 : decode cX5_placeOf 2 = .ok (.iload_n 2, 1) := by decide +kernel
theorem dX5_placeOf_3 : decode cX5_placeOf 3 = .ok (.aload_n 0, 1) := by decide +kernel
theorem dX5_placeOf_4 : decode cX5_placeOf 4 = .ok (.getfield 39, 3) := by decide +kernel
theorem dX5_placeOf_7 : decode cX5_placeOf 7 = .ok (.if_icmp .ge 20, 3) := by decide +kernel
theorem dX5_placeOf_10 : decode cX5_placeOf 10 = .ok (.aload_n 0, 1) := by decide +kernel
theorem dX5_placeOf_11 : decode cX5_placeOf 11 = .ok (.iload_n 2, 1) := by decide +kernel
theorem dX5_placeOf_12 : decode cX5_placeOf 12 = .ok (.invokevirtual 194, 3) := by decide +kernel
theorem dX5_placeOf_15 : decode cX5_placeOf 15 = .ok (.iload_n 1, 1) := by decide +kernel
theorem dX5_placeOf_16 : decode cX5_placeOf 16 = .ok (.if_icmp .ne 5, 3) := by decide +kernel
theorem dX5_placeOf_19 : decode cX5_placeOf 19 = .ok (.iload_n 2, 1) := by decide +kernel
theorem dX5_placeOf_20 : decode cX5_placeOf 20 = .ok (.ireturn, 1) := by decide +kernel
theorem dX5_placeOf_21 : decode cX5_placeOf 21 = .ok (.iinc 2 1, 3) := by decide +kernel
theorem dX5_placeOf_24 : decode cX5_placeOf 24 = .ok (.goto (-22), 3) := by decide +kernel
theorem dX5_placeOf_27 : decode cX5_placeOf 27 = .ok (.iconst (-1), 1) := by decide +kernel
theorem dX5_placeOf_28 : decode cX5_placeOf 28 = .ok (.ireturn, 1) := by decide +kernel
theorem dX5_loadingOf_0 : decode cX5_loadingOf 0 = .ok (.aload_n 1, 1) := by decide +kernel
theorem dX5_loadingOf_1 : decode cX5_loadingOf 1 = .ok (.getfield 131, 3) := by decide +kernel
theorem dX5_loadingOf_4 : decode cX5_loadingOf 4 = .ok (.iconst (-1), 1) := by decide +kernel
theorem dX5_loadingOf_5 : decode cX5_loadingOf 5 = .ok (.if_icmp .ne 7, 3) := by decide +kernel
theorem dX5_loadingOf_8 : decode cX5_loadingOf 8 = .ok (.fconst 0, 1) := by decide +kernel
theorem dX5_loadingOf_9 : decode cX5_loadingOf 9 = .ok (.goto 15, 3) := by decide +kernel
theorem dX5_loadingOf_12 : decode cX5_loadingOf 12 = .ok (.aload_n 1, 1) := by decide +kernel
theorem dX5_loadingOf_13 : decode cX5_loadingOf 13 = .ok (.aload_n 0, 1) := by decide +kernel
theorem dX5_loadingOf_14 : decode cX5_loadingOf 14 = .ok (.aload_n 1, 1) := by decide +kernel
theorem dX5_loadingOf_15 : decode cX5_loadingOf 15 = .ok (.getfield 131, 3) := by decide +kernel
theorem dX5_loadingOf_18 : decode cX5_loadingOf 18 = .ok (.invokevirtual 114, 3) := by decide +kernel
theorem dX5_loadingOf_21 : decode cX5_loadingOf 21 = .ok (.invokestatic 267, 3) := by decide +kernel
theorem dX5_loadingOf_24 : decode cX5_loadingOf 24 = .ok (.freturn, 1) := by decide +kernel
theorem dX5_loadingWith_0 : decode cX5_loadingWith 0 = .ok (.aload_n 1, 1) := by decide +kernel
theorem dX5_loadingWith_1 : decode cX5_loadingWith 1 = .ok (.getfield 108, 3) := by decide +kernel
theorem dX5_loadingWith_4 : decode cX5_loadingWith 4 = .ok (.ifCond .le 21, 3) := by decide +kernel
theorem dX5_loadingWith_7 : decode cX5_loadingWith 7 = .ok (.aload_n 0, 1) := by decide +kernel
theorem dX5_loadingWith_8 : decode cX5_loadingWith 8 = .ok (.getfield 97, 3) := by decide +kernel
theorem dX5_loadingWith_11 : decode cX5_loadingWith 11 = .ok (.i2f, 1) := by decide +kernel
theorem dX5_loadingWith_12 : decode cX5_loadingWith 12 = .ok (.ldc_w 330, 3) := by decide +kernel
theorem dX5_loadingWith_15 : decode cX5_loadingWith 15 = .ok (.fmul, 1) := by decide +kernel
theorem dX5_loadingWith_16 : decode cX5_loadingWith 16 = .ok (.aload_n 1, 1) := by decide +kernel
theorem dX5_loadingWith_17 : decode cX5_loadingWith 17 = .ok (.getfield 108, 3) := by decide +kernel
theorem dX5_loadingWith_20 : decode cX5_loadingWith 20 = .ok (.i2f, 1) := by decide +kernel
theorem dX5_loadingWith_21 : decode cX5_loadingWith 21 = .ok (.fdiv, 1) := by decide +kernel
theorem dX5_loadingWith_22 : decode cX5_loadingWith 22 = .ok (.goto 4, 3) := by decide +kernel
theorem dX5_loadingWith_25 : decode cX5_loadingWith 25 = .ok (.fconst 0, 1) := by decide +kernel
theorem dX5_loadingWith_26 : decode cX5_loadingWith 26 = .ok (.freturn, 1) := by decide +kernel
theorem dX5_limitOf_0 : decode cX5_limitOf 0 = .ok (.iload_n 1, 1) := by decide +kernel
theorem dX5_limitOf_1 : decode cX5_limitOf 1 = .ok (.ifCond .lt 15, 3) := by decide +kernel
theorem dX5_limitOf_4 : decode cX5_limitOf 4 = .ok (.iload_n 1, 1) := by decide +kernel
theorem dX5_limitOf_5 : decode cX5_limitOf 5 = .ok (.aload_n 0, 1) := by decide +kernel
theorem dX5_limitOf_6 : decode cX5_limitOf 6 = .ok (.arraylength, 1) := by decide +kernel
theorem dX5_limitOf_7 : decode cX5_limitOf 7 = .ok (.if_icmp .ge 9, 3) := by decide +kernel
theorem dX5_limitOf_10 : decode cX5_limitOf 10 = .ok (.aload_n 0, 1) := by decide +kernel
theorem dX5_limitOf_11 : decode cX5_limitOf 11 = .ok (.iload_n 1, 1) := by decide +kernel
theorem dX5_limitOf_12 : decode cX5_limitOf 12 = .ok (.iaload, 1) := by decide +kernel
theorem dX5_limitOf_13 : decode cX5_limitOf 13 = .ok (.goto 4, 3) := by decide +kernel
theorem dX5_limitOf_16 : decode cX5_limitOf 16 = .ok (.iconst 0, 1) := by decide +kernel
theorem dX5_limitOf_17 : decode cX5_limitOf 17 = .ok (.ireturn, 1) := by decide +kernel
theorem dX5_isLet_0 : decode cX5_isLet 0 = .ok (.fload_n 2, 1) := by decide +kernel
theorem dX5_isLet_1 : decode cX5_isLet 1 = .ok (.getstatic 331, 3) := by decide +kernel
theorem dX5_isLet_4 : decode cX5_isLet 4 = .ok (.aload_n 1, 1) := by decide +kernel
theorem dX5_isLet_5 : decode cX5_isLet 5 = .ok (.getfield 100, 3) := by decide +kernel
theorem dX5_isLet_8 : decode cX5_isLet 8 = .ok (.invokestatic 334, 3) := by decide +kernel
theorem dX5_isLet_11 : decode cX5_isLet 11 = .ok (.i2f, 1) := by decide +kernel
theorem dX5_isLet_12 : decode cX5_isLet 12 = .ok (.fcmp .l, 1) := by decide +kernel
theorem dX5_isLet_13 : decode cX5_isLet 13 = .ok (.ifCond .le 5, 3) := by decide +kernel
theorem dX5_isLet_16 : decode cX5_isLet 16 = .ok (.iconst 0, 1) := by decide +kernel
theorem dX5_isLet_17 : decode cX5_isLet 17 = .ok (.ireturn, 1) := by decide +kernel
theorem dX5_isLet_18 : decode cX5_isLet 18 = .ok (.fload_n 2, 1) := by decide +kernel
theorem dX5_isLet_19 : decode cX5_isLet 19 = .ok (.ldc_w 338, 3) := by decide +kernel
theorem dX5_isLet_22 : decode cX5_isLet 22 = .ok (.fcmp .g, 1) := by decide +kernel
theorem dX5_isLet_23 : decode cX5_isLet 23 = .ok (.ifCond .le 17, 3) := by decide +kernel
theorem dX5_isLet_26 : decode cX5_isLet 26 = .ok (.aload_n 0, 1) := by decide +kernel
theorem dX5_isLet_27 : decode cX5_isLet 27 = .ok (.getfield 60, 3) := by decide +kernel
theorem dX5_isLet_30 : decode cX5_isLet 30 = .ok (.aload_n 1, 1) := by decide +kernel
theorem dX5_isLet_31 : decode cX5_isLet 31 = .ok (.getfield 103, 3) := by decide +kernel
theorem dX5_isLet_34 : decode cX5_isLet 34 = .ok (.isub, 1) := by decide +kernel
theorem dX5_isLet_35 : decode cX5_isLet 35 = .ok (.bipush 30, 2) := by decide +kernel
theorem dX5_isLet_37 : decode cX5_isLet 37 = .ok (.if_icmp .gt 7, 3) := by decide +kernel
theorem dX5_isLet_40 : decode cX5_isLet 40 = .ok (.iconst 1, 1) := by decide +kernel
theorem dX5_isLet_41 : decode cX5_isLet 41 = .ok (.goto 4, 3) := by decide +kernel
theorem dX5_isLet_44 : decode cX5_isLet 44 = .ok (.iconst 0, 1) := by decide +kernel
theorem dX5_isLet_45 : decode cX5_isLet 45 = .ok (.ireturn, 1) := by decide +kernel
theorem dX5_whyNot_0 : decode cX5_whyNot 0 = .ok (.aload_n 0, 1) := by decide +kernel
theorem dX5_whyNot_1 : decode cX5_whyNot 1 = .ok (.iload_n 1, 1) := by decide +kernel
theorem dX5_whyNot_2 : decode cX5_whyNot 2 = .ok (.invokevirtual 118, 3) := by decide +kernel
theorem dX5_whyNot_5 : decode cX5_whyNot 5 = .ok (.astore_n 2, 1) := by decide +kernel
theorem dX5_whyNot_6 : decode cX5_whyNot 6 = .ok (.aload_n 2, 1) := by decide +kernel
theorem dX5_whyNot_7 : decode cX5_whyNot 7 = .ok (.getfield 131, 3) := by decide +kernel
theorem dX5_whyNot_10 : decode cX5_whyNot 10 = .ok (.iconst (-1), 1) := by decide +kernel
theorem dX5_whyNot_11 : decode cX5_whyNot 11 = .ok (.if_icmp .ne 5, 3) := by decide +kernel
theorem dX5_whyNot_14 : decode cX5_whyNot 14 = .ok (.iconst 1, 1) := by decide +kernel
theorem dX5_whyNot_15 : decode cX5_whyNot 15 = .ok (.ireturn, 1) := by decide +kernel
theorem dX5_whyNot_16 : decode cX5_whyNot 16 = .ok (.aload_n 0, 1) := by decide +kernel
theorem dX5_whyNot_17 : decode cX5_whyNot 17 = .ok (.aload_n 2, 1) := by decide +kernel
theorem dX5_whyNot_18 : decode cX5_whyNot 18 = .ok (.getfield 131, 3) := by decide +kernel
theorem dX5_whyNot_21 : decode cX5_whyNot 21 = .ok (.invokevirtual 114, 3) := by decide +kernel
theorem dX5_whyNot_24 : decode cX5_whyNot 24 = .ok (.astore_n 3, 1) := by decide +kernel
theorem dX5_whyNot_25 : decode cX5_whyNot 25 = .ok (.aload_n 3, 1) := by decide +kernel
theorem dX5_whyNot_26 : decode cX5_whyNot 26 = .ok (.getfield 134, 3) := by decide +kernel
theorem dX5_whyNot_29 : decode cX5_whyNot 29 = .ok (.ifCond .ne 5, 3) := by decide +kernel
theorem dX5_whyNot_32 : decode cX5_whyNot 32 = .ok (.iconst 2, 1) := by decide +kernel
theorem dX5_whyNot_33 : decode cX5_whyNot 33 = .ok (.ireturn, 1) := by decide +kernel
theorem dX5_whyNot_34 : decode cX5_whyNot 34 = .ok (.aload_n 3, 1) := by decide +kernel
theorem dX5_whyNot_35 : decode cX5_whyNot 35 = .ok (.getfield 111, 3) := by decide +kernel
theorem dX5_whyNot_38 : decode cX5_whyNot 38 = .ok (.aload_n 0, 1) := by decide +kernel
theorem dX5_whyNot_39 : decode cX5_whyNot 39 = .ok (.getfield 60, 3) := by decide +kernel
theorem dX5_whyNot_42 : decode cX5_whyNot 42 = .ok (.if_icmp .ge 5, 3) := by decide +kernel
theorem dX5_whyNot_45 : decode cX5_whyNot 45 = .ok (.iconst 3, 1) := by decide +kernel
theorem dX5_whyNot_46 : decode cX5_whyNot 46 = .ok (.ireturn, 1) := by decide +kernel
theorem dX5_whyNot_47 : decode cX5_whyNot 47 = .ok (.aload_n 0, 1) := by decide +kernel
theorem dX5_whyNot_48 : decode cX5_whyNot 48 = .ok (.getfield 31, 3) := by decide +kernel
theorem dX5_whyNot_51 : decode cX5_whyNot 51 = .ok (.invokevirtual 160, 3) := by decide +kernel
theorem dX5_whyNot_54 : decode cX5_whyNot 54 = .ok (.getstatic 339, 3) := by decide +kernel
theorem dX5_whyNot_57 : decode cX5_whyNot 57 = .ok (.aload_n 2, 1) := by decide +kernel
theorem dX5_whyNot_58 : decode cX5_whyNot 58 = .ok (.getfield 100, 3) := by decide +kernel
theorem dX5_whyNot_61 : decode cX5_whyNot 61 = .ok (.invokestatic 334, 3) := by decide +kernel
theorem dX5_whyNot_64 : decode cX5_whyNot 64 = .ok (.if_icmp .le 5, 3) := by decide +kernel
theorem dX5_whyNot_67 : decode cX5_whyNot 67 = .ok (.iconst 4, 1) := by decide +kernel
theorem dX5_whyNot_68 : decode cX5_whyNot 68 = .ok (.ireturn, 1) := by decide +kernel
theorem dX5_whyNot_69 : decode cX5_whyNot 69 = .ok (.aload_n 0, 1) := by decide +kernel
theorem dX5_whyNot_70 : decode cX5_whyNot 70 = .ok (.aload_n 2, 1) := by decide +kernel
theorem dX5_whyNot_71 : decode cX5_whyNot 71 = .ok (.aload_n 2, 1) := by decide +kernel
theorem dX5_whyNot_72 : decode cX5_whyNot 72 = .ok (.aload_n 3, 1) := by decide +kernel
theorem dX5_whyNot_73 : decode cX5_whyNot 73 = .ok (.invokestatic 267, 3) := by decide +kernel
theorem dX5_whyNot_76 : decode cX5_whyNot 76 = .ok (.invokevirtual 271, 3) := by decide +kernel
theorem dX5_whyNot_79 : decode cX5_whyNot 79 = .ok (.ifCond .ne 5, 3) := by decide +kernel
theorem dX5_whyNot_82 : decode cX5_whyNot 82 = .ok (.iconst 5, 1) := by decide +kernel
theorem dX5_whyNot_83 : decode cX5_whyNot 83 = .ok (.ireturn, 1) := by decide +kernel
theorem dX5_whyNot_84 : decode cX5_whyNot 84 = .ok (.aload_n 0, 1) := by decide +kernel
theorem dX5_whyNot_85 : decode cX5_whyNot 85 = .ok (.iload_n 1, 1) := by decide +kernel
theorem dX5_whyNot_86 : decode cX5_whyNot 86 = .ok (.invokevirtual 126, 3) := by decide +kernel
theorem dX5_whyNot_89 : decode cX5_whyNot 89 = .ok (.iconst (-1), 1) := by decide +kernel
theorem dX5_whyNot_90 : decode cX5_whyNot 90 = .ok (.if_icmp .ne 7, 3) := by decide +kernel
theorem dX5_whyNot_93 : decode cX5_whyNot 93 = .ok (.iconst 0, 1) := by decide +kernel
theorem dX5_whyNot_94 : decode cX5_whyNot 94 = .ok (.goto 5, 3) := by decide +kernel
theorem dX5_whyNot_97 : decode cX5_whyNot 97 = .ok (.bipush 6, 2) := by decide +kernel
theorem dX5_whyNot_99 : decode cX5_whyNot 99 = .ok (.ireturn, 1) := by decide +kernel
theorem dX5_lineUp_0 : decode cX5_lineUp 0 = .ok (.aload_n 0, 1) := by decide +kernel
theorem dX5_lineUp_1 : decode cX5_lineUp 1 = .ok (.getfield 39, 3) := by decide +kernel
theorem dX5_lineUp_4 : decode cX5_lineUp 4 = .ok (.istore_n 2, 1) := by decide +kernel
theorem dX5_lineUp_5 : decode cX5_lineUp 5 = .ok (.iload_n 2, 1) := by decide +kernel
theorem dX5_lineUp_6 : decode cX5_lineUp 6 = .ok (.ifCond .le 36, 3) := by decide +kernel
theorem dX5_lineUp_9 : decode cX5_lineUp 9 = .ok (.aload_n 0, 1) := by decide +kernel
theorem dX5_lineUp_10 : decode cX5_lineUp 10 = .ok (.iload_n 1, 1) := by decide +kernel
theorem dX5_lineUp_11 : decode cX5_lineUp 11 = .ok (.aload_n 0, 1) := by decide +kernel
theorem dX5_lineUp_12 : decode cX5_lineUp 12 = .ok (.iload_n 2, 1) := by decide +kernel
theorem dX5_lineUp_13 : decode cX5_lineUp 13 = .ok (.iconst 1, 1) := by decide +kernel
theorem dX5_lineUp_14 : decode cX5_lineUp 14 = .ok (.isub, 1) := by decide +kernel
theorem dX5_lineUp_15 : decode cX5_lineUp 15 = .ok (.invokevirtual 194, 3) := by decide +kernel
theorem dX5_lineUp_18 : decode cX5_lineUp 18 = .ok (.invokevirtual 342, 3) := by decide +kernel
theorem dX5_lineUp_21 : decode cX5_lineUp 21 = .ok (.ifCond .eq 21, 3) := by decide +kernel
theorem dX5_lineUp_24 : decode cX5_lineUp 24 = .ok (.aload_n 0, 1) := by decide +kernel
theorem dX5_lineUp_25 : decode cX5_lineUp 25 = .ok (.iload_n 2, 1) := by decide +kernel
theorem dX5_lineUp_26 : decode cX5_lineUp 26 = .ok (.aload_n 0, 1) := by decide +kernel
theorem dX5_lineUp_27 : decode cX5_lineUp 27 = .ok (.iload_n 2, 1) := by decide +kernel
theorem dX5_lineUp_28 : decode cX5_lineUp 28 = .ok (.iconst 1, 1) := by decide +kernel
theorem dX5_lineUp_29 : decode cX5_lineUp 29 = .ok (.isub, 1) := by decide +kernel
theorem dX5_lineUp_30 : decode cX5_lineUp 30 = .ok (.invokevirtual 194, 3) := by decide +kernel
theorem dX5_lineUp_33 : decode cX5_lineUp 33 = .ok (.invokevirtual 346, 3) := by decide +kernel
theorem dX5_lineUp_36 : decode cX5_lineUp 36 = .ok (.iinc 2 (-1), 3) := by decide +kernel
theorem dX5_lineUp_39 : decode cX5_lineUp 39 = .ok (.goto (-34), 3) := by decide +kernel
theorem dX5_lineUp_42 : decode cX5_lineUp 42 = .ok (.aload_n 0, 1) := by decide +kernel
theorem dX5_lineUp_43 : decode cX5_lineUp 43 = .ok (.iload_n 2, 1) := by decide +kernel
theorem dX5_lineUp_44 : decode cX5_lineUp 44 = .ok (.iload_n 1, 1) := by decide +kernel
theorem dX5_lineUp_45 : decode cX5_lineUp 45 = .ok (.invokevirtual 346, 3) := by decide +kernel
theorem dX5_lineUp_48 : decode cX5_lineUp 48 = .ok (.aload_n 0, 1) := by decide +kernel
theorem dX5_lineUp_49 : decode cX5_lineUp 49 = .ok (.dup, 1) := by decide +kernel
theorem dX5_lineUp_50 : decode cX5_lineUp 50 = .ok (.getfield 39, 3) := by decide +kernel
theorem dX5_lineUp_53 : decode cX5_lineUp 53 = .ok (.iconst 1, 1) := by decide +kernel
theorem dX5_lineUp_54 : decode cX5_lineUp 54 = .ok (.iadd, 1) := by decide +kernel
theorem dX5_lineUp_55 : decode cX5_lineUp 55 = .ok (.putfield 39, 3) := by decide +kernel
theorem dX5_lineUp_58 : decode cX5_lineUp 58 = .ok (.return_, 1) := by decide +kernel
theorem dX5_setPlace_0 : decode cX5_setPlace 0 = .ok (.iload_n 1, 1) := by decide +kernel
theorem dX5_setPlace_1 : decode cX5_setPlace 1 = .ok (.ifCond .lt 16, 3) := by decide +kernel
theorem dX5_setPlace_4 : decode cX5_setPlace 4 = .ok (.iload_n 1, 1) := by decide +kernel
theorem dX5_setPlace_5 : decode cX5_setPlace 5 = .ok (.bipush 6, 2) := by decide +kernel
theorem dX5_setPlace_7 : decode cX5_setPlace 7 = .ok (.if_icmp .ge 10, 3) := by decide +kernel
theorem dX5_setPlace_10 : decode cX5_setPlace 10 = .ok (.aload_n 0, 1) := by decide +kernel
theorem dX5_setPlace_11 : decode cX5_setPlace 11 = .ok (.getfield 35, 3) := by decide +kernel
theorem dX5_setPlace_14 : decode cX5_setPlace 14 = .ok (.iload_n 1, 1) := by decide +kernel
theorem dX5_setPlace_15 : decode cX5_setPlace 15 = .ok (.iload_n 2, 1) := by decide +kernel
theorem dX5_setPlace_16 : decode cX5_setPlace 16 = .ok (.iastore, 1) := by decide +kernel
theorem dX5_setPlace_17 : decode cX5_setPlace 17 = .ok (.return_, 1) := by decide +kernel
theorem dX5_goesAhead_0 : decode cX5_goesAhead 0 = .ok (.aload_n 0, 1) := by decide +kernel
theorem dX5_goesAhead_1 : decode cX5_goesAhead 1 = .ok (.iload_n 1, 1) := by decide +kernel
theorem dX5_goesAhead_2 : decode cX5_goesAhead 2 = .ok (.invokevirtual 118, 3) := by decide +kernel
theorem dX5_goesAhead_5 : decode cX5_goesAhead 5 = .ok (.astore_n 3, 1) := by decide +kernel
theorem dX5_goesAhead_6 : decode cX5_goesAhead 6 = .ok (.aload_n 0, 1) := by decide +kernel
theorem dX5_goesAhead_7 : decode cX5_goesAhead 7 = .ok (.iload_n 2, 1) := by decide +kernel
theorem dX5_goesAhead_8 : decode cX5_goesAhead 8 = .ok (.invokevirtual 118, 3) := by decide +kernel
theorem dX5_goesAhead_11 : decode cX5_goesAhead 11 = .ok (.astore 4, 2) := by decide +kernel
theorem dX5_goesAhead_13 : decode cX5_goesAhead 13 = .ok (.aload_n 3, 1) := by decide +kernel
theorem dX5_goesAhead_14 : decode cX5_goesAhead 14 = .ok (.getfield 100, 3) := by decide +kernel
theorem dX5_goesAhead_17 : decode cX5_goesAhead 17 = .ok (.ifCond .ne 7, 3) := by decide +kernel
theorem dX5_goesAhead_20 : decode cX5_goesAhead 20 = .ok (.iconst 1, 1) := by decide +kernel
theorem dX5_goesAhead_21 : decode cX5_goesAhead 21 = .ok (.goto 4, 3) := by decide +kernel
theorem dX5_goesAhead_24 : decode cX5_goesAhead 24 = .ok (.iconst 0, 1) := by decide +kernel
theorem dX5_goesAhead_25 : decode cX5_goesAhead 25 = .ok (.istore 5, 2) := by decide +kernel
theorem dX5_goesAhead_27 : decode cX5_goesAhead 27 = .ok (.aload 4, 2) := by decide +kernel
theorem dX5_goesAhead_29 : decode cX5_goesAhead 29 = .ok (.getfield 100, 3) := by decide +kernel
theorem dX5_goesAhead_32 : decode cX5_goesAhead 32 = .ok (.ifCond .ne 7, 3) := by decide +kernel
theorem dX5_goesAhead_35 : decode cX5_goesAhead 35 = .ok (.iconst 1, 1) := by decide +kernel
theorem dX5_goesAhead_36 : decode cX5_goesAhead 36 = .ok (.goto 4, 3) := by decide +kernel
theorem dX5_goesAhead_39 : decode cX5_goesAhead 39 = .ok (.iconst 0, 1) := by decide +kernel
theorem dX5_goesAhead_40 : decode cX5_goesAhead 40 = .ok (.istore 6, 2) := by decide +kernel
theorem dX5_goesAhead_42 : decode cX5_goesAhead 42 = .ok (.iload 5, 2) := by decide +kernel
theorem dX5_goesAhead_44 : decode cX5_goesAhead 44 = .ok (.iload 6, 2) := by decide +kernel
theorem dX5_goesAhead_46 : decode cX5_goesAhead 46 = .ok (.if_icmp .eq 6, 3) := by decide +kernel
theorem dX5_goesAhead_49 : decode cX5_goesAhead 49 = .ok (.iload 6, 2) := by decide +kernel
theorem dX5_goesAhead_51 : decode cX5_goesAhead 51 = .ok (.ireturn, 1) := by decide +kernel
theorem dX5_goesAhead_52 : decode cX5_goesAhead 52 = .ok (.aload_n 3, 1) := by decide +kernel
theorem dX5_goesAhead_53 : decode cX5_goesAhead 53 = .ok (.getfield 169, 3) := by decide +kernel
theorem dX5_goesAhead_56 : decode cX5_goesAhead 56 = .ok (.aload 4, 2) := by decide +kernel
theorem dX5_goesAhead_58 : decode cX5_goesAhead 58 = .ok (.getfield 169, 3) := by decide +kernel
theorem dX5_goesAhead_61 : decode cX5_goesAhead 61 = .ok (.if_icmp .eq 16, 3) := by decide +kernel
theorem dX5_goesAhead_64 : decode cX5_goesAhead 64 = .ok (.aload_n 3, 1) := by decide +kernel
theorem dX5_goesAhead_65 : decode cX5_goesAhead 65 = .ok (.getfield 169, 3) := by decide +kernel
theorem dX5_goesAhead_68 : decode cX5_goesAhead 68 = .ok (.ifCond .ne 7, 3) := by decide +kernel
theorem dX5_goesAhead_71 : decode cX5_goesAhead 71 = .ok (.iconst 1, 1) := by decide +kernel
theorem dX5_goesAhead_72 : decode cX5_goesAhead 72 = .ok (.goto 4, 3) := by decide +kernel
theorem dX5_goesAhead_75 : decode cX5_goesAhead 75 = .ok (.iconst 0, 1) := by decide +kernel
theorem dX5_goesAhead_76 : decode cX5_goesAhead 76 = .ok (.ireturn, 1) := by decide +kernel
theorem dX5_goesAhead_77 : decode cX5_goesAhead 77 = .ok (.aload_n 0, 1) := by decide +kernel
theorem dX5_goesAhead_78 : decode cX5_goesAhead 78 = .ok (.aload_n 3, 1) := by decide +kernel
theorem dX5_goesAhead_79 : decode cX5_goesAhead 79 = .ok (.invokevirtual 215, 3) := by decide +kernel
theorem dX5_goesAhead_82 : decode cX5_goesAhead 82 = .ok (.fstore 7, 2) := by decide +kernel
theorem dX5_goesAhead_84 : decode cX5_goesAhead 84 = .ok (.aload_n 0, 1) := by decide +kernel
theorem dX5_goesAhead_85 : decode cX5_goesAhead 85 = .ok (.aload 4, 2) := by decide +kernel
theorem dX5_goesAhead_87 : decode cX5_goesAhead 87 = .ok (.invokevirtual 215, 3) := by decide +kernel
theorem dX5_goesAhead_90 : decode cX5_goesAhead 90 = .ok (.fstore 8, 2) := by decide +kernel
theorem dX5_goesAhead_92 : decode cX5_goesAhead 92 = .ok (.fload 7, 2) := by decide +kernel
theorem dX5_goesAhead_94 : decode cX5_goesAhead 94 = .ok (.fload 8, 2) := by decide +kernel
theorem dX5_goesAhead_96 : decode cX5_goesAhead 96 = .ok (.fcmp .l, 1) := by decide +kernel
theorem dX5_goesAhead_97 : decode cX5_goesAhead 97 = .ok (.ifCond .eq 19, 3) := by decide +kernel
theorem dX5_goesAhead_100 : decode cX5_goesAhead 100 = .ok (.fload 7, 2) := by decide +kernel
theorem dX5_goesAhead_102 : decode cX5_goesAhead 102 = .ok (.fload 8, 2) := by decide +kernel
theorem dX5_goesAhead_104 : decode cX5_goesAhead 104 = .ok (.fcmp .l, 1) := by decide +kernel
theorem dX5_goesAhead_105 : decode cX5_goesAhead 105 = .ok (.ifCond .le 7, 3) := by decide +kernel
theorem dX5_goesAhead_108 : decode cX5_goesAhead 108 = .ok (.iconst 1, 1) := by decide +kernel
theorem dX5_goesAhead_109 : decode cX5_goesAhead 109 = .ok (.goto 17, 3) := by decide +kernel
theorem dX5_goesAhead_112 : decode cX5_goesAhead 112 = .ok (.iconst 0, 1) := by decide +kernel
theorem dX5_goesAhead_113 : decode cX5_goesAhead 113 = .ok (.goto 13, 3) := by decide +kernel
theorem dX5_goesAhead_116 : decode cX5_goesAhead 116 = .ok (.iload_n 1, 1) := by decide +kernel
theorem dX5_goesAhead_117 : decode cX5_goesAhead 117 = .ok (.iload_n 2, 1) := by decide +kernel
theorem dX5_goesAhead_118 : decode cX5_goesAhead 118 = .ok (.if_icmp .ge 7, 3) := by decide +kernel
theorem dX5_goesAhead_121 : decode cX5_goesAhead 121 = .ok (.iconst 1, 1) := by decide +kernel
theorem dX5_goesAhead_122 : decode cX5_goesAhead 122 = .ok (.goto 4, 3) := by decide +kernel
theorem dX5_goesAhead_125 : decode cX5_goesAhead 125 = .ok (.iconst 0, 1) := by decide +kernel
theorem dX5_goesAhead_126 : decode cX5_goesAhead 126 = .ok (.ireturn, 1) := by decide +kernel
theorem dX5_planAlone_0 : decode cX5_planAlone 0 = .ok (.aload_n 1, 1) := by decide +kernel
theorem dX5_planAlone_1 : decode cX5_planAlone 1 = .ok (.getfield 131, 3) := by decide +kernel
theorem dX5_planAlone_4 : decode cX5_planAlone 4 = .ok (.iconst (-1), 1) := by decide +kernel
theorem dX5_planAlone_5 : decode cX5_planAlone 5 = .ok (.if_icmp .ne 14, 3) := by decide +kernel
theorem dX5_planAlone_8 : decode cX5_planAlone 8 = .ok (.new 90, 3) := by decide +kernel
theorem dX5_planAlone_11 : decode cX5_planAlone 11 = .ok (.dup, 1) := by decide +kernel
theorem dX5_planAlone_12 : decode cX5_planAlone 12 = .ok (.ldc_w 350, 3) := by decide +kernel
theorem dX5_planAlone_15 : decode cX5_planAlone 15 = .ok (.invokespecial 94, 3) := by decide +kernel
theorem dX5_planAlone_18 : decode cX5_planAlone 18 = .ok (.athrow, 1) := by decide +kernel
theorem dX5_planAlone_19 : decode cX5_planAlone 19 = .ok (.aload_n 0, 1) := by decide +kernel
theorem dX5_planAlone_20 : decode cX5_planAlone 20 = .ok (.getfield 56, 3) := by decide +kernel
theorem dX5_planAlone_23 : decode cX5_planAlone 23 = .ok (.aload_n 1, 1) := by decide +kernel
theorem dX5_planAlone_24 : decode cX5_planAlone 24 = .ok (.getfield 100, 3) := by decide +kernel
theorem dX5_planAlone_27 : decode cX5_planAlone 27 = .ok (.iload_n 2, 1) := by decide +kernel
theorem dX5_planAlone_28 : decode cX5_planAlone 28 = .ok (.iload_n 3, 1) := by decide +kernel
theorem dX5_planAlone_29 : decode cX5_planAlone 29 = .ok (.aload_n 0, 1) := by decide +kernel
theorem dX5_planAlone_30 : decode cX5_planAlone 30 = .ok (.aload_n 1, 1) := by decide +kernel
theorem dX5_planAlone_31 : decode cX5_planAlone 31 = .ok (.invokevirtual 215, 3) := by decide +kernel
theorem dX5_planAlone_34 : decode cX5_planAlone 34 = .ok (.invokevirtual 352, 3) := by decide +kernel
theorem dX5_planAlone_37 : decode cX5_planAlone 37 = .ok (.return_, 1) := by decide +kernel
theorem dX5_planFlight_0 : decode cX5_planFlight 0 = .ok (.aload_n 0, 1) := by decide +kernel
theorem dX5_planFlight_1 : decode cX5_planFlight 1 = .ok (.getfield 49, 3) := by decide +kernel
theorem dX5_planFlight_4 : decode cX5_planFlight 4 = .ok (.aload_n 0, 1) := by decide +kernel
theorem dX5_planFlight_5 : decode cX5_planFlight 5 = .ok (.getfield 39, 3) := by decide +kernel
theorem dX5_planFlight_8 : decode cX5_planFlight 8 = .ok (.putfield 356, 3) := by decide +kernel
theorem dX5_planFlight_11 : decode cX5_planFlight 11 = .ok (.iconst 0, 1) := by decide +kernel
theorem dX5_planFlight_12 : decode cX5_planFlight 12 = .ok (.istore_n 1, 1) := by decide +kernel
theorem dX5_planFlight_13 : decode cX5_planFlight 13 = .ok (.iload_n 1, 1) := by decide +kernel
theorem dX5_planFlight_14 : decode cX5_planFlight 14 = .ok (.aload_n 0, 1) := by decide +kernel
theorem dX5_planFlight_15 : decode cX5_planFlight 15 = .ok (.getfield 39, 3) := by decide +kernel
theorem dX5_planFlight_18 : decode cX5_planFlight 18 = .ok (.if_icmp .ge 47, 3) := by decide +kernel
theorem dX5_planFlight_21 : decode cX5_planFlight 21 = .ok (.aload_n 0, 1) := by decide +kernel
theorem dX5_planFlight_22 : decode cX5_planFlight 22 = .ok (.aload_n 0, 1) := by decide +kernel
theorem dX5_planFlight_23 : decode cX5_planFlight 23 = .ok (.iload_n 1, 1) := by decide +kernel
theorem dX5_planFlight_24 : decode cX5_planFlight 24 = .ok (.invokevirtual 194, 3) := by decide +kernel
theorem dX5_planFlight_27 : decode cX5_planFlight 27 = .ok (.invokevirtual 118, 3) := by decide +kernel
theorem dX5_planFlight_30 : decode cX5_planFlight 30 = .ok (.astore_n 2, 1) := by decide +kernel
theorem dX5_planFlight_31 : decode cX5_planFlight 31 = .ok (.aload_n 0, 1) := by decide +kernel
theorem dX5_planFlight_32 : decode cX5_planFlight 32 = .ok (.getfield 49, 3) := by decide +kernel
theorem dX5_planFlight_35 : decode cX5_planFlight 35 = .ok (.iload_n 1, 1) := by decide +kernel
theorem dX5_planFlight_36 : decode cX5_planFlight 36 = .ok (.invokevirtual 197, 3) := by decide +kernel
theorem dX5_planFlight_39 : decode cX5_planFlight 39 = .ok (.aload_n 2, 1) := by decide +kernel
theorem dX5_planFlight_40 : decode cX5_planFlight 40 = .ok (.getfield 100, 3) := by decide +kernel
theorem dX5_planFlight_43 : decode cX5_planFlight 43 = .ok (.aload_n 2, 1) := by decide +kernel
theorem dX5_planFlight_44 : decode cX5_planFlight 44 = .ok (.getfield 169, 3) := by decide +kernel
theorem dX5_planFlight_47 : decode cX5_planFlight 47 = .ok (.aload_n 2, 1) := by decide +kernel
theorem dX5_planFlight_48 : decode cX5_planFlight 48 = .ok (.getfield 172, 3) := by decide +kernel
theorem dX5_planFlight_51 : decode cX5_planFlight 51 = .ok (.aload_n 0, 1) := by decide +kernel
theorem dX5_planFlight_52 : decode cX5_planFlight 52 = .ok (.aload_n 2, 1) := by decide +kernel
theorem dX5_planFlight_53 : decode cX5_planFlight 53 = .ok (.invokevirtual 215, 3) := by decide +kernel
theorem dX5_planFlight_56 : decode cX5_planFlight 56 = .ok (.invokevirtual 352, 3) := by decide +kernel
theorem dX5_planFlight_59 : decode cX5_planFlight 59 = .ok (.iinc 1 1, 3) := by decide +kernel
theorem dX5_planFlight_62 : decode cX5_planFlight 62 = .ok (.goto (-49), 3) := by decide +kernel
theorem dX5_planFlight_65 : decode cX5_planFlight 65 = .ok (.return_, 1) := by decide +kernel
theorem dX5_drawTroubles_0 : decode cX5_drawTroubles 0 = .ok (.iconst 0, 1) := by decide +kernel
theorem dX5_drawTroubles_1 : decode cX5_drawTroubles 1 = .ok (.istore_n 1, 1) := by decide +kernel
theorem dX5_drawTroubles_2 : decode cX5_drawTroubles 2 = .ok (.iload_n 1, 1) := by decide +kernel
theorem dX5_drawTroubles_3 : decode cX5_drawTroubles 3 = .ok (.aload_n 0, 1) := by decide +kernel
theorem dX5_drawTroubles_4 : decode cX5_drawTroubles 4 = .ok (.getfield 39, 3) := by decide +kernel
theorem dX5_drawTroubles_7 : decode cX5_drawTroubles 7 = .ok (.if_icmp .ge 74, 3) := by decide +kernel
theorem dX5_drawTroubles_10 : decode cX5_drawTroubles 10 = .ok (.aload_n 0, 1) := by decide +kernel
theorem dX5_drawTroubles_11 : decode cX5_drawTroubles 11 = .ok (.aload_n 0, 1) := by decide +kernel
theorem dX5_drawTroubles_12 : decode cX5_drawTroubles 12 = .ok (.aload_n 0, 1) := by decide +kernel
theorem dX5_drawTroubles_13 : decode cX5_drawTroubles 13 = .ok (.iload_n 1, 1) := by decide +kernel
theorem dX5_drawTroubles_14 : decode cX5_drawTroubles 14 = .ok (.invokevirtual 194, 3) := by decide +kernel
theorem dX5_drawTroubles_17 : decode cX5_drawTroubles 17 = .ok (.invokevirtual 118, 3) := by decide +kernel
theorem dX5_drawTroubles_20 : decode cX5_drawTroubles 20 = .ok (.getfield 131, 3) := by decide +kernel
theorem dX5_drawTroubles_23 : decode cX5_drawTroubles 23 = .ok (.invokevirtual 114, 3) := by decide +kernel
theorem dX5_drawTroubles_26 : decode cX5_drawTroubles 26 = .ok (.astore_n 2, 1) := by decide +kernel
theorem dX5_drawTroubles_27 : decode cX5_drawTroubles 27 = .ok (.aload_n 0, 1) := by decide +kernel
theorem dX5_drawTroubles_28 : decode cX5_drawTroubles 28 = .ok (.iconst 5, 1) := by decide +kernel
theorem dX5_drawTroubles_29 : decode cX5_drawTroubles 29 = .ok (.aload_n 0, 1) := by decide +kernel
theorem dX5_drawTroubles_30 : decode cX5_drawTroubles 30 = .ok (.getfield 63, 3) := by decide +kernel
theorem dX5_drawTroubles_33 : decode cX5_drawTroubles 33 = .ok (.imul, 1) := by decide +kernel
theorem dX5_drawTroubles_34 : decode cX5_drawTroubles 34 = .ok (.iconst 3, 1) := by decide +kernel
theorem dX5_drawTroubles_35 : decode cX5_drawTroubles 35 = .ok (.iadd, 1) := by decide +kernel
theorem dX5_drawTroubles_36 : decode cX5_drawTroubles 36 = .ok (.bipush 32, 2) := by decide +kernel
theorem dX5_drawTroubles_38 : decode cX5_drawTroubles 38 = .ok (.irem, 1) := by decide +kernel
theorem dX5_drawTroubles_39 : decode cX5_drawTroubles 39 = .ok (.putfield 63, 3) := by decide +kernel
theorem dX5_drawTroubles_42 : decode cX5_drawTroubles 42 = .ok (.aload_n 0, 1) := by decide +kernel
theorem dX5_drawTroubles_43 : decode cX5_drawTroubles 43 = .ok (.getfield 63, 3) := by decide +kernel
theorem dX5_drawTroubles_46 : decode cX5_drawTroubles 46 = .ok (.bipush 9, 2) := by decide +kernel
theorem dX5_drawTroubles_48 : decode cX5_drawTroubles 48 = .ok (.aload_n 2, 1) := by decide +kernel
theorem dX5_drawTroubles_49 : decode cX5_drawTroubles 49 = .ok (.getfield 148, 3) := by decide +kernel
theorem dX5_drawTroubles_52 : decode cX5_drawTroubles 52 = .ok (.isub, 1) := by decide +kernel
theorem dX5_drawTroubles_53 : decode cX5_drawTroubles 53 = .ok (.aload_n 2, 1) := by decide +kernel
theorem dX5_drawTroubles_54 : decode cX5_drawTroubles 54 = .ok (.getfield 228, 3) := by decide +kernel
theorem dX5_drawTroubles_57 : decode cX5_drawTroubles 57 = .ok (.fconst 2, 1) := by decide +kernel
theorem dX5_drawTroubles_58 : decode cX5_drawTroubles 58 = .ok (.fmul, 1) := by decide +kernel
theorem dX5_drawTroubles_59 : decode cX5_drawTroubles 59 = .ok (.f2i, 1) := by decide +kernel
theorem dX5_drawTroubles_60 : decode cX5_drawTroubles 60 = .ok (.iadd, 1) := by decide +kernel
theorem dX5_drawTroubles_61 : decode cX5_drawTroubles 61 = .ok (.if_icmp .ge 14, 3) := by decide +kernel
theorem dX5_drawTroubles_64 : decode cX5_drawTroubles 64 = .ok (.aload_n 0, 1) := by decide +kernel
theorem dX5_drawTroubles_65 : decode cX5_drawTroubles 65 = .ok (.getfield 49, 3) := by decide +kernel
theorem dX5_drawTroubles_68 : decode cX5_drawTroubles 68 = .ok (.iload_n 1, 1) := by decide +kernel
theorem dX5_drawTroubles_69 : decode cX5_drawTroubles 69 = .ok (.invokevirtual 197, 3) := by decide +kernel
theorem dX5_drawTroubles_72 : decode cX5_drawTroubles 72 = .ok (.invokevirtual 359, 3) := by decide +kernel
theorem dX5_drawTroubles_75 : decode cX5_drawTroubles 75 = .ok (.iinc 1 1, 3) := by decide +kernel
theorem dX5_drawTroubles_78 : decode cX5_drawTroubles 78 = .ok (.goto (-76), 3) := by decide +kernel
theorem dX5_drawTroubles_81 : decode cX5_drawTroubles 81 = .ok (.return_, 1) := by decide +kernel
theorem dX5_pointsFrom_0 : decode cX5_pointsFrom 0 = .ok (.aload_n 0, 1) := by decide +kernel
theorem dX5_pointsFrom_1 : decode cX5_pointsFrom 1 = .ok (.getfield 49, 3) := by decide +kernel
theorem dX5_pointsFrom_4 : decode cX5_pointsFrom 4 = .ok (.iload_n 1, 1) := by decide +kernel
theorem dX5_pointsFrom_5 : decode cX5_pointsFrom 5 = .ok (.iload_n 2, 1) := by decide +kernel
theorem dX5_pointsFrom_6 : decode cX5_pointsFrom 6 = .ok (.aload_n 0, 1) := by decide +kernel
theorem dX5_pointsFrom_7 : decode cX5_pointsFrom 7 = .ok (.getfield 31, 3) := by decide +kernel
theorem dX5_pointsFrom_10 : decode cX5_pointsFrom 10 = .ok (.invokevirtual 186, 3) := by decide +kernel
theorem dX5_pointsFrom_13 : decode cX5_pointsFrom 13 = .ok (.iconst 0, 1) := by decide +kernel
theorem dX5_pointsFrom_14 : decode cX5_pointsFrom 14 = .ok (.istore_n 3, 1) := by decide +kernel
theorem dX5_pointsFrom_15 : decode cX5_pointsFrom 15 = .ok (.iconst 0, 1) := by decide +kernel
theorem dX5_pointsFrom_16 : decode cX5_pointsFrom 16 = .ok (.istore 4, 2) := by decide +kernel
theorem dX5_pointsFrom_18 : decode cX5_pointsFrom 18 = .ok (.iload 4, 2) := by decide +kernel
theorem dX5_pointsFrom_20 : decode cX5_pointsFrom 20 = .ok (.aload_n 0, 1) := by decide +kernel
theorem dX5_pointsFrom_21 : decode cX5_pointsFrom 21 = .ok (.getfield 39, 3) := by decide +kernel
theorem dX5_pointsFrom_24 : decode cX5_pointsFrom 24 = .ok (.if_icmp .ge 38, 3) := by decide +kernel
theorem dX5_pointsFrom_27 : decode cX5_pointsFrom 27 = .ok (.aload_n 0, 1) := by decide +kernel
theorem dX5_pointsFrom_28 : decode cX5_pointsFrom 28 = .ok (.getfield 49, 3) := by decide +kernel
theorem dX5_pointsFrom_31 : decode cX5_pointsFrom 31 = .ok (.iload 4, 2) := by decide +kernel
theorem dX5_pointsFrom_33 : decode cX5_pointsFrom 33 = .ok (.invokevirtual 197, 3) := by decide +kernel
theorem dX5_pointsFrom_36 : decode cX5_pointsFrom 36 = .ok (.astore 5, 2) := by decide +kernel
theorem dX5_pointsFrom_38 : decode cX5_pointsFrom 38 = .ok (.aload 5, 2) := by decide +kernel
theorem dX5_pointsFrom_40 : decode cX5_pointsFrom 40 = .ok (.aload_n 0, 1) := by decide +kernel
theorem dX5_pointsFrom_41 : decode cX5_pointsFrom 41 = .ok (.getfield 31, 3) := by decide +kernel
theorem dX5_pointsFrom_44 : decode cX5_pointsFrom 44 = .ok (.invokevirtual 252, 3) := by decide +kernel
theorem dX5_pointsFrom_47 : decode cX5_pointsFrom 47 = .ok (.pop, 1) := by decide +kernel
theorem dX5_pointsFrom_48 : decode cX5_pointsFrom 48 = .ok (.iload_n 3, 1) := by decide +kernel
theorem dX5_pointsFrom_49 : decode cX5_pointsFrom 49 = .ok (.aload 5, 2) := by decide +kernel
theorem dX5_pointsFrom_51 : decode cX5_pointsFrom 51 = .ok (.invokevirtual 362, 3) := by decide +kernel
theorem dX5_pointsFrom_54 : decode cX5_pointsFrom 54 = .ok (.iadd, 1) := by decide +kernel
theorem dX5_pointsFrom_55 : decode cX5_pointsFrom 55 = .ok (.istore_n 3, 1) := by decide +kernel
theorem dX5_pointsFrom_56 : decode cX5_pointsFrom 56 = .ok (.iinc 4 1, 3) := by decide +kernel
theorem dX5_pointsFrom_59 : decode cX5_pointsFrom 59 = .ok (.goto (-41), 3) := by decide +kernel
theorem dX5_pointsFrom_62 : decode cX5_pointsFrom 62 = .ok (.iload_n 3, 1) := by decide +kernel
theorem dX5_pointsFrom_63 : decode cX5_pointsFrom 63 = .ok (.ireturn, 1) := by decide +kernel
theorem dX5_settle_0 : decode cX5_settle 0 = .ok (.aload_n 0, 1) := by decide +kernel
theorem dX5_settle_1 : decode cX5_settle 1 = .ok (.aload_n 1, 1) := by decide +kernel
theorem dX5_settle_2 : decode cX5_settle 2 = .ok (.getfield 131, 3) := by decide +kernel
theorem dX5_settle_5 : decode cX5_settle 5 = .ok (.invokevirtual 114, 3) := by decide +kernel
theorem dX5_settle_8 : decode cX5_settle 8 = .ok (.astore_n 3, 1) := by decide +kernel
theorem dX5_settle_9 : decode cX5_settle 9 = .ok (.aload_n 3, 1) := by decide +kernel
theorem dX5_settle_10 : decode cX5_settle 10 = .ok (.iconst 0, 1) := by decide +kernel
theorem dX5_settle_11 : decode cX5_settle 11 = .ok (.putfield 134, 3) := by decide +kernel
theorem dX5_settle_14 : decode cX5_settle 14 = .ok (.aload_n 3, 1) := by decide +kernel
theorem dX5_settle_15 : decode cX5_settle 15 = .ok (.dup, 1) := by decide +kernel
theorem dX5_settle_16 : decode cX5_settle 16 = .ok (.getfield 228, 3) := by decide +kernel
theorem dX5_settle_19 : decode cX5_settle 19 = .ok (.aload_n 2, 1) := by decide +kernel
theorem dX5_settle_20 : decode cX5_settle 20 = .ok (.getfield 364, 3) := by decide +kernel
theorem dX5_settle_23 : decode cX5_settle 23 = .ok (.ifCond .eq 9, 3) := by decide +kernel
theorem dX5_settle_26 : decode cX5_settle 26 = .ok (.ldc_w 367, 3) := by decide +kernel
theorem dX5_settle_29 : decode cX5_settle 29 = .ok (.goto 6, 3) := by decide +kernel
theorem dX5_settle_32 : decode cX5_settle 32 = .ok (.ldc_w 368, 3) := by decide +kernel
theorem dX5_settle_35 : decode cX5_settle 35 = .ok (.fadd, 1) := by decide +kernel
theorem dX5_settle_36 : decode cX5_settle 36 = .ok (.putfield 228, 3) := by decide +kernel
theorem dX5_settle_39 : decode cX5_settle 39 = .ok (.aload_n 2, 1) := by decide +kernel
theorem dX5_settle_40 : decode cX5_settle 40 = .ok (.getfield 364, 3) := by decide +kernel
theorem dX5_settle_43 : decode cX5_settle 43 = .ok (.ifCond .eq 33, 3) := by decide +kernel
theorem dX5_settle_46 : decode cX5_settle 46 = .ok (.aload_n 3, 1) := by decide +kernel
theorem dX5_settle_47 : decode cX5_settle 47 = .ok (.aload_n 0, 1) := by decide +kernel
theorem dX5_settle_48 : decode cX5_settle 48 = .ok (.getfield 60, 3) := by decide +kernel
theorem dX5_settle_51 : decode cX5_settle 51 = .ok (.iconst 1, 1) := by decide +kernel
theorem dX5_settle_52 : decode cX5_settle 52 = .ok (.isub, 1) := by decide +kernel
theorem dX5_settle_53 : decode cX5_settle 53 = .ok (.putfield 111, 3) := by decide +kernel
theorem dX5_settle_56 : decode cX5_settle 56 = .ok (.aload_n 1, 1) := by decide +kernel
theorem dX5_settle_57 : decode cX5_settle 57 = .ok (.dup, 1) := by decide +kernel
theorem dX5_settle_58 : decode cX5_settle 58 = .ok (.getfield 209, 3) := by decide +kernel
theorem dX5_settle_61 : decode cX5_settle 61 = .ok (.iconst 1, 1) := by decide +kernel
theorem dX5_settle_62 : decode cX5_settle 62 = .ok (.iadd, 1) := by decide +kernel
theorem dX5_settle_63 : decode cX5_settle 63 = .ok (.putfield 209, 3) := by decide +kernel
theorem dX5_settle_66 : decode cX5_settle 66 = .ok (.aload_n 0, 1) := by decide +kernel
theorem dX5_settle_67 : decode cX5_settle 67 = .ok (.dup, 1) := by decide +kernel
theorem dX5_settle_68 : decode cX5_settle 68 = .ok (.getfield 72, 3) := by decide +kernel
theorem dX5_settle_71 : decode cX5_settle 71 = .ok (.iconst 1, 1) := by decide +kernel
theorem dX5_settle_72 : decode cX5_settle 72 = .ok (.iadd, 1) := by decide +kernel
theorem dX5_settle_73 : decode cX5_settle 73 = .ok (.putfield 72, 3) := by decide +kernel
theorem dX5_settle_76 : decode cX5_settle 76 = .ok (.aload_n 1, 1) := by decide +kernel
theorem dX5_settle_77 : decode cX5_settle 77 = .ok (.aload_n 0, 1) := by decide +kernel
theorem dX5_settle_78 : decode cX5_settle 78 = .ok (.getfield 60, 3) := by decide +kernel
theorem dX5_settle_81 : decode cX5_settle 81 = .ok (.putfield 103, 3) := by decide +kernel
theorem dX5_settle_84 : decode cX5_settle 84 = .ok (.aload_n 1, 1) := by decide +kernel
theorem dX5_settle_85 : decode cX5_settle 85 = .ok (.aload_n 2, 1) := by decide +kernel
theorem dX5_settle_86 : decode cX5_settle 86 = .ok (.getfield 258, 3) := by decide +kernel
theorem dX5_settle_89 : decode cX5_settle 89 = .ok (.putfield 223, 3) := by decide +kernel
theorem dX5_settle_92 : decode cX5_settle 92 = .ok (.aload_n 1, 1) := by decide +kernel
theorem dX5_settle_93 : decode cX5_settle 93 = .ok (.aload_n 2, 1) := by decide +kernel
theorem dX5_settle_94 : decode cX5_settle 94 = .ok (.getfield 255, 3) := by decide +kernel
theorem dX5_settle_97 : decode cX5_settle 97 = .ok (.putfield 219, 3) := by decide +kernel
theorem dX5_settle_100 : decode cX5_settle 100 = .ok (.aload_n 1, 1) := by decide +kernel
theorem dX5_settle_101 : decode cX5_settle 101 = .ok (.dup, 1) := by decide +kernel
theorem dX5_settle_102 : decode cX5_settle 102 = .ok (.getfield 205, 3) := by decide +kernel
theorem dX5_settle_105 : decode cX5_settle 105 = .ok (.iconst 1, 1) := by decide +kernel
theorem dX5_settle_106 : decode cX5_settle 106 = .ok (.iadd, 1) := by decide +kernel
theorem dX5_settle_107 : decode cX5_settle 107 = .ok (.putfield 205, 3) := by decide +kernel
theorem dX5_settle_110 : decode cX5_settle 110 = .ok (.aload_n 0, 1) := by decide +kernel
theorem dX5_settle_111 : decode cX5_settle 111 = .ok (.dup, 1) := by decide +kernel
theorem dX5_settle_112 : decode cX5_settle 112 = .ok (.getfield 69, 3) := by decide +kernel
theorem dX5_settle_115 : decode cX5_settle 115 = .ok (.iconst 1, 1) := by decide +kernel
theorem dX5_settle_116 : decode cX5_settle 116 = .ok (.iadd, 1) := by decide +kernel
theorem dX5_settle_117 : decode cX5_settle 117 = .ok (.putfield 69, 3) := by decide +kernel
theorem dX5_settle_120 : decode cX5_settle 120 = .ok (.aload_n 2, 1) := by decide +kernel
theorem dX5_settle_121 : decode cX5_settle 121 = .ok (.invokevirtual 369, 3) := by decide +kernel
theorem dX5_settle_124 : decode cX5_settle 124 = .ok (.ldc2_w 373, 3) := by decide +kernel
theorem dX5_settle_127 : decode cX5_settle 127 = .ok (.dcmp .l, 1) := by decide +kernel
theorem dX5_settle_128 : decode cX5_settle 128 = .ok (.ifCond .le 13, 3) := by decide +kernel
theorem dX5_settle_131 : decode cX5_settle 131 = .ok (.aload_n 0, 1) := by decide +kernel
theorem dX5_settle_132 : decode cX5_settle 132 = .ok (.dup, 1) := by decide +kernel
theorem dX5_settle_133 : decode cX5_settle 133 = .ok (.getfield 75, 3) := by decide +kernel
theorem dX5_settle_136 : decode cX5_settle 136 = .ok (.iconst 1, 1) := by decide +kernel
theorem dX5_settle_137 : decode cX5_settle 137 = .ok (.iadd, 1) := by decide +kernel
theorem dX5_settle_138 : decode cX5_settle 138 = .ok (.putfield 75, 3) := by decide +kernel
theorem dX5_settle_141 : decode cX5_settle 141 = .ok (.aload_n 2, 1) := by decide +kernel
theorem dX5_settle_142 : decode cX5_settle 142 = .ok (.invokevirtual 362, 3) := by decide +kernel
theorem dX5_settle_145 : decode cX5_settle 145 = .ok (.istore 4, 2) := by decide +kernel
theorem dX5_settle_147 : decode cX5_settle 147 = .ok (.aload_n 1, 1) := by decide +kernel
theorem dX5_settle_148 : decode cX5_settle 148 = .ok (.dup, 1) := by decide +kernel
theorem dX5_settle_149 : decode cX5_settle 149 = .ok (.getfield 206, 3) := by decide +kernel
theorem dX5_settle_152 : decode cX5_settle 152 = .ok (.iload 4, 2) := by decide +kernel
theorem dX5_settle_154 : decode cX5_settle 154 = .ok (.iadd, 1) := by decide +kernel
theorem dX5_settle_155 : decode cX5_settle 155 = .ok (.putfield 206, 3) := by decide +kernel
theorem dX5_settle_158 : decode cX5_settle 158 = .ok (.iload 4, 2) := by decide +kernel
theorem dX5_settle_160 : decode cX5_settle 160 = .ok (.ireturn, 1) := by decide +kernel
theorem dX6_init_0 : decode cX6_init 0 = .ok (.aload_n 0, 1) := by decide +kernel
theorem dX6_init_1 : decode cX6_init 1 = .ok (.aload_n 1, 1) := by decide +kernel
theorem dX6_init_2 : decode cX6_init 2 = .ok (.putfield 3, 3) := by decide +kernel
theorem dX6_init_5 : decode cX6_init 5 = .ok (.aload_n 0, 1) := by decide +kernel
theorem dX6_init_6 : decode cX6_init 6 = .ok (.invokespecial 9, 3) := by decide +kernel
theorem dX6_init_9 : decode cX6_init 9 = .ok (.aload_n 0, 1) := by decide +kernel
theorem dX6_init_10 : decode cX6_init 10 = .ok (.bipush 9, 2) := by decide +kernel
theorem dX6_init_12 : decode cX6_init 12 = .ok (.putfield 15, 3) := by decide +kernel
theorem dX6_init_15 : decode cX6_init 15 = .ok (.aload_n 0, 1) := by decide +kernel
theorem dX6_init_16 : decode cX6_init 16 = .ok (.aload_n 2, 1) := by decide +kernel
theorem dX6_init_17 : decode cX6_init 17 = .ok (.putfield 19, 3) := by decide +kernel
theorem dX6_init_20 : decode cX6_init 20 = .ok (.aload_n 0, 1) := by decide +kernel
theorem dX6_init_21 : decode cX6_init 21 = .ok (.iload_n 3, 1) := by decide +kernel
theorem dX6_init_22 : decode cX6_init 22 = .ok (.putfield 23, 3) := by decide +kernel
theorem dX6_init_25 : decode cX6_init 25 = .ok (.aload_n 0, 1) := by decide +kernel
theorem dX6_init_26 : decode cX6_init 26 = .ok (.iload 4, 2) := by decide +kernel
theorem dX6_init_28 : decode cX6_init 28 = .ok (.putfield 26, 3) := by decide +kernel
theorem dX6_init_31 : decode cX6_init 31 = .ok (.aload_n 0, 1) := by decide +kernel
theorem dX6_init_32 : decode cX6_init 32 = .ok (.iload 5, 2) := by decide +kernel
theorem dX6_init_34 : decode cX6_init 34 = .ok (.putfield 29, 3) := by decide +kernel
theorem dX6_init_37 : decode cX6_init 37 = .ok (.aload_n 0, 1) := by decide +kernel
theorem dX6_init_38 : decode cX6_init 38 = .ok (.dload 6, 2) := by decide +kernel
theorem dX6_init_40 : decode cX6_init 40 = .ok (.putfield 32, 3) := by decide +kernel
theorem dX6_init_43 : decode cX6_init 43 = .ok (.aload_n 0, 1) := by decide +kernel
theorem dX6_init_44 : decode cX6_init 44 = .ok (.aload_n 1, 1) := by decide +kernel
theorem dX6_init_45 : decode cX6_init 45 = .ok (.aload_n 2, 1) := by decide +kernel
theorem dX6_init_46 : decode cX6_init 46 = .ok (.invokevirtual 36, 3) := by decide +kernel
theorem dX6_init_49 : decode cX6_init 49 = .ok (.putfield 40, 3) := by decide +kernel
theorem dX6_init_52 : decode cX6_init 52 = .ok (.return_, 1) := by decide +kernel
theorem dX6_isDown_0 : decode cX6_isDown 0 = .ok (.aload_n 0, 1) := by decide +kernel
theorem dX6_isDown_1 : decode cX6_isDown 1 = .ok (.getfield 15, 3) := by decide +kernel
theorem dX6_isDown_4 : decode cX6_isDown 4 = .ok (.ifCond .ge 7, 3) := by decide +kernel
theorem dX6_isDown_7 : decode cX6_isDown 7 = .ok (.iconst 1, 1) := by decide +kernel
theorem dX6_isDown_8 : decode cX6_isDown 8 = .ok (.goto 4, 3) := by decide +kernel
theorem dX6_isDown_11 : decode cX6_isDown 11 = .ok (.iconst 0, 1) := by decide +kernel
theorem dX6_isDown_12 : decode cX6_isDown 12 = .ok (.ireturn, 1) := by decide +kernel
theorem dX6_stay_0 : decode cX6_stay 0 = .ok (.aload_n 0, 1) := by decide +kernel
theorem dX6_stay_1 : decode cX6_stay 1 = .ok (.getfield 43, 3) := by decide +kernel
theorem dX6_stay_4 : decode cX6_stay 4 = .ok (.ifCond .eq 14, 3) := by decide +kernel
theorem dX6_stay_7 : decode cX6_stay 7 = .ok (.aload_n 0, 1) := by decide +kernel
theorem dX6_stay_8 : decode cX6_stay 8 = .ok (.getfield 47, 3) := by decide +kernel
theorem dX6_stay_11 : decode cX6_stay 11 = .ok (.ifCond .eq 7, 3) := by decide +kernel
theorem dX6_stay_14 : decode cX6_stay 14 = .ok (.iconst 4, 1) := by decide +kernel
theorem dX6_stay_15 : decode cX6_stay 15 = .ok (.goto 35, 3) := by decide +kernel
theorem dX6_stay_18 : decode cX6_stay 18 = .ok (.aload_n 0, 1) := by decide +kernel
theorem dX6_stay_19 : decode cX6_stay 19 = .ok (.getfield 47, 3) := by decide +kernel
theorem dX6_stay_22 : decode cX6_stay 22 = .ok (.ifCond .eq 16, 3) := by decide +kernel
theorem dX6_stay_25 : decode cX6_stay 25 = .ok (.iconst 1, 1) := by decide +kernel
theorem dX6_stay_26 : decode cX6_stay 26 = .ok (.ldc 50, 2) := by decide +kernel
theorem dX6_stay_28 : decode cX6_stay 28 = .ok (.aload_n 0, 1) := by decide +kernel
theorem dX6_stay_29 : decode cX6_stay 29 = .ok (.getfield 40, 3) := by decide +kernel
theorem dX6_stay_32 : decode cX6_stay 32 = .ok (.fdiv, 1) := by decide +kernel
theorem dX6_stay_33 : decode cX6_stay 33 = .ok (.f2i, 1) := by decide +kernel
theorem dX6_stay_34 : decode cX6_stay 34 = .ok (.iadd, 1) := by decide +kernel
theorem dX6_stay_35 : decode cX6_stay 35 = .ok (.goto 15, 3) := by decide +kernel
theorem dX6_stay_38 : decode cX6_stay 38 = .ok (.aload_n 0, 1) := by decide +kernel
theorem dX6_stay_39 : decode cX6_stay 39 = .ok (.getfield 23, 3) := by decide +kernel
theorem dX6_stay_42 : decode cX6_stay 42 = .ok (.ifCond .ne 7, 3) := by decide +kernel
theorem dX6_stay_45 : decode cX6_stay 45 = .ok (.iconst 2, 1) := by decide +kernel
theorem dX6_stay_46 : decode cX6_stay 46 = .ok (.goto 4, 3) := by decide +kernel
theorem dX6_stay_49 : decode cX6_stay 49 = .ok (.iconst 1, 1) := by decide +kernel
theorem dX6_stay_50 : decode cX6_stay 50 = .ok (.ireturn, 1) := by decide +kernel
theorem dX6_forward_0 : decode cX6_forward 0 = .ok (.aload_n 0, 1) := by decide +kernel
theorem dX6_forward_1 : decode cX6_forward 1 = .ok (.getfield 43, 3) := by decide +kernel
theorem dX6_forward_4 : decode cX6_forward 4 = .ok (.ifCond .eq 9, 3) := by decide +kernel
theorem dX6_forward_7 : decode cX6_forward 7 = .ok (.ldc2_w 51, 3) := by decide +kernel
theorem dX6_forward_10 : decode cX6_forward 10 = .ok (.goto 38, 3) := by decide +kernel
theorem dX6_forward_13 : decode cX6_forward 13 = .ok (.aload_n 0, 1) := by decide +kernel
theorem dX6_forward_14 : decode cX6_forward 14 = .ok (.getfield 19, 3) := by decide +kernel
theorem dX6_forward_17 : decode cX6_forward 17 = .ok (.getfield 53, 3) := by decide +kernel
theorem dX6_forward_20 : decode cX6_forward 20 = .ok (.ifCond .ne 19, 3) := by decide +kernel
theorem dX6_forward_23 : decode cX6_forward 23 = .ok (.ldc2_w 58, 3) := by decide +kernel
theorem dX6_forward_26 : decode cX6_forward 26 = .ok (.aload_n 0, 1) := by decide +kernel
theorem dX6_forward_27 : decode cX6_forward 27 = .ok (.getfield 40, 3) := by decide +kernel
theorem dX6_forward_30 : decode cX6_forward 30 = .ok (.f2d, 1) := by decide +kernel
theorem dX6_forward_31 : decode cX6_forward 31 = .ok (.dadd, 1) := by decide +kernel
theorem dX6_forward_32 : decode cX6_forward 32 = .ok (.ldc2_w 60, 3) := by decide +kernel
theorem dX6_forward_35 : decode cX6_forward 35 = .ok (.ddiv, 1) := by decide +kernel
theorem dX6_forward_36 : decode cX6_forward 36 = .ok (.goto 12, 3) := by decide +kernel
theorem dX6_forward_39 : decode cX6_forward 39 = .ok (.ldc2_w 58, 3) := by decide +kernel
theorem dX6_forward_42 : decode cX6_forward 42 = .ok (.aload_n 0, 1) := by decide +kernel
theorem dX6_forward_43 : decode cX6_forward 43 = .ok (.getfield 40, 3) := by decide +kernel
theorem dX6_forward_46 : decode cX6_forward 46 = .ok (.f2d, 1) := by decide +kernel
theorem dX6_forward_47 : decode cX6_forward 47 = .ok (.dadd, 1) := by decide +kernel
theorem dX6_forward_48 : decode cX6_forward 48 = .ok (.dreturn, 1) := by decide +kernel
theorem dX6_tick_0 : decode cX6_tick 0 = .ok (.aload_n 0, 1) := by decide +kernel
theorem dX6_tick_1 : decode cX6_tick 1 = .ok (.getfield 47, 3) := by decide +kernel
theorem dX6_tick_4 : decode cX6_tick 4 = .ok (.ifCond .eq 10, 3) := by decide +kernel
theorem dX6_tick_7 : decode cX6_tick 7 = .ok (.aload_n 0, 1) := by decide +kernel
theorem dX6_tick_8 : decode cX6_tick 8 = .ok (.invokevirtual 62, 3) := by decide +kernel
theorem dX6_tick_11 : decode cX6_tick 11 = .ok (.goto 55, 3) := by decide +kernel
theorem dX6_tick_14 : decode cX6_tick 14 = .ok (.aload_n 0, 1) := by decide +kernel
theorem dX6_tick_15 : decode cX6_tick 15 = .ok (.dup, 1) := by decide +kernel
theorem dX6_tick_16 : decode cX6_tick 16 = .ok (.getfield 32, 3) := by decide +kernel
theorem dX6_tick_19 : decode cX6_tick 19 = .ok (.aload_n 0, 1) := by decide +kernel
theorem dX6_tick_20 : decode cX6_tick 20 = .ok (.getfield 3, 3) := by decide +kernel
theorem dX6_tick_23 : decode cX6_tick 23 = .ok (.getfield 65, 3) := by decide +kernel
theorem dX6_tick_26 : decode cX6_tick 26 = .ok (.aload_n 0, 1) := by decide +kernel
theorem dX6_tick_27 : decode cX6_tick 27 = .ok (.getfield 15, 3) := by decide +kernel
theorem dX6_tick_30 : decode cX6_tick 30 = .ok (.iaload, 1) := by decide +kernel
theorem dX6_tick_31 : decode cX6_tick 31 = .ok (.i2d, 1) := by decide +kernel
theorem dX6_tick_32 : decode cX6_tick 32 = .ok (.ldc2_w 69, 3) := by decide +kernel
theorem dX6_tick_35 : decode cX6_tick 35 = .ok (.dmul, 1) := by decide +kernel
theorem dX6_tick_36 : decode cX6_tick 36 = .ok (.dadd, 1) := by decide +kernel
theorem dX6_tick_37 : decode cX6_tick 37 = .ok (.putfield 32, 3) := by decide +kernel
theorem dX6_tick_40 : decode cX6_tick 40 = .ok (.aload_n 0, 1) := by decide +kernel
theorem dX6_tick_41 : decode cX6_tick 41 = .ok (.dup, 1) := by decide +kernel
theorem dX6_tick_42 : decode cX6_tick 42 = .ok (.getfield 71, 3) := by decide +kernel
theorem dX6_tick_45 : decode cX6_tick 45 = .ok (.aload_n 0, 1) := by decide +kernel
theorem dX6_tick_46 : decode cX6_tick 46 = .ok (.getfield 3, 3) := by decide +kernel
theorem dX6_tick_49 : decode cX6_tick 49 = .ok (.getfield 74, 3) := by decide +kernel
theorem dX6_tick_52 : decode cX6_tick 52 = .ok (.aload_n 0, 1) := by decide +kernel
theorem dX6_tick_53 : decode cX6_tick 53 = .ok (.getfield 15, 3) := by decide +kernel
theorem dX6_tick_56 : decode cX6_tick 56 = .ok (.iaload, 1) := by decide +kernel
theorem dX6_tick_57 : decode cX6_tick 57 = .ok (.i2d, 1) := by decide +kernel
theorem dX6_tick_58 : decode cX6_tick 58 = .ok (.ldc2_w 69, 3) := by decide +kernel
theorem dX6_tick_61 : decode cX6_tick 61 = .ok (.dmul, 1) := by decide +kernel
theorem dX6_tick_62 : decode cX6_tick 62 = .ok (.dadd, 1) := by decide +kernel
theorem dX6_tick_63 : decode cX6_tick 63 = .ok (.putfield 71, 3) := by decide +kernel
theorem dX6_tick_66 : decode cX6_tick 66 = .ok (.aload_n 0, 1) := by decide +kernel
theorem dX6_tick_67 : decode cX6_tick 67 = .ok (.dup, 1) := by decide +kernel
theorem dX6_tick_68 : decode cX6_tick 68 = .ok (.getfield 77, 3) := by decide +kernel
theorem dX6_tick_71 : decode cX6_tick 71 = .ok (.iconst 1, 1) := by decide +kernel
theorem dX6_tick_72 : decode cX6_tick 72 = .ok (.iadd, 1) := by decide +kernel
theorem dX6_tick_73 : decode cX6_tick 73 = .ok (.putfield 77, 3) := by decide +kernel
theorem dX6_tick_76 : decode cX6_tick 76 = .ok (.aload_n 0, 1) := by decide +kernel
theorem dX6_tick_77 : decode cX6_tick 77 = .ok (.getfield 77, 3) := by decide +kernel
theorem dX6_tick_80 : decode cX6_tick 80 = .ok (.aload_n 0, 1) := by decide +kernel
theorem dX6_tick_81 : decode cX6_tick 81 = .ok (.invokevirtual 80, 3) := by decide +kernel
theorem dX6_tick_84 : decode cX6_tick 84 = .ok (.if_icmp .ge 4, 3) := by decide +kernel
theorem dX6_tick_87 : decode cX6_tick 87 = .ok (.return_, 1) := by decide +kernel
theorem dX6_tick_88 : decode cX6_tick 88 = .ok (.aload_n 0, 1) := by decide +kernel
theorem dX6_tick_89 : decode cX6_tick 89 = .ok (.iconst 0, 1) := by decide +kernel
theorem dX6_tick_90 : decode cX6_tick 90 = .ok (.putfield 77, 3) := by decide +kernel
theorem dX6_tick_93 : decode cX6_tick 93 = .ok (.aload_n 0, 1) := by decide +kernel
theorem dX6_tick_94 : decode cX6_tick 94 = .ok (.dup, 1) := by decide +kernel
theorem dX6_tick_95 : decode cX6_tick 95 = .ok (.getfield 15, 3) := by decide +kernel
theorem dX6_tick_98 : decode cX6_tick 98 = .ok (.iconst 1, 1) := by decide +kernel
theorem dX6_tick_99 : decode cX6_tick 99 = .ok (.isub, 1) := by decide +kernel
theorem dX6_tick_100 : decode cX6_tick 100 = .ok (.putfield 15, 3) := by decide +kernel
theorem dX6_tick_103 : decode cX6_tick 103 = .ok (.aload_n 0, 1) := by decide +kernel
theorem dX6_tick_104 : decode cX6_tick 104 = .ok (.getfield 47, 3) := by decide +kernel
theorem dX6_tick_107 : decode cX6_tick 107 = .ok (.ifCond .ne 14, 3) := by decide +kernel
theorem dX6_tick_110 : decode cX6_tick 110 = .ok (.aload_n 0, 1) := by decide +kernel
theorem dX6_tick_111 : decode cX6_tick 111 = .ok (.getfield 15, 3) := by decide +kernel
theorem dX6_tick_114 : decode cX6_tick 114 = .ok (.aload_n 0, 1) := by decide +kernel
theorem dX6_tick_115 : decode cX6_tick 115 = .ok (.getfield 26, 3) := by decide +kernel
theorem dX6_tick_118 : decode cX6_tick 118 = .ok (.if_icmp .eq 4, 3) := by decide +kernel
theorem dX6_tick_121 : decode cX6_tick 121 = .ok (.return_, 1) := by decide +kernel
theorem dX6_tick_122 : decode cX6_tick 122 = .ok (.aload_n 0, 1) := by decide +kernel
theorem dX6_tick_123 : decode cX6_tick 123 = .ok (.getfield 84, 3) := by decide +kernel
theorem dX6_tick_126 : decode cX6_tick 126 = .ok (.ifCond .eq 28, 3) := by decide +kernel
theorem dX6_tick_129 : decode cX6_tick 129 = .ok (.aload_n 0, 1) := by decide +kernel
theorem dX6_tick_130 : decode cX6_tick 130 = .ok (.getfield 43, 3) := by decide +kernel
theorem dX6_tick_133 : decode cX6_tick 133 = .ok (.ifCond .ne 21, 3) := by decide +kernel
theorem dX6_tick_136 : decode cX6_tick 136 = .ok (.aload_n 0, 1) := by decide +kernel
theorem dX6_tick_137 : decode cX6_tick 137 = .ok (.iconst 1, 1) := by decide +kernel
theorem dX6_tick_138 : decode cX6_tick 138 = .ok (.putfield 43, 3) := by decide +kernel
theorem dX6_tick_141 : decode cX6_tick 141 = .ok (.aload_n 0, 1) := by decide +kernel
theorem dX6_tick_142 : decode cX6_tick 142 = .ok (.dup, 1) := by decide +kernel
theorem dX6_tick_143 : decode cX6_tick 143 = .ok (.getfield 26, 3) := by decide +kernel
theorem dX6_tick_146 : decode cX6_tick 146 = .ok (.iconst 1, 1) := by decide +kernel
theorem dX6_tick_147 : decode cX6_tick 147 = .ok (.isub, 1) := by decide +kernel
theorem dX6_tick_148 : decode cX6_tick 148 = .ok (.putfield 26, 3) := by decide +kernel
theorem dX6_tick_151 : decode cX6_tick 151 = .ok (.goto 8, 3) := by decide +kernel
theorem dX6_tick_154 : decode cX6_tick 154 = .ok (.aload_n 0, 1) := by decide +kernel
theorem dX6_tick_155 : decode cX6_tick 155 = .ok (.iconst 1, 1) := by decide +kernel
theorem dX6_tick_156 : decode cX6_tick 156 = .ok (.putfield 47, 3) := by decide +kernel
theorem dX6_tick_159 : decode cX6_tick 159 = .ok (.return_, 1) := by decide +kernel
theorem dX6_steer_0 : decode cX6_steer 0 = .ok (.aload_n 0, 1) := by decide +kernel
theorem dX6_steer_1 : decode cX6_steer 1 = .ok (.dup, 1) := by decide +kernel
theorem dX6_steer_2 : decode cX6_steer 2 = .ok (.getfield 32, 3) := by decide +kernel
theorem dX6_steer_5 : decode cX6_steer 5 = .ok (.aload_n 0, 1) := by decide +kernel
theorem dX6_steer_6 : decode cX6_steer 6 = .ok (.getfield 3, 3) := by decide +kernel
theorem dX6_steer_9 : decode cX6_steer 9 = .ok (.getfield 65, 3) := by decide +kernel
theorem dX6_steer_12 : decode cX6_steer 12 = .ok (.aload_n 0, 1) := by decide +kernel
theorem dX6_steer_13 : decode cX6_steer 13 = .ok (.getfield 15, 3) := by decide +kernel
theorem dX6_steer_16 : decode cX6_steer 16 = .ok (.iaload, 1) := by decide +kernel
theorem dX6_steer_17 : decode cX6_steer 17 = .ok (.i2d, 1) := by decide +kernel
theorem dX6_steer_18 : decode cX6_steer 18 = .ok (.dadd, 1) := by decide +kernel
theorem dX6_steer_19 : decode cX6_steer 19 = .ok (.putfield 32, 3) := by decide +kernel
theorem dX6_steer_22 : decode cX6_steer 22 = .ok (.aload_n 0, 1) := by decide +kernel
theorem dX6_steer_23 : decode cX6_steer 23 = .ok (.dup, 1) := by decide +kernel
theorem dX6_steer_24 : decode cX6_steer 24 = .ok (.getfield 71, 3) := by decide +kernel
theorem dX6_steer_27 : decode cX6_steer 27 = .ok (.aload_n 0, 1) := by decide +kernel
theorem dX6_steer_28 : decode cX6_steer 28 = .ok (.getfield 3, 3) := by decide +kernel
theorem dX6_steer_31 : decode cX6_steer 31 = .ok (.getfield 74, 3) := by decide +kernel
theorem dX6_steer_34 : decode cX6_steer 34 = .ok (.aload_n 0, 1) := by decide +kernel
theorem dX6_steer_35 : decode cX6_steer 35 = .ok (.getfield 15, 3) := by decide +kernel
theorem dX6_steer_38 : decode cX6_steer 38 = .ok (.iaload, 1) := by decide +kernel
theorem dX6_steer_39 : decode cX6_steer 39 = .ok (.i2d, 1) := by decide +kernel
