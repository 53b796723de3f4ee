theorem dX6_steer_40 : decode cX6_steer 40 = .ok (.dadd, 1) := by decide +kernel
theorem dX6_steer_41 : decode cX6_steer 41 = .ok (.putfield 71, 3) := by decide +kernel
theorem dX6_steer_44 : decode cX6_steer 44 = .ok (.aload_n 0, 1) := by decide +kernel
theorem dX6_steer_45 : decode cX6_steer 45 = .ok (.getfield 32, 3) := by decide +kernel
theorem dX6_steer_48 : decode cX6_steer 48 = .ok (.invokestatic 87, 3) := by decide +kernel
theorem dX6_steer_51 : decode cX6_steer 51 = .ok (.aload_n 0, 1) := by decide +kernel
theorem dX6_steer_52 : decode cX6_steer 52 = .ok (.getfield 71, 3) := by decide +kernel
theorem dX6_steer_55 : decode cX6_steer 55 = .ok (.invokestatic 87, 3) := by decide +kernel
theorem dX6_steer_58 : decode cX6_steer 58 = .ok (.dcmp .l, 1) := by decide +kernel
theorem dX6_steer_59 : decode cX6_steer 59 = .ok (.ifCond .lt 22, 3) := by decide +kernel
theorem dX6_steer_62 : decode cX6_steer 62 = .ok (.aload_n 0, 1) := by decide +kernel
theorem dX6_steer_63 : decode cX6_steer 63 = .ok (.aload_n 0, 1) := by decide +kernel
theorem dX6_steer_64 : decode cX6_steer 64 = .ok (.aload_n 0, 1) := by decide +kernel
theorem dX6_steer_65 : decode cX6_steer 65 = .ok (.getfield 32, 3) := by decide +kernel
theorem dX6_steer_68 : decode cX6_steer 68 = .ok (.aload_n 0, 1) := by decide +kernel
theorem dX6_steer_69 : decode cX6_steer 69 = .ok (.invokevirtual 93, 3) := by decide +kernel
theorem dX6_steer_72 : decode cX6_steer 72 = .ok (.invokevirtual 97, 3) := by decide +kernel
theorem dX6_steer_75 : decode cX6_steer 75 = .ok (.putfield 32, 3) := by decide +kernel
theorem dX6_steer_78 : decode cX6_steer 78 = .ok (.goto 19, 3) := by decide +kernel
theorem dX6_steer_81 : decode cX6_steer 81 = .ok (.aload_n 0, 1) := by decide +kernel
theorem dX6_steer_82 : decode cX6_steer 82 = .ok (.aload_n 0, 1) := by decide +kernel
theorem dX6_steer_83 : decode cX6_steer 83 = .ok (.aload_n 0, 1) := by decide +kernel
theorem dX6_steer_84 : decode cX6_steer 84 = .ok (.getfield 71, 3) := by decide +kernel
theorem dX6_steer_87 : decode cX6_steer 87 = .ok (.aload_n 0, 1) := by decide +kernel
theorem dX6_steer_88 : decode cX6_steer 88 = .ok (.invokevirtual 93, 3) := by decide +kernel
theorem dX6_steer_91 : decode cX6_steer 91 = .ok (.invokevirtual 97, 3) := by decide +kernel
theorem dX6_steer_94 : decode cX6_steer 94 = .ok (.putfield 71, 3) := by decide +kernel
theorem dX6_steer_97 : decode cX6_steer 97 = .ok (.return_, 1) := by decide +kernel
theorem dX6_nearer_0 : decode cX6_nearer 0 = .ok (.dload_n 1, 1) := by decide +kernel
theorem dX6_nearer_1 : decode cX6_nearer 1 = .ok (.dconst 0, 1) := by decide +kernel
theorem dX6_nearer_2 : decode cX6_nearer 2 = .ok (.dcmp .l, 1) := by decide +kernel
theorem dX6_nearer_3 : decode cX6_nearer 3 = .ok (.ifCond .le 13, 3) := by decide +kernel
theorem dX6_nearer_6 : decode cX6_nearer 6 = .ok (.dconst 0, 1) := by decide +kernel
theorem dX6_nearer_7 : decode cX6_nearer 7 = .ok (.dload_n 1, 1) := by decide +kernel
theorem dX6_nearer_8 : decode cX6_nearer 8 = .ok (.dload_n 3, 1) := by decide +kernel
theorem dX6_nearer_9 : decode cX6_nearer 9 = .ok (.dsub, 1) := by decide +kernel
theorem dX6_nearer_10 : decode cX6_nearer 10 = .ok (.invokestatic 101, 3) := by decide +kernel
theorem dX6_nearer_13 : decode cX6_nearer 13 = .ok (.goto 10, 3) := by decide +kernel
theorem dX6_nearer_16 : decode cX6_nearer 16 = .ok (.dconst 0, 1) := by decide +kernel
theorem dX6_nearer_17 : decode cX6_nearer 17 = .ok (.dload_n 1, 1) := by decide +kernel
theorem dX6_nearer_18 : decode cX6_nearer 18 = .ok (.dload_n 3, 1) := by decide +kernel
theorem dX6_nearer_19 : decode cX6_nearer 19 = .ok (.dadd, 1) := by decide +kernel
theorem dX6_nearer_20 : decode cX6_nearer 20 = .ok (.invokestatic 104, 3) := by decide +kernel
theorem dX6_nearer_23 : decode cX6_nearer 23 = .ok (.dreturn, 1) := by decide +kernel
theorem dX6_far_0 : decode cX6_far 0 = .ok (.aload_n 0, 1) := by decide +kernel
theorem dX6_far_1 : decode cX6_far 1 = .ok (.getfield 32, 3) := by decide +kernel
theorem dX6_far_4 : decode cX6_far 4 = .ok (.invokestatic 87, 3) := by decide +kernel
theorem dX6_far_7 : decode cX6_far 7 = .ok (.aload_n 0, 1) := by decide +kernel
theorem dX6_far_8 : decode cX6_far 8 = .ok (.getfield 71, 3) := by decide +kernel
theorem dX6_far_11 : decode cX6_far 11 = .ok (.invokestatic 87, 3) := by decide +kernel
theorem dX6_far_14 : decode cX6_far 14 = .ok (.invokestatic 101, 3) := by decide +kernel
theorem dX6_far_17 : decode cX6_far 17 = .ok (.dreturn, 1) := by decide +kernel
theorem dX6_points_0 : decode cX6_points 0 = .ok (.aload_n 0, 1) := by decide +kernel
theorem dX6_points_1 : decode cX6_points 1 = .ok (.invokevirtual 107, 3) := by decide +kernel
theorem dX6_points_4 : decode cX6_points 4 = .ok (.ldc2_w 110, 3) := by decide +kernel
theorem dX6_points_7 : decode cX6_points 7 = .ok (.dcmp .g, 1) := by decide +kernel
theorem dX6_points_8 : decode cX6_points 8 = .ok (.ifCond .gt 7, 3) := by decide +kernel
theorem dX6_points_11 : decode cX6_points 11 = .ok (.iconst 3, 1) := by decide +kernel
theorem dX6_points_12 : decode cX6_points 12 = .ok (.goto 19, 3) := by decide +kernel
theorem dX6_points_15 : decode cX6_points 15 = .ok (.aload_n 0, 1) := by decide +kernel
theorem dX6_points_16 : decode cX6_points 16 = .ok (.invokevirtual 107, 3) := by decide +kernel
theorem dX6_points_19 : decode cX6_points 19 = .ok (.ldc2_w 112, 3) := by decide +kernel
theorem dX6_points_22 : decode cX6_points 22 = .ok (.dcmp .g, 1) := by decide +kernel
theorem dX6_points_23 : decode cX6_points 23 = .ok (.ifCond .gt 7, 3) := by decide +kernel
theorem dX6_points_26 : decode cX6_points 26 = .ok (.iconst 1, 1) := by decide +kernel
theorem dX6_points_27 : decode cX6_points 27 = .ok (.goto 4, 3) := by decide +kernel
theorem dX6_points_30 : decode cX6_points 30 = .ok (.iconst 0, 1) := by decide +kernel
theorem dX6_points_31 : decode cX6_points 31 = .ok (.ireturn, 1) := by decide +kernel
theorem dX6_meets_0 : decode cX6_meets 0 = .ok (.aload_n 0, 1) := by decide +kernel
theorem dX6_meets_1 : decode cX6_meets 1 = .ok (.getfield 47, 3) := by decide +kernel
theorem dX6_meets_4 : decode cX6_meets 4 = .ok (.ifCond .eq 70, 3) := by decide +kernel
theorem dX6_meets_7 : decode cX6_meets 7 = .ok (.aload_n 1, 1) := by decide +kernel
theorem dX6_meets_8 : decode cX6_meets 8 = .ok (.getfield 47, 3) := by decide +kernel
theorem dX6_meets_11 : decode cX6_meets 11 = .ok (.ifCond .eq 63, 3) := by decide +kernel
theorem dX6_meets_14 : decode cX6_meets 14 = .ok (.aload_n 0, 1) := by decide +kernel
theorem dX6_meets_15 : decode cX6_meets 15 = .ok (.invokevirtual 114, 3) := by decide +kernel
theorem dX6_meets_18 : decode cX6_meets 18 = .ok (.ifCond .ne 56, 3) := by decide +kernel
theorem dX6_meets_21 : decode cX6_meets 21 = .ok (.aload_n 0, 1) := by decide +kernel
theorem dX6_meets_22 : decode cX6_meets 22 = .ok (.getfield 15, 3) := by decide +kernel
theorem dX6_meets_25 : decode cX6_meets 25 = .ok (.aload_n 1, 1) := by decide +kernel
theorem dX6_meets_26 : decode cX6_meets 26 = .ok (.getfield 15, 3) := by decide +kernel
theorem dX6_meets_29 : decode cX6_meets 29 = .ok (.if_icmp .ne 45, 3) := by decide +kernel
theorem dX6_meets_32 : decode cX6_meets 32 = .ok (.aload_n 0, 1) := by decide +kernel
theorem dX6_meets_33 : decode cX6_meets 33 = .ok (.getfield 32, 3) := by decide +kernel
theorem dX6_meets_36 : decode cX6_meets 36 = .ok (.aload_n 1, 1) := by decide +kernel
theorem dX6_meets_37 : decode cX6_meets 37 = .ok (.getfield 32, 3) := by decide +kernel
theorem dX6_meets_40 : decode cX6_meets 40 = .ok (.dsub, 1) := by decide +kernel
theorem dX6_meets_41 : decode cX6_meets 41 = .ok (.invokestatic 87, 3) := by decide +kernel
theorem dX6_meets_44 : decode cX6_meets 44 = .ok (.ldc2_w 118, 3) := by decide +kernel
theorem dX6_meets_47 : decode cX6_meets 47 = .ok (.dcmp .g, 1) := by decide +kernel
theorem dX6_meets_48 : decode cX6_meets 48 = .ok (.ifCond .ge 26, 3) := by decide +kernel
theorem dX6_meets_51 : decode cX6_meets 51 = .ok (.aload_n 0, 1) := by decide +kernel
theorem dX6_meets_52 : decode cX6_meets 52 = .ok (.getfield 71, 3) := by decide +kernel
theorem dX6_meets_55 : decode cX6_meets 55 = .ok (.aload_n 1, 1) := by decide +kernel
theorem dX6_meets_56 : decode cX6_meets 56 = .ok (.getfield 71, 3) := by decide +kernel
theorem dX6_meets_59 : decode cX6_meets 59 = .ok (.dsub, 1) := by decide +kernel
theorem dX6_meets_60 : decode cX6_meets 60 = .ok (.invokestatic 87, 3) := by decide +kernel
theorem dX6_meets_63 : decode cX6_meets 63 = .ok (.ldc2_w 118, 3) := by decide +kernel
theorem dX6_meets_66 : decode cX6_meets 66 = .ok (.dcmp .g, 1) := by decide +kernel
theorem dX6_meets_67 : decode cX6_meets 67 = .ok (.ifCond .ge 7, 3) := by decide +kernel
theorem dX6_meets_70 : decode cX6_meets 70 = .ok (.iconst 1, 1) := by decide +kernel
theorem dX6_meets_71 : decode cX6_meets 71 = .ok (.goto 4, 3) := by decide +kernel
theorem dX6_meets_74 : decode cX6_meets 74 = .ok (.iconst 0, 1) := by decide +kernel
theorem dX6_meets_75 : decode cX6_meets 75 = .ok (.ireturn, 1) := by decide +kernel
theorem dX7_init_0 : decode cX7_init 0 = .ok (.aload_n 0, 1) := by decide +kernel
theorem dX7_init_1 : decode cX7_init 1 = .ok (.invokespecial 3, 3) := by decide +kernel
theorem dX7_init_4 : decode cX7_init 4 = .ok (.aload_n 0, 1) := by decide +kernel
theorem dX7_init_5 : decode cX7_init 5 = .ok (.iconst (-1), 1) := by decide +kernel
theorem dX7_init_6 : decode cX7_init 6 = .ok (.putfield 9, 3) := by decide +kernel
theorem dX7_init_9 : decode cX7_init 9 = .ok (.aload_n 0, 1) := by decide +kernel
theorem dX7_init_10 : decode cX7_init 10 = .ok (.iconst (-1), 1) := by decide +kernel
theorem dX7_init_11 : decode cX7_init 11 = .ok (.putfield 15, 3) := by decide +kernel
theorem dX7_init_14 : decode cX7_init 14 = .ok (.aload_n 0, 1) := by decide +kernel
theorem dX7_init_15 : decode cX7_init 15 = .ok (.iload_n 1, 1) := by decide +kernel
theorem dX7_init_16 : decode cX7_init 16 = .ok (.putfield 18, 3) := by decide +kernel
theorem dX7_init_19 : decode cX7_init 19 = .ok (.aload_n 0, 1) := by decide +kernel
theorem dX7_init_20 : decode cX7_init 20 = .ok (.iload_n 2, 1) := by decide +kernel
theorem dX7_init_21 : decode cX7_init 21 = .ok (.putfield 21, 3) := by decide +kernel
theorem dX7_init_24 : decode cX7_init 24 = .ok (.aload_n 0, 1) := by decide +kernel
theorem dX7_init_25 : decode cX7_init 25 = .ok (.iload_n 3, 1) := by decide +kernel
theorem dX7_init_26 : decode cX7_init 26 = .ok (.putfield 24, 3) := by decide +kernel
theorem dX7_init_29 : decode cX7_init 29 = .ok (.return_, 1) := by decide +kernel
theorem dX8_init_0 : decode cX8_init 0 = .ok (.aload_n 0, 1) := by decide +kernel
theorem dX8_init_1 : decode cX8_init 1 = .ok (.invokespecial 1, 3) := by decide +kernel
theorem dX8_init_4 : decode cX8_init 4 = .ok (.aload_n 0, 1) := by decide +kernel
theorem dX8_init_5 : decode cX8_init 5 = .ok (.iload_n 1, 1) := by decide +kernel
theorem dX8_init_6 : decode cX8_init 6 = .ok (.putfield 7, 3) := by decide +kernel
theorem dX8_init_9 : decode cX8_init 9 = .ok (.aload_n 0, 1) := by decide +kernel
theorem dX8_init_10 : decode cX8_init 10 = .ok (.iload_n 2, 1) := by decide +kernel
theorem dX8_init_11 : decode cX8_init 11 = .ok (.putfield 13, 3) := by decide +kernel
theorem dX8_init_14 : decode cX8_init 14 = .ok (.return_, 1) := by decide +kernel
theorem dX9_init_0 : decode cX9_init 0 = .ok (.aload_n 0, 1) := by decide +kernel
theorem dX9_init_1 : decode cX9_init 1 = .ok (.invokespecial 1, 3) := by decide +kernel
theorem dX9_init_4 : decode cX9_init 4 = .ok (.aload_n 0, 1) := by decide +kernel
theorem dX9_init_5 : decode cX9_init 5 = .ok (.new 7, 3) := by decide +kernel
theorem dX9_init_8 : decode cX9_init 8 = .ok (.dup, 1) := by decide +kernel
theorem dX9_init_9 : decode cX9_init 9 = .ok (.invokespecial 9, 3) := by decide +kernel
theorem dX9_init_12 : decode cX9_init 12 = .ok (.putfield 10, 3) := by decide +kernel
theorem dX9_init_15 : decode cX9_init 15 = .ok (.aload_n 0, 1) := by decide +kernel
theorem dX9_init_16 : decode cX9_init 16 = .ok (.new 7, 3) := by decide +kernel
theorem dX9_init_19 : decode cX9_init 19 = .ok (.dup, 1) := by decide +kernel
theorem dX9_init_20 : decode cX9_init 20 = .ok (.invokespecial 9, 3) := by decide +kernel
theorem dX9_init_23 : decode cX9_init 23 = .ok (.putfield 16, 3) := by decide +kernel
theorem dX9_init_26 : decode cX9_init 26 = .ok (.aload_n 0, 1) := by decide +kernel
theorem dX9_init_27 : decode cX9_init 27 = .ok (.bipush 10, 2) := by decide +kernel
theorem dX9_init_29 : decode cX9_init 29 = .ok (.newarray .int, 2) := by decide +kernel
theorem dX9_init_31 : decode cX9_init 31 = .ok (.putfield 19, 3) := by decide +kernel
theorem dX9_init_34 : decode cX9_init 34 = .ok (.aload_n 0, 1) := by decide +kernel
theorem dX9_init_35 : decode cX9_init 35 = .ok (.bipush 10, 2) := by decide +kernel
theorem dX9_init_37 : decode cX9_init 37 = .ok (.newarray .int, 2) := by decide +kernel
theorem dX9_init_39 : decode cX9_init 39 = .ok (.putfield 23, 3) := by decide +kernel
theorem dX9_init_42 : decode cX9_init 42 = .ok (.aload_n 0, 1) := by decide +kernel
theorem dX9_init_43 : decode cX9_init 43 = .ok (.iconst 3, 1) := by decide +kernel
theorem dX9_init_44 : decode cX9_init 44 = .ok (.putfield 26, 3) := by decide +kernel
theorem dX9_init_47 : decode cX9_init 47 = .ok (.return_, 1) := by decide +kernel
theorem dX9_thrown_0 : decode cX9_thrown 0 = .ok (.aload_n 0, 1) := by decide +kernel
theorem dX9_thrown_1 : decode cX9_thrown 1 = .ok (.getfield 30, 3) := by decide +kernel
theorem dX9_thrown_4 : decode cX9_thrown 4 = .ok (.ireturn, 1) := by decide +kernel
theorem dX9_no_0 : decode cX9_no 0 = .ok (.aload_n 0, 1) := by decide +kernel
theorem dX9_no_1 : decode cX9_no 1 = .ok (.iload_n 1, 1) := by decide +kernel
theorem dX9_no_2 : decode cX9_no 2 = .ok (.putfield 30, 3) := by decide +kernel
theorem dX9_no_5 : decode cX9_no 5 = .ok (.iconst 0, 1) := by decide +kernel
theorem dX9_no_6 : decode cX9_no 6 = .ok (.ireturn, 1) := by decide +kernel
theorem dX9_in_0 : decode cX9_in 0 = .ok (.iload_n 0, 1) := by decide +kernel
theorem dX9_in_1 : decode cX9_in 1 = .ok (.iload_n 1, 1) := by decide +kernel
theorem dX9_in_2 : decode cX9_in 2 = .ok (.if_icmp .lt 12, 3) := by decide +kernel
theorem dX9_in_5 : decode cX9_in 5 = .ok (.iload_n 0, 1) := by decide +kernel
theorem dX9_in_6 : decode cX9_in 6 = .ok (.iload_n 2, 1) := by decide +kernel
theorem dX9_in_7 : decode cX9_in 7 = .ok (.if_icmp .gt 7, 3) := by decide +kernel
theorem dX9_in_10 : decode cX9_in 10 = .ok (.iconst 1, 1) := by decide +kernel
theorem dX9_in_11 : decode cX9_in 11 = .ok (.goto 4, 3) := by decide +kernel
theorem dX9_in_14 : decode cX9_in 14 = .ok (.iconst 0, 1) := by decide +kernel
theorem dX9_in_15 : decode cX9_in 15 = .ok (.ireturn, 1) := by decide +kernel
theorem dX9_isJumper_0 : decode cX9_isJumper 0 = .ok (.iload_n 1, 1) := by decide +kernel
theorem dX9_isJumper_1 : decode cX9_isJumper 1 = .ok (.iconst 0, 1) := by decide +kernel
theorem dX9_isJumper_2 : decode cX9_isJumper 2 = .ok (.aload_n 0, 1) := by decide +kernel
theorem dX9_isJumper_3 : decode cX9_isJumper 3 = .ok (.getfield 10, 3) := by decide +kernel
theorem dX9_isJumper_6 : decode cX9_isJumper 6 = .ok (.invokeinterface 33 1, 5) := by decide +kernel
theorem dX9_isJumper_11 : decode cX9_isJumper 11 = .ok (.iconst 1, 1) := by decide +kernel
theorem dX9_isJumper_12 : decode cX9_isJumper 12 = .ok (.isub, 1) := by decide +kernel
theorem dX9_isJumper_13 : decode cX9_isJumper 13 = .ok (.invokestatic 39, 3) := by decide +kernel
theorem dX9_isJumper_16 : decode cX9_isJumper 16 = .ok (.ireturn, 1) := by decide +kernel
theorem dX9_isRig_0 : decode cX9_isRig 0 = .ok (.iload_n 1, 1) := by decide +kernel
theorem dX9_isRig_1 : decode cX9_isRig 1 = .ok (.iconst 0, 1) := by decide +kernel
theorem dX9_isRig_2 : decode cX9_isRig 2 = .ok (.aload_n 0, 1) := by decide +kernel
theorem dX9_isRig_3 : decode cX9_isRig 3 = .ok (.getfield 16, 3) := by decide +kernel
theorem dX9_isRig_6 : decode cX9_isRig 6 = .ok (.invokeinterface 33 1, 5) := by decide +kernel
theorem dX9_isRig_11 : decode cX9_isRig 11 = .ok (.iconst 1, 1) := by decide +kernel
theorem dX9_isRig_12 : decode cX9_isRig 12 = .ok (.isub, 1) := by decide +kernel
theorem dX9_isRig_13 : decode cX9_isRig 13 = .ok (.invokestatic 39, 3) := by decide +kernel
theorem dX9_isRig_16 : decode cX9_isRig 16 = .ok (.ireturn, 1) := by decide +kernel
theorem dX9_loading_0 : decode cX9_loading 0 = .ok (.aload_n 0, 1) := by decide +kernel
theorem dX9_loading_1 : decode cX9_loading 1 = .ok (.getfield 43, 3) := by decide +kernel
theorem dX9_loading_4 : decode cX9_loading 4 = .ok (.i2f, 1) := by decide +kernel
theorem dX9_loading_5 : decode cX9_loading 5 = .ok (.ldc 48, 2) := by decide +kernel
theorem dX9_loading_7 : decode cX9_loading 7 = .ok (.fmul, 1) := by decide +kernel
theorem dX9_loading_8 : decode cX9_loading 8 = .ok (.aload_n 1, 1) := by decide +kernel
theorem dX9_loading_9 : decode cX9_loading 9 = .ok (.getfield 49, 3) := by decide +kernel
theorem dX9_loading_12 : decode cX9_loading 12 = .ok (.i2f, 1) := by decide +kernel
theorem dX9_loading_13 : decode cX9_loading 13 = .ok (.fdiv, 1) := by decide +kernel
theorem dX9_loading_14 : decode cX9_loading 14 = .ok (.freturn, 1) := by decide +kernel
theorem dX9_loading__0 : decode cX9_loading_ 0 = .ok (.aload_n 1, 1) := by decide +kernel
theorem dX9_loading__1 : decode cX9_loading_ 1 = .ok (.getfield 54, 3) := by decide +kernel
theorem dX9_loading__4 : decode cX9_loading_ 4 = .ok (.iconst (-1), 1) := by decide +kernel
theorem dX9_loading__5 : decode cX9_loading_ 5 = .ok (.if_icmp .ne 7, 3) := by decide +kernel
theorem dX9_loading__8 : decode cX9_loading_ 8 = .ok (.fconst 0, 1) := by decide +kernel
theorem dX9_loading__9 : decode cX9_loading_ 9 = .ok (.goto 23, 3) := by decide +kernel
theorem dX9_loading__12 : decode cX9_loading_ 12 = .ok (.aload_n 1, 1) := by decide +kernel
theorem dX9_loading__13 : decode cX9_loading_ 13 = .ok (.aload_n 0, 1) := by decide +kernel
theorem dX9_loading__14 : decode cX9_loading_ 14 = .ok (.getfield 16, 3) := by decide +kernel
theorem dX9_loading__17 : decode cX9_loading_ 17 = .ok (.aload_n 1, 1) := by decide +kernel
theorem dX9_loading__18 : decode cX9_loading_ 18 = .ok (.getfield 54, 3) := by decide +kernel
theorem dX9_loading__21 : decode cX9_loading_ 21 = .ok (.invokeinterface 57 2, 5) := by decide +kernel
theorem dX9_loading__26 : decode cX9_loading_ 26 = .ok (.checkcast 50, 3) := by decide +kernel
theorem dX9_loading__29 : decode cX9_loading_ 29 = .ok (.invokestatic 61, 3) := by decide +kernel
theorem dX9_loading__32 : decode cX9_loading_ 32 = .ok (.freturn, 1) := by decide +kernel
theorem dX9_holder_0 : decode cX9_holder 0 = .ok (.iconst 0, 1) := by decide +kernel
theorem dX9_holder_1 : decode cX9_holder 1 = .ok (.istore_n 2, 1) := by decide +kernel
theorem dX9_holder_2 : decode cX9_holder 2 = .ok (.iload_n 2, 1) := by decide +kernel
theorem dX9_holder_3 : decode cX9_holder 3 = .ok (.aload_n 0, 1) := by decide +kernel
theorem dX9_holder_4 : decode cX9_holder 4 = .ok (.getfield 10, 3) := by decide +kernel
theorem dX9_holder_7 : decode cX9_holder 7 = .ok (.invokeinterface 33 1, 5) := by decide +kernel
theorem dX9_holder_12 : decode cX9_holder 12 = .ok (.if_icmp .ge 31, 3) := by decide +kernel
theorem dX9_holder_15 : decode cX9_holder 15 = .ok (.aload_n 0, 1) := by decide +kernel
theorem dX9_holder_16 : decode cX9_holder 16 = .ok (.getfield 10, 3) := by decide +kernel
theorem dX9_holder_19 : decode cX9_holder 19 = .ok (.iload_n 2, 1) := by decide +kernel
theorem dX9_holder_20 : decode cX9_holder 20 = .ok (.invokeinterface 57 2, 5) := by decide +kernel
theorem dX9_holder_25 : decode cX9_holder 25 = .ok (.checkcast 44, 3) := by decide +kernel
theorem dX9_holder_28 : decode cX9_holder 28 = .ok (.getfield 54, 3) := by decide +kernel
theorem dX9_holder_31 : decode cX9_holder 31 = .ok (.iload_n 1, 1) := by decide +kernel
theorem dX9_holder_32 : decode cX9_holder 32 = .ok (.if_icmp .ne 5, 3) := by decide +kernel
theorem dX9_holder_35 : decode cX9_holder 35 = .ok (.iload_n 2, 1) := by decide +kernel
theorem dX9_holder_36 : decode cX9_holder 36 = .ok (.ireturn, 1) := by decide +kernel
theorem dX9_holder_37 : decode cX9_holder 37 = .ok (.iinc 2 1, 3) := by decide +kernel
theorem dX9_holder_40 : decode cX9_holder 40 = .ok (.goto (-38), 3) := by decide +kernel
theorem dX9_holder_43 : decode cX9_holder 43 = .ok (.iconst (-1), 1) := by decide +kernel
theorem dX9_holder_44 : decode cX9_holder 44 = .ok (.ireturn, 1) := by decide +kernel
theorem dX9_aboard_0 : decode cX9_aboard 0 = .ok (.iconst 0, 1) := by decide +kernel
theorem dX9_aboard_1 : decode cX9_aboard 1 = .ok (.istore_n 1, 1) := by decide +kernel
theorem dX9_aboard_2 : decode cX9_aboard 2 = .ok (.iconst 0, 1) := by decide +kernel
theorem dX9_aboard_3 : decode cX9_aboard 3 = .ok (.istore_n 2, 1) := by decide +kernel
theorem dX9_aboard_4 : decode cX9_aboard 4 = .ok (.iload_n 2, 1) := by decide +kernel
theorem dX9_aboard_5 : decode cX9_aboard 5 = .ok (.aload_n 0, 1) := by decide +kernel
theorem dX9_aboard_6 : decode cX9_aboard 6 = .ok (.getfield 10, 3) := by decide +kernel
theorem dX9_aboard_9 : decode cX9_aboard 9 = .ok (.invokeinterface 33 1, 5) := by decide +kernel
theorem dX9_aboard_14 : decode cX9_aboard 14 = .ok (.if_icmp .ge 37, 3) := by decide +kernel
theorem dX9_aboard_17 : decode cX9_aboard 17 = .ok (.iload_n 1, 1) := by decide +kernel
theorem dX9_aboard_18 : decode cX9_aboard 18 = .ok (.aload_n 0, 1) := by decide +kernel
theorem dX9_aboard_19 : decode cX9_aboard 19 = .ok (.getfield 10, 3) := by decide +kernel
theorem dX9_aboard_22 : decode cX9_aboard 22 = .ok (.iload_n 2, 1) := by decide +kernel
theorem dX9_aboard_23 : decode cX9_aboard 23 = .ok (.invokeinterface 57 2, 5) := by decide +kernel
theorem dX9_aboard_28 : decode cX9_aboard 28 = .ok (.checkcast 44, 3) := by decide +kernel
theorem dX9_aboard_31 : decode cX9_aboard 31 = .ok (.getfield 65, 3) := by decide +kernel
theorem dX9_aboard_34 : decode cX9_aboard 34 = .ok (.iconst (-1), 1) := by decide +kernel
theorem dX9_aboard_35 : decode cX9_aboard 35 = .ok (.if_icmp .ne 7, 3) := by decide +kernel
theorem dX9_aboard_38 : decode cX9_aboard 38 = .ok (.iconst 0, 1) := by decide +kernel
theorem dX9_aboard_39 : decode cX9_aboard 39 = .ok (.goto 4, 3) := by decide +kernel
theorem dX9_aboard_42 : decode cX9_aboard 42 = .ok (.iconst 1, 1) := by decide +kernel
theorem dX9_aboard_43 : decode cX9_aboard 43 = .ok (.iadd, 1) := by decide +kernel
theorem dX9_aboard_44 : decode cX9_aboard 44 = .ok (.istore_n 1, 1) := by decide +kernel
theorem dX9_aboard_45 : decode cX9_aboard 45 = .ok (.iinc 2 1, 3) := by decide +kernel
theorem dX9_aboard_48 : decode cX9_aboard 48 = .ok (.goto (-44), 3) := by decide +kernel
theorem dX9_aboard_51 : decode cX9_aboard 51 = .ok (.iload_n 1, 1) := by decide +kernel
theorem dX9_aboard_52 : decode cX9_aboard 52 = .ok (.ireturn, 1) := by decide +kernel
theorem dX9_ground_0 : decode cX9_ground 0 = .ok (.aload_n 0, 1) := by decide +kernel
theorem dX9_ground_1 : decode cX9_ground 1 = .ok (.getfield 19, 3) := by decide +kernel
theorem dX9_ground_4 : decode cX9_ground 4 = .ok (.iconst 0, 1) := by decide +kernel
theorem dX9_ground_5 : decode cX9_ground 5 = .ok (.iaload, 1) := by decide +kernel
theorem dX9_ground_6 : decode cX9_ground 6 = .ok (.invokestatic 68, 3) := by decide +kernel
theorem dX9_ground_9 : decode cX9_ground 9 = .ok (.aload_n 0, 1) := by decide +kernel
theorem dX9_ground_10 : decode cX9_ground 10 = .ok (.getfield 23, 3) := by decide +kernel
theorem dX9_ground_13 : decode cX9_ground 13 = .ok (.iconst 0, 1) := by decide +kernel
theorem dX9_ground_14 : decode cX9_ground 14 = .ok (.iaload, 1) := by decide +kernel
theorem dX9_ground_15 : decode cX9_ground 15 = .ok (.invokestatic 68, 3) := by decide +kernel
theorem dX9_ground_18 : decode cX9_ground 18 = .ok (.iadd, 1) := by decide +kernel
theorem dX9_ground_19 : decode cX9_ground 19 = .ok (.ireturn, 1) := by decide +kernel
theorem dX9_isAhead_0 : decode cX9_isAhead 0 = .ok (.aload_n 0, 1) := by decide +kernel
theorem dX9_isAhead_1 : decode cX9_isAhead 1 = .ok (.getfield 10, 3) := by decide +kernel
theorem dX9_isAhead_4 : decode cX9_isAhead 4 = .ok (.iload_n 1, 1) := by decide +kernel
theorem dX9_isAhead_5 : decode cX9_isAhead 5 = .ok (.invokeinterface 57 2, 5) := by decide +kernel
theorem dX9_isAhead_10 : decode cX9_isAhead 10 = .ok (.checkcast 44, 3) := by decide +kernel
theorem dX9_isAhead_13 : decode cX9_isAhead 13 = .ok (.astore_n 3, 1) := by decide +kernel
theorem dX9_isAhead_14 : decode cX9_isAhead 14 = .ok (.aload_n 0, 1) := by decide +kernel
theorem dX9_isAhead_15 : decode cX9_isAhead 15 = .ok (.getfield 10, 3) := by decide +kernel
theorem dX9_isAhead_18 : decode cX9_isAhead 18 = .ok (.iload_n 2, 1) := by decide +kernel
theorem dX9_isAhead_19 : decode cX9_isAhead 19 = .ok (.invokeinterface 57 2, 5) := by decide +kernel
theorem dX9_isAhead_24 : decode cX9_isAhead 24 = .ok (.checkcast 44, 3) := by decide +kernel
theorem dX9_isAhead_27 : decode cX9_isAhead 27 = .ok (.astore 4, 2) := by decide +kernel
theorem dX9_isAhead_29 : decode cX9_isAhead 29 = .ok (.aload_n 3, 1) := by decide +kernel
theorem dX9_isAhead_30 : decode cX9_isAhead 30 = .ok (.getfield 74, 3) := by decide +kernel
theorem dX9_isAhead_33 : decode cX9_isAhead 33 = .ok (.ifCond .le 7, 3) := by decide +kernel
theorem dX9_isAhead_36 : decode cX9_isAhead 36 = .ok (.iconst 1, 1) := by decide +kernel
theorem dX9_isAhead_37 : decode cX9_isAhead 37 = .ok (.goto 4, 3) := by decide +kernel
theorem dX9_isAhead_40 : decode cX9_isAhead 40 = .ok (.iconst 0, 1) := by decide +kernel
theorem dX9_isAhead_41 : decode cX9_isAhead 41 = .ok (.aload 4, 2) := by decide +kernel
theorem dX9_isAhead_43 : decode cX9_isAhead 43 = .ok (.getfield 74, 3) := by decide +kernel
theorem dX9_isAhead_46 : decode cX9_isAhead 46 = .ok (.ifCond .le 7, 3) := by decide +kernel
theorem dX9_isAhead_49 : decode cX9_isAhead 49 = .ok (.iconst 1, 1) := by decide +kernel
theorem dX9_isAhead_50 : decode cX9_isAhead 50 = .ok (.goto 4, 3) := by decide +kernel
theorem dX9_isAhead_53 : decode cX9_isAhead 53 = .ok (.iconst 0, 1) := by decide +kernel
theorem dX9_isAhead_54 : decode cX9_isAhead 54 = .ok (.if_icmp .eq 16, 3) := by decide +kernel
theorem dX9_isAhead_57 : decode cX9_isAhead 57 = .ok (.aload_n 3, 1) := by decide +kernel
theorem dX9_isAhead_58 : decode cX9_isAhead 58 = .ok (.getfield 74, 3) := by decide +kernel
theorem dX9_isAhead_61 : decode cX9_isAhead 61 = .ok (.ifCond .le 7, 3) := by decide +kernel
theorem dX9_isAhead_64 : decode cX9_isAhead 64 = .ok (.iconst 1, 1) := by decide +kernel
theorem dX9_isAhead_65 : decode cX9_isAhead 65 = .ok (.goto 4, 3) := by decide +kernel
theorem dX9_isAhead_68 : decode cX9_isAhead 68 = .ok (.iconst 0, 1) := by decide +kernel
theorem dX9_isAhead_69 : decode cX9_isAhead 69 = .ok (.ireturn, 1) := by decide +kernel
theorem dX9_isAhead_70 : decode cX9_isAhead 70 = .ok (.aload_n 3, 1) := by decide +kernel
theorem dX9_isAhead_71 : decode cX9_isAhead 71 = .ok (.getfield 65, 3) := by decide +kernel
theorem dX9_isAhead_74 : decode cX9_isAhead 74 = .ok (.aload 4, 2) := by decide +kernel
theorem dX9_isAhead_76 : decode cX9_isAhead 76 = .ok (.getfield 65, 3) := by decide +kernel
theorem dX9_isAhead_79 : decode cX9_isAhead 79 = .ok (.if_icmp .eq 21, 3) := by decide +kernel
theorem dX9_isAhead_82 : decode cX9_isAhead 82 = .ok (.aload_n 3, 1) := by decide +kernel
theorem dX9_isAhead_83 : decode cX9_isAhead 83 = .ok (.getfield 65, 3) := by decide +kernel
theorem dX9_isAhead_86 : decode cX9_isAhead 86 = .ok (.aload 4, 2) := by decide +kernel
theorem dX9_isAhead_88 : decode cX9_isAhead 88 = .ok (.getfield 65, 3) := by decide +kernel
theorem dX9_isAhead_91 : decode cX9_isAhead 91 = .ok (.if_icmp .ge 7, 3) := by decide +kernel
theorem dX9_isAhead_94 : decode cX9_isAhead 94 = .ok (.iconst 1, 1) := by decide +kernel
theorem dX9_isAhead_95 : decode cX9_isAhead 95 = .ok (.goto 4, 3) := by decide +kernel
theorem dX9_isAhead_98 : decode cX9_isAhead 98 = .ok (.iconst 0, 1) := by decide +kernel
theorem dX9_isAhead_99 : decode cX9_isAhead 99 = .ok (.ireturn, 1) := by decide +kernel
theorem dX9_isAhead_100 : decode cX9_isAhead 100 = .ok (.aload_n 0, 1) := by decide +kernel
theorem dX9_isAhead_101 : decode cX9_isAhead 101 = .ok (.aload_n 3, 1) := by decide +kernel
theorem dX9_isAhead_102 : decode cX9_isAhead 102 = .ok (.invokevirtual 77, 3) := by decide +kernel
theorem dX9_isAhead_105 : decode cX9_isAhead 105 = .ok (.aload_n 0, 1) := by decide +kernel
theorem dX9_isAhead_106 : decode cX9_isAhead 106 = .ok (.aload 4, 2) := by decide +kernel
theorem dX9_isAhead_108 : decode cX9_isAhead 108 = .ok (.invokevirtual 77, 3) := by decide +kernel
theorem dX9_isAhead_111 : decode cX9_isAhead 111 = .ok (.fcmp .l, 1) := by decide +kernel
theorem dX9_isAhead_112 : decode cX9_isAhead 112 = .ok (.ifCond .gt 23, 3) := by decide +kernel
theorem dX9_isAhead_115 : decode cX9_isAhead 115 = .ok (.aload_n 0, 1) := by decide +kernel
theorem dX9_isAhead_116 : decode cX9_isAhead 116 = .ok (.aload_n 3, 1) := by decide +kernel
theorem dX9_isAhead_117 : decode cX9_isAhead 117 = .ok (.invokevirtual 77, 3) := by decide +kernel
theorem dX9_isAhead_120 : decode cX9_isAhead 120 = .ok (.aload_n 0, 1) := by decide +kernel
theorem dX9_isAhead_121 : decode cX9_isAhead 121 = .ok (.aload 4, 2) := by decide +kernel
theorem dX9_isAhead_123 : decode cX9_isAhead 123 = .ok (.invokevirtual 77, 3) := by decide +kernel
theorem dX9_isAhead_126 : decode cX9_isAhead 126 = .ok (.fcmp .l, 1) := by decide +kernel
theorem dX9_isAhead_127 : decode cX9_isAhead 127 = .ok (.ifCond .ne 12, 3) := by decide +kernel
theorem dX9_isAhead_130 : decode cX9_isAhead 130 = .ok (.iload_n 1, 1) := by decide +kernel
theorem dX9_isAhead_131 : decode cX9_isAhead 131 = .ok (.iload_n 2, 1) := by decide +kernel
theorem dX9_isAhead_132 : decode cX9_isAhead 132 = .ok (.if_icmp .ge 7, 3) := by decide +kernel
theorem dX9_isAhead_135 : decode cX9_isAhead 135 = .ok (.iconst 1, 1) := by decide +kernel
theorem dX9_isAhead_136 : decode cX9_isAhead 136 = .ok (.goto 4, 3) := by decide +kernel
theorem dX9_isAhead_139 : decode cX9_isAhead 139 = .ok (.iconst 0, 1) := by decide +kernel
theorem dX9_isAhead_140 : decode cX9_isAhead 140 = .ok (.ireturn, 1) := by decide +kernel
theorem dX9_placeOf_0 : decode cX9_placeOf 0 = .ok (.iconst 0, 1) := by decide +kernel
theorem dX9_placeOf_1 : decode cX9_placeOf 1 = .ok (.istore_n 2, 1) := by decide +kernel
theorem dX9_placeOf_2 : decode cX9_placeOf 2 = .ok (.iconst 0, 1) := by decide +kernel
theorem dX9_placeOf_3 : decode cX9_placeOf 3 = .ok (.istore_n 3, 1) := by decide +kernel
theorem dX9_placeOf_4 : decode cX9_placeOf 4 = .ok (.iload_n 3, 1) := by decide +kernel
theorem dX9_placeOf_5 : decode cX9_placeOf 5 = .ok (.aload_n 0, 1) := by decide +kernel
theorem dX9_placeOf_6 : decode cX9_placeOf 6 = .ok (.getfield 10, 3) := by decide +kernel
theorem dX9_placeOf_9 : decode cX9_placeOf 9 = .ok (.invokeinterface 33 1, 5) := by decide +kernel
theorem dX9_placeOf_14 : decode cX9_placeOf 14 = .ok (.if_icmp .ge 51, 3) := by decide +kernel
theorem dX9_placeOf_17 : decode cX9_placeOf 17 = .ok (.iload_n 2, 1) := by decide +kernel
theorem dX9_placeOf_18 : decode cX9_placeOf 18 = .ok (.iload_n 3, 1) := by decide +kernel
theorem dX9_placeOf_19 : decode cX9_placeOf 19 = .ok (.iload_n 1, 1) := by decide +kernel
theorem dX9_placeOf_20 : decode cX9_placeOf 20 = .ok (.if_icmp .eq 36, 3) := by decide +kernel
theorem dX9_placeOf_23 : decode cX9_placeOf 23 = .ok (.aload_n 0, 1) := by decide +kernel
theorem dX9_placeOf_24 : decode cX9_placeOf 24 = .ok (.getfield 10, 3) := by decide +kernel
theorem dX9_placeOf_27 : decode cX9_placeOf 27 = .ok (.iload_n 3, 1) := by decide +kernel
theorem dX9_placeOf_28 : decode cX9_placeOf 28 = .ok (.invokeinterface 57 2, 5) := by decide +kernel
theorem dX9_placeOf_33 : decode cX9_placeOf 33 = .ok (.checkcast 44, 3) := by decide +kernel
theorem dX9_placeOf_36 : decode cX9_placeOf 36 = .ok (.getfield 65, 3) := by decide +kernel
theorem dX9_placeOf_39 : decode cX9_placeOf 39 = .ok (.iconst (-1), 1) := by decide +kernel
theorem dX9_placeOf_40 : decode cX9_placeOf 40 = .ok (.if_icmp .eq 16, 3) := by decide +kernel
theorem dX9_placeOf_43 : decode cX9_placeOf 43 = .ok (.aload_n 0, 1) := by decide +kernel
theorem dX9_placeOf_44 : decode cX9_placeOf 44 = .ok (.iload_n 3, 1) := by decide +kernel
theorem dX9_placeOf_45 : decode cX9_placeOf 45 = .ok (.iload_n 1, 1) := by decide +kernel
theorem dX9_placeOf_46 : decode cX9_placeOf 46 = .ok (.invokevirtual 80, 3) := by decide +kernel
theorem dX9_placeOf_49 : decode cX9_placeOf 49 = .ok (.ifCond .eq 7, 3) := by decide +kernel
theorem dX9_placeOf_52 : decode cX9_placeOf 52 = .ok (.iconst 1, 1) := by decide +kernel
theorem dX9_placeOf_53 : decode cX9_placeOf 53 = .ok (.goto 4, 3) := by decide +kernel
theorem dX9_placeOf_56 : decode cX9_placeOf 56 = .ok (.iconst 0, 1) := by decide +kernel
theorem dX9_placeOf_57 : decode cX9_placeOf 57 = .ok (.iadd, 1) := by decide +kernel
theorem dX9_placeOf_58 : decode cX9_placeOf 58 = .ok (.istore_n 2, 1) := by decide +kernel
theorem dX9_placeOf_59 : decode cX9_placeOf 59 = .ok (.iinc 3 1, 3) := by decide +kernel
theorem dX9_placeOf_62 : decode cX9_placeOf 62 = .ok (.goto (-58), 3) := by decide +kernel
theorem dX9_placeOf_65 : decode cX9_placeOf 65 = .ok (.aload_n 0, 1) := by decide +kernel
theorem dX9_placeOf_66 : decode cX9_placeOf 66 = .ok (.getfield 10, 3) := by decide +kernel
theorem dX9_placeOf_69 : decode cX9_placeOf 69 = .ok (.iload_n 1, 1) := by decide +kernel
theorem dX9_placeOf_70 : decode cX9_placeOf 70 = .ok (.invokeinterface 57 2, 5) := by decide +kernel
theorem dX9_placeOf_75 : decode cX9_placeOf 75 = .ok (.checkcast 44, 3) := by decide +kernel
theorem dX9_placeOf_78 : decode cX9_placeOf 78 = .ok (.getfield 65, 3) := by decide +kernel
theorem dX9_placeOf_81 : decode cX9_placeOf 81 = .ok (.iconst (-1), 1) := by decide +kernel
theorem dX9_placeOf_82 : decode cX9_placeOf 82 = .ok (.if_icmp .ne 7, 3) := by decide +kernel
theorem dX9_placeOf_85 : decode cX9_placeOf 85 = .ok (.iconst (-1), 1) := by decide +kernel
theorem dX9_placeOf_86 : decode cX9_placeOf 86 = .ok (.goto 4, 3) := by decide +kernel
theorem dX9_placeOf_89 : decode cX9_placeOf 89 = .ok (.iload_n 2, 1) := by decide +kernel
theorem dX9_placeOf_90 : decode cX9_placeOf 90 = .ok (.ireturn, 1) := by decide +kernel
theorem dX9_at_0 : decode cX9_at 0 = .ok (.iconst 0, 1) := by decide +kernel
theorem dX9_at_1 : decode cX9_at 1 = .ok (.istore_n 2, 1) := by decide +kernel
theorem dX9_at_2 : decode cX9_at 2 = .ok (.iload_n 2, 1) := by decide +kernel
theorem dX9_at_3 : decode cX9_at 3 = .ok (.aload_n 0, 1) := by decide +kernel
theorem dX9_at_4 : decode cX9_at 4 = .ok (.getfield 10, 3) := by decide +kernel
theorem dX9_at_7 : decode cX9_at 7 = .ok (.invokeinterface 33 1, 5) := by decide +kernel
theorem dX9_at_12 : decode cX9_at 12 = .ok (.if_icmp .ge 20, 3) := by decide +kernel
theorem dX9_at_15 : decode cX9_at 15 = .ok (.aload_n 0, 1) := by decide +kernel
theorem dX9_at_16 : decode cX9_at 16 = .ok (.iload_n 2, 1) := by decide +kernel
theorem dX9_at_17 : decode cX9_at 17 = .ok (.invokevirtual 84, 3) := by decide +kernel
theorem dX9_at_20 : decode cX9_at 20 = .ok (.iload_n 1, 1) := by decide +kernel
theorem dX9_at_21 : decode cX9_at 21 = .ok (.if_icmp .ne 5, 3) := by decide +kernel
theorem dX9_at_24 : decode cX9_at 24 = .ok (.iload_n 2, 1) := by decide +kernel
theorem dX9_at_25 : decode cX9_at 25 = .ok (.ireturn, 1) := by decide +kernel
theorem dX9_at_26 : decode cX9_at 26 = .ok (.iinc 2 1, 3) := by decide +kernel
theorem dX9_at_29 : decode cX9_at 29 = .ok (.goto (-27), 3) := by decide +kernel
theorem dX9_at_32 : decode cX9_at 32 = .ok (.iconst (-1), 1) := by decide +kernel
theorem dX9_at_33 : decode cX9_at 33 = .ok (.ireturn, 1) := by decide +kernel
theorem dX9_flight_0 : decode cX9_flight 0 = .ok (.new 7, 3) := by decide +kernel
theorem dX9_flight_3 : decode cX9_flight 3 = .ok (.dup, 1) := by decide +kernel
theorem dX9_flight_4 : decode cX9_flight 4 = .ok (.invokespecial 9, 3) := by decide +kernel
theorem dX9_flight_7 : decode cX9_flight 7 = .ok (.astore_n 3, 1) := by decide +kernel
theorem dX9_flight_8 : decode cX9_flight 8 = .ok (.iconst 0, 1) := by decide +kernel
theorem dX9_flight_9 : decode cX9_flight 9 = .ok (.istore 4, 2) := by decide +kernel
theorem dX9_flight_11 : decode cX9_flight 11 = .ok (.iload 4, 2) := by decide +kernel
theorem dX9_flight_13 : decode cX9_flight 13 = .ok (.aload_n 0, 1) := by decide +kernel
theorem dX9_flight_14 : decode cX9_flight 14 = .ok (.invokevirtual 87, 3) := by decide +kernel
theorem dX9_flight_17 : decode cX9_flight 17 = .ok (.if_icmp .ge 81, 3) := by decide +kernel
theorem dX9_flight_20 : decode cX9_flight 20 = .ok (.aload_n 0, 1) := by decide +kernel
theorem dX9_flight_21 : decode cX9_flight 21 = .ok (.getfield 10, 3) := by decide +kernel
theorem dX9_flight_24 : decode cX9_flight 24 = .ok (.aload_n 0, 1) := by decide +kernel
theorem dX9_flight_25 : decode cX9_flight 25 = .ok (.iload 4, 2) := by decide +kernel
theorem dX9_flight_27 : decode cX9_flight 27 = .ok (.invokevirtual 90, 3) := by decide +kernel
theorem dX9_flight_30 : decode cX9_flight 30 = .ok (.invokeinterface 57 2, 5) := by decide +kernel
theorem dX9_flight_35 : decode cX9_flight 35 = .ok (.checkcast 44, 3) := by decide +kernel
theorem dX9_flight_38 : decode cX9_flight 38 = .ok (.astore 5, 2) := by decide +kernel
theorem dX9_flight_40 : decode cX9_flight 40 = .ok (.aload_n 3, 1) := by decide +kernel
theorem dX9_flight_41 : decode cX9_flight 41 = .ok (.new 93, 3) := by decide +kernel
theorem dX9_flight_44 : decode cX9_flight 44 = .ok (.dup, 1) := by decide +kernel
theorem dX9_flight_45 : decode cX9_flight 45 = .ok (.aload_n 0, 1) := by decide +kernel
theorem dX9_flight_46 : decode cX9_flight 46 = .ok (.aload 5, 2) := by decide +kernel
theorem dX9_flight_48 : decode cX9_flight 48 = .ok (.aload 5, 2) := by decide +kernel
theorem dX9_flight_50 : decode cX9_flight 50 = .ok (.getfield 65, 3) := by decide +kernel
theorem dX9_flight_53 : decode cX9_flight 53 = .ok (.aload 5, 2) := by decide +kernel
theorem dX9_flight_55 : decode cX9_flight 55 = .ok (.getfield 95, 3) := by decide +kernel
theorem dX9_flight_58 : decode cX9_flight 58 = .ok (.iload 4, 2) := by decide +kernel
theorem dX9_flight_60 : decode cX9_flight 60 = .ok (.iload_n 2, 1) := by decide +kernel
theorem dX9_flight_61 : decode cX9_flight 61 = .ok (.imul, 1) := by decide +kernel
theorem dX9_flight_62 : decode cX9_flight 62 = .ok (.iload_n 1, 1) := by decide +kernel
theorem dX9_flight_63 : decode cX9_flight 63 = .ok (.i2d, 1) := by decide +kernel
theorem dX9_flight_64 : decode cX9_flight 64 = .ok (.iload 4, 2) := by decide +kernel
theorem dX9_flight_66 : decode cX9_flight 66 = .ok (.iload_n 2, 1) := by decide +kernel
theorem dX9_flight_67 : decode cX9_flight 67 = .ok (.imul, 1) := by decide +kernel
theorem dX9_flight_68 : decode cX9_flight 68 = .ok (.i2d, 1) := by decide +kernel
theorem dX9_flight_69 : decode cX9_flight 69 = .ok (.ldc2_w 98, 3) := by decide +kernel
theorem dX9_flight_72 : decode cX9_flight 72 = .ok (.aload_n 0, 1) := by decide +kernel
theorem dX9_flight_73 : decode cX9_flight 73 = .ok (.getfield 19, 3) := by decide +kernel
theorem dX9_flight_76 : decode cX9_flight 76 = .ok (.bipush 9, 2) := by decide +kernel
theorem dX9_flight_78 : decode cX9_flight 78 = .ok (.iaload, 1) := by decide +kernel
theorem dX9_flight_79 : decode cX9_flight 79 = .ok (.i2d, 1) := by decide +kernel
theorem dX9_flight_80 : decode cX9_flight 80 = .ok (.dsub, 1) := by decide +kernel
theorem dX9_flight_81 : decode cX9_flight 81 = .ok (.dmul, 1) := by decide +kernel
theorem dX9_flight_82 : decode cX9_flight 82 = .ok (.dadd, 1) := by decide +kernel
theorem dX9_flight_83 : decode cX9_flight 83 = .ok (.invokespecial 100, 3) := by decide +kernel
theorem dX9_flight_86 : decode cX9_flight 86 = .ok (.invokeinterface 103 2, 5) := by decide +kernel
theorem dX9_flight_91 : decode cX9_flight 91 = .ok (.pop, 1) := by decide +kernel
theorem dX9_flight_92 : decode cX9_flight 92 = .ok (.iinc 4 1, 3) := by decide +kernel
theorem dX9_flight_95 : decode cX9_flight 95 = .ok (.goto (-84), 3) := by decide +kernel
theorem dX9_flight_98 : decode cX9_flight 98 = .ok (.aload_n 3, 1) := by decide +kernel
theorem dX9_flight_99 : decode cX9_flight 99 = .ok (.areturn, 1) := by decide +kernel
theorem dX9_go_0 : decode cX9_go 0 = .ok (.aload_n 0, 1) := by decide +kernel
theorem dX9_go_1 : decode cX9_go 1 = .ok (.invokeinterface 33 1, 5) := by decide +kernel
theorem dX9_go_6 : decode cX9_go 6 = .ok (.aload_n 0, 1) := by decide +kernel
theorem dX9_go_7 : decode cX9_go 7 = .ok (.invokeinterface 33 1, 5) := by decide +kernel
theorem dX9_go_12 : decode cX9_go 12 = .ok (.multianewarray 107 2, 4) := by decide +kernel
theorem dX9_go_16 : decode cX9_go 16 = .ok (.astore_n 1, 1) := by decide +kernel
theorem dX9_go_17 : decode cX9_go 17 = .ok (.iconst 0, 1) := by decide +kernel
theorem dX9_go_18 : decode cX9_go 18 = .ok (.istore_n 2, 1) := by decide +kernel
theorem dX9_go_19 : decode cX9_go 19 = .ok (.iconst 0, 1) := by decide +kernel
theorem dX9_go_20 : decode cX9_go 20 = .ok (.istore_n 3, 1) := by decide +kernel
theorem dX9_go_21 : decode cX9_go 21 = .ok (.iconst 0, 1) := by decide +kernel
theorem dX9_go_22 : decode cX9_go 22 = .ok (.istore 4, 2) := by decide +kernel
theorem dX9_go_24 : decode cX9_go 24 = .ok (.iload_n 3, 1) := by decide +kernel
theorem dX9_go_25 : decode cX9_go 25 = .ok (.aload_n 0, 1) := by decide +kernel
theorem dX9_go_26 : decode cX9_go 26 = .ok (.invokeinterface 33 1, 5) := by decide +kernel
theorem dX9_go_31 : decode cX9_go 31 = .ok (.if_icmp .ge 171, 3) := by decide +kernel
theorem dX9_go_34 : decode cX9_go 34 = .ok (.iconst 0, 1) := by decide +kernel
theorem dX9_go_35 : decode cX9_go 35 = .ok (.istore_n 3, 1) := by decide +kernel
theorem dX9_go_36 : decode cX9_go 36 = .ok (.iconst 0, 1) := by decide +kernel
theorem dX9_go_37 : decode cX9_go 37 = .ok (.istore 5, 2) := by decide +kernel
theorem dX9_go_39 : decode cX9_go 39 = .ok (.iload 5, 2) := by decide +kernel
theorem dX9_go_41 : decode cX9_go 41 = .ok (.aload_n 0, 1) := by decide +kernel
theorem dX9_go_42 : decode cX9_go 42 = .ok (.invokeinterface 33 1, 5) := by decide +kernel
theorem dX9_go_47 : decode cX9_go 47 = .ok (.if_icmp .ge 61, 3) := by decide +kernel
theorem dX9_go_50 : decode cX9_go 50 = .ok (.aload_n 0, 1) := by decide +kernel
theorem dX9_go_51 : decode cX9_go 51 = .ok (.iload 5, 2) := by decide +kernel
theorem dX9_go_53 : decode cX9_go 53 = .ok (.invokeinterface 57 2, 5) := by decide +kernel
theorem dX9_go_58 : decode cX9_go 58 = .ok (.checkcast 93, 3) := by decide +kernel
theorem dX9_go_61 : decode cX9_go 61 = .ok (.astore 6, 2) := by decide +kernel
theorem dX9_go_63 : decode cX9_go 63 = .ok (.aload 6, 2) := by decide +kernel
theorem dX9_go_65 : decode cX9_go 65 = .ok (.getfield 109, 3) := by decide +kernel
theorem dX9_go_68 : decode cX9_go 68 = .ok (.iload 4, 2) := by decide +kernel
theorem dX9_go_70 : decode cX9_go 70 = .ok (.if_icmp .gt 16, 3) := by decide +kernel
theorem dX9_go_73 : decode cX9_go 73 = .ok (.aload 6, 2) := by decide +kernel
theorem dX9_go_75 : decode cX9_go 75 = .ok (.invokevirtual 112, 3) := by decide +kernel
theorem dX9_go_78 : decode cX9_go 78 = .ok (.ifCond .ne 8, 3) := by decide +kernel
theorem dX9_go_81 : decode cX9_go 81 = .ok (.aload 6, 2) := by decide +kernel
theorem dX9_go_83 : decode cX9_go 83 = .ok (.invokevirtual 116, 3) := by decide +kernel
theorem dX9_go_86 : decode cX9_go 86 = .ok (.iload_n 3, 1) := by decide +kernel
theorem dX9_go_87 : decode cX9_go 87 = .ok (.aload 6, 2) := by decide +kernel
theorem dX9_go_89 : decode cX9_go 89 = .ok (.invokevirtual 112, 3) := by decide +kernel
theorem dX9_go_92 : decode cX9_go 92 = .ok (.ifCond .eq 7, 3) := by decide +kernel
theorem dX9_go_95 : decode cX9_go 95 = .ok (.iconst 1, 1) := by decide +kernel
theorem dX9_go_96 : decode cX9_go 96 = .ok (.goto 4, 3) := by decide +kernel
theorem dX9_go_99 : decode cX9_go 99 = .ok (.iconst 0, 1) := by decide +kernel
theorem dX9_go_100 : decode cX9_go 100 = .ok (.iadd, 1) := by decide +kernel
theorem dX9_go_101 : decode cX9_go 101 = .ok (.istore_n 3, 1) := by decide +kernel
theorem dX9_go_102 : decode cX9_go 102 = .ok (.iinc 5 1, 3) := by decide +kernel
theorem dX9_go_105 : decode cX9_go 105 = .ok (.goto (-66), 3) := by decide +kernel
theorem dX9_go_108 : decode cX9_go 108 = .ok (.iconst 0, 1) := by decide +kernel
theorem dX9_go_109 : decode cX9_go 109 = .ok (.istore 5, 2) := by decide +kernel
theorem dX9_go_111 : decode cX9_go 111 = .ok (.iload 5, 2) := by decide +kernel
theorem dX9_go_113 : decode cX9_go 113 = .ok (.aload_n 0, 1) := by decide +kernel
theorem dX9_go_114 : decode cX9_go 114 = .ok (.invokeinterface 33 1, 5) := by decide +kernel
theorem dX9_go_119 : decode cX9_go 119 = .ok (.if_icmp .ge 77, 3) := by decide +kernel
theorem dX9_go_122 : decode cX9_go 122 = .ok (.iconst 0, 1) := by decide +kernel
theorem dX9_go_123 : decode cX9_go 123 = .ok (.istore 6, 2) := by decide +kernel
theorem dX9_go_125 : decode cX9_go 125 = .ok (.iload 6, 2) := by decide +kernel
theorem dX9_go_127 : decode cX9_go 127 = .ok (.iload 5, 2) := by decide +kernel
theorem dX9_go_129 : decode cX9_go 129 = .ok (.if_icmp .ge 61, 3) := by decide +kernel
theorem dX9_go_132 : decode cX9_go 132 = .ok (.aload_n 1, 1) := by decide +kernel
theorem dX9_go_133 : decode cX9_go 133 = .ok (.iload 5, 2) := by decide +kernel
theorem dX9_go_135 : decode cX9_go 135 = .ok (.aaload, 1) := by decide +kernel
theorem dX9_go_136 : decode cX9_go 136 = .ok (.iload 6, 2) := by decide +kernel
theorem dX9_go_138 : decode cX9_go 138 = .ok (.baload, 1) := by decide +kernel
theorem dX9_go_139 : decode cX9_go 139 = .ok (.ifCond .ne 45, 3) := by decide +kernel
theorem dX9_go_142 : decode cX9_go 142 = .ok (.aload_n 0, 1) := by decide +kernel
theorem dX9_go_143 : decode cX9_go 143 = .ok (.iload 5, 2) := by decide +kernel
theorem dX9_go_145 : decode cX9_go 145 = .ok (.invokeinterface 57 2, 5) := by decide +kernel
theorem dX9_go_150 : decode cX9_go 150 = .ok (.checkcast 93, 3) := by decide +kernel
theorem dX9_go_153 : decode cX9_go 153 = .ok (.aload_n 0, 1) := by decide +kernel
theorem dX9_go_154 : decode cX9_go 154 = .ok (.iload 6, 2) := by decide +kernel
theorem dX9_go_156 : decode cX9_go 156 = .ok (.invokeinterface 57 2, 5) := by decide +kernel
theorem dX9_go_161 : decode cX9_go 161 = .ok (.checkcast 93, 3) := by decide +kernel
theorem dX9_go_164 : decode cX9_go 164 = .ok (.invokevirtual 119, 3) := by decide +kernel
theorem dX9_go_167 : decode cX9_go 167 = .ok (.ifCond .ne 6, 3) := by decide +kernel
theorem dX9_go_170 : decode cX9_go 170 = .ok (.goto 14, 3) := by decide +kernel
theorem dX9_go_173 : decode cX9_go 173 = .ok (.aload_n 1, 1) := by decide +kernel
theorem dX9_go_174 : decode cX9_go 174 = .ok (.iload 5, 2) := by decide +kernel
theorem dX9_go_176 : decode cX9_go 176 = .ok (.aaload, 1) := by decide +kernel
theorem dX9_go_177 : decode cX9_go 177 = .ok (.iload 6, 2) := by decide +kernel
theorem dX9_go_179 : decode cX9_go 179 = .ok (.iconst 1, 1) := by decide +kernel
theorem dX9_go_180 : decode cX9_go 180 = .ok (.bastore, 1) := by decide +kernel
theorem dX9_go_181 : decode cX9_go 181 = .ok (.iinc 2 1, 3) := by decide +kernel
theorem dX9_go_184 : decode cX9_go 184 = .ok (.iinc 6 1, 3) := by decide +kernel
theorem dX9_go_187 : decode cX9_go 187 = .ok (.goto (-62), 3) := by decide +kernel
theorem dX9_go_190 : decode cX9_go 190 = .ok (.iinc 5 1, 3) := by decide +kernel
theorem dX9_go_193 : decode cX9_go 193 = .ok (.goto (-82), 3) := by decide +kernel
theorem dX9_go_196 : decode cX9_go 196 = .ok (.iinc 4 1, 3) := by decide +kernel
theorem dX9_go_199 : decode cX9_go 199 = .ok (.goto (-175), 3) := by decide +kernel
theorem dX9_go_202 : decode cX9_go 202 = .ok (.iload_n 2, 1) := by decide +kernel
theorem dX9_go_203 : decode cX9_go 203 = .ok (.ireturn, 1) := by decide +kernel
theorem dX9_points_0 : decode cX9_points 0 = .ok (.iconst 0, 1) := by decide +kernel
theorem dX9_points_1 : decode cX9_points 1 = .ok (.istore_n 1, 1) := by decide +kernel
theorem dX9_points_2 : decode cX9_points 2 = .ok (.iconst 0, 1) := by decide +kernel
theorem dX9_points_3 : decode cX9_points 3 = .ok (.istore_n 2, 1) := by decide +kernel
theorem dX9_points_4 : decode cX9_points 4 = .ok (.iload_n 2, 1) := by decide +kernel
theorem dX9_points_5 : decode cX9_points 5 = .ok (.aload_n 0, 1) := by decide +kernel
theorem dX9_points_6 : decode cX9_points 6 = .ok (.invokeinterface 33 1, 5) := by decide +kernel
theorem dX9_points_11 : decode cX9_points 11 = .ok (.if_icmp .ge 25, 3) := by decide +kernel
theorem dX9_points_14 : decode cX9_points 14 = .ok (.iload_n 1, 1) := by decide +kernel
theorem dX9_points_15 : decode cX9_points 15 = .ok (.aload_n 0, 1) := by decide +kernel
theorem dX9_points_16 : decode cX9_points 16 = .ok (.iload_n 2, 1) := by decide +kernel
theorem dX9_points_17 : decode cX9_points 17 = .ok (.invokeinterface 57 2, 5) := by decide +kernel
theorem dX9_points_22 : decode cX9_points 22 = .ok (.checkcast 93, 3) := by decide +kernel
theorem dX9_points_25 : decode cX9_points 25 = .ok (.invokevirtual 123, 3) := by decide +kernel
theorem dX9_points_28 : decode cX9_points 28 = .ok (.iadd, 1) := by decide +kernel
theorem dX9_points_29 : decode cX9_points 29 = .ok (.istore_n 1, 1) := by decide +kernel
theorem dX9_points_30 : decode cX9_points 30 = .ok (.iinc 2 1, 3) := by decide +kernel
theorem dX9_points_33 : decode cX9_points 33 = .ok (.goto (-29), 3) := by decide +kernel
theorem dX9_points_36 : decode cX9_points 36 = .ok (.iload_n 1, 1) := by decide +kernel
theorem dX9_points_37 : decode cX9_points 37 = .ok (.ireturn, 1) := by decide +kernel
theorem dX9_jumper_0 : decode cX9_jumper 0 = .ok (.aload_n 0, 1) := by decide +kernel
theorem dX9_jumper_1 : decode cX9_jumper 1 = .ok (.iconst 0, 1) := by decide +kernel
theorem dX9_jumper_2 : decode cX9_jumper 2 = .ok (.putfield 30, 3) := by decide +kernel
theorem dX9_jumper_5 : decode cX9_jumper 5 = .ok (.iload_n 1, 1) := by decide +kernel
theorem dX9_jumper_6 : decode cX9_jumper 6 = .ok (.bipush 50, 2) := by decide +kernel
theorem dX9_jumper_8 : decode cX9_jumper 8 = .ok (.sipush 130, 3) := by decide +kernel
theorem dX9_jumper_11 : decode cX9_jumper 11 = .ok (.invokestatic 39, 3) := by decide +kernel
theorem dX9_jumper_14 : decode cX9_jumper 14 = .ok (.ifCond .eq 12, 3) := by decide +kernel
theorem dX9_jumper_17 : decode cX9_jumper 17 = .ok (.iload_n 2, 1) := by decide +kernel
theorem dX9_jumper_18 : decode cX9_jumper 18 = .ok (.iconst 0, 1) := by decide +kernel
theorem dX9_jumper_19 : decode cX9_jumper 19 = .ok (.iconst 3, 1) := by decide +kernel
theorem dX9_jumper_20 : decode cX9_jumper 20 = .ok (.invokestatic 39, 3) := by decide +kernel
theorem dX9_jumper_23 : decode cX9_jumper 23 = .ok (.ifCond .ne 9, 3) := by decide +kernel
theorem dX9_jumper_26 : decode cX9_jumper 26 = .ok (.aload_n 0, 1) := by decide +kernel
theorem dX9_jumper_27 : decode cX9_jumper 27 = .ok (.iconst 1, 1) := by decide +kernel
theorem dX9_jumper_28 : decode cX9_jumper 28 = .ok (.invokevirtual 126, 3) := by decide +kernel
theorem dX9_jumper_31 : decode cX9_jumper 31 = .ok (.ireturn, 1) := by decide +kernel
theorem dX9_jumper_32 : decode cX9_jumper 32 = .ok (.aload_n 0, 1) := by decide +kernel
theorem dX9_jumper_33 : decode cX9_jumper 33 = .ok (.getfield 10, 3) := by decide +kernel
theorem dX9_jumper_36 : decode cX9_jumper 36 = .ok (.invokeinterface 33 1, 5) := by decide +kernel
theorem dX9_jumper_41 : decode cX9_jumper 41 = .ok (.bipush 8, 2) := by decide +kernel
theorem dX9_jumper_43 : decode cX9_jumper 43 = .ok (.if_icmp .ne 9, 3) := by decide +kernel
theorem dX9_jumper_46 : decode cX9_jumper 46 = .ok (.aload_n 0, 1) := by decide +kernel
theorem dX9_jumper_47 : decode cX9_jumper 47 = .ok (.iconst 2, 1) := by decide +kernel
theorem dX9_jumper_48 : decode cX9_jumper 48 = .ok (.invokevirtual 126, 3) := by decide +kernel
theorem dX9_jumper_51 : decode cX9_jumper 51 = .ok (.ireturn, 1) := by decide +kernel
theorem dX9_jumper_52 : decode cX9_jumper 52 = .ok (.aload_n 0, 1) := by decide +kernel
theorem dX9_jumper_53 : decode cX9_jumper 53 = .ok (.getfield 10, 3) := by decide +kernel
theorem dX9_jumper_56 : decode cX9_jumper 56 = .ok (.new 44, 3) := by decide +kernel
theorem dX9_jumper_59 : decode cX9_jumper 59 = .ok (.dup, 1) := by decide +kernel
theorem dX9_jumper_60 : decode cX9_jumper 60 = .ok (.iload_n 1, 1) := by decide +kernel
theorem dX9_jumper_61 : decode cX9_jumper 61 = .ok (.iload_n 2, 1) := by decide +kernel
theorem dX9_jumper_62 : decode cX9_jumper 62 = .ok (.aload_n 0, 1) := by decide +kernel
theorem dX9_jumper_63 : decode cX9_jumper 63 = .ok (.getfield 129, 3) := by decide +kernel
theorem dX9_jumper_66 : decode cX9_jumper 66 = .ok (.invokespecial 132, 3) := by decide +kernel
theorem dX9_jumper_69 : decode cX9_jumper 69 = .ok (.invokeinterface 103 2, 5) := by decide +kernel
theorem dX9_jumper_74 : decode cX9_jumper 74 = .ok (.pop, 1) := by decide +kernel
theorem dX9_jumper_75 : decode cX9_jumper 75 = .ok (.aload_n 0, 1) := by decide +kernel
theorem dX9_jumper_76 : decode cX9_jumper 76 = .ok (.getfield 10, 3) := by decide +kernel
theorem dX9_jumper_79 : decode cX9_jumper 79 = .ok (.invokeinterface 33 1, 5) := by decide +kernel
theorem dX9_jumper_84 : decode cX9_jumper 84 = .ok (.iconst 1, 1) := by decide +kernel
theorem dX9_jumper_85 : decode cX9_jumper 85 = .ok (.isub, 1) := by decide +kernel
theorem dX9_jumper_86 : decode cX9_jumper 86 = .ok (.ireturn, 1) := by decide +kernel
theorem dX9_rig_0 : decode cX9_rig 0 = .ok (.aload_n 0, 1) := by decide +kernel
theorem dX9_rig_1 : decode cX9_rig 1 = .ok (.iconst 0, 1) := by decide +kernel
theorem dX9_rig_2 : decode cX9_rig 2 = .ok (.putfield 30, 3) := by decide +kernel
theorem dX9_rig_5 : decode cX9_rig 5 = .ok (.iload_n 1, 1) := by decide +kernel
theorem dX9_rig_6 : decode cX9_rig 6 = .ok (.bipush 80, 2) := by decide +kernel
theorem dX9_rig_8 : decode cX9_rig 8 = .ok (.sipush 300, 3) := by decide +kernel
theorem dX9_rig_11 : decode cX9_rig 11 = .ok (.invokestatic 39, 3) := by decide +kernel
theorem dX9_rig_14 : decode cX9_rig 14 = .ok (.ifCond .eq 13, 3) := by decide +kernel
theorem dX9_rig_17 : decode cX9_rig 17 = .ok (.iload_n 2, 1) := by decide +kernel
theorem dX9_rig_18 : decode cX9_rig 18 = .ok (.iconst 0, 1) := by decide +kernel
theorem dX9_rig_19 : decode cX9_rig 19 = .ok (.bipush 60, 2) := by decide +kernel
theorem dX9_rig_21 : decode cX9_rig 21 = .ok (.invokestatic 39, 3) := by decide +kernel
theorem dX9_rig_24 : decode cX9_rig 24 = .ok (.ifCond .ne 9, 3) := by decide +kernel
theorem dX9_rig_27 : decode cX9_rig 27 = .ok (.aload_n 0, 1) := by decide +kernel
theorem dX9_rig_28 : decode cX9_rig 28 = .ok (.iconst 1, 1) := by decide +kernel
theorem dX9_rig_29 : decode cX9_rig 29 = .ok (.invokevirtual 126, 3) := by decide +kernel
theorem dX9_rig_32 : decode cX9_rig 32 = .ok (.ireturn, 1) := by decide +kernel
theorem dX9_rig_33 : decode cX9_rig 33 = .ok (.aload_n 0, 1) := by decide +kernel
theorem dX9_rig_34 : decode cX9_rig 34 = .ok (.getfield 16, 3) := by decide +kernel
theorem dX9_rig_37 : decode cX9_rig 37 = .ok (.invokeinterface 33 1, 5) := by decide +kernel
theorem dX9_rig_42 : decode cX9_rig 42 = .ok (.bipush 8, 2) := by decide +kernel
theorem dX9_rig_44 : decode cX9_rig 44 = .ok (.if_icmp .ne 9, 3) := by decide +kernel
theorem dX9_rig_47 : decode cX9_rig 47 = .ok (.aload_n 0, 1) := by decide +kernel
theorem dX9_rig_48 : decode cX9_rig 48 = .ok (.iconst 2, 1) := by decide +kernel
theorem dX9_rig_49 : decode cX9_rig 49 = .ok (.invokevirtual 126, 3) := by decide +kernel
theorem dX9_rig_52 : decode cX9_rig 52 = .ok (.ireturn, 1) := by decide +kernel
theorem dX9_rig_53 : decode cX9_rig 53 = .ok (.aload_n 0, 1) := by decide +kernel
theorem dX9_rig_54 : decode cX9_rig 54 = .ok (.getfield 16, 3) := by decide +kernel
theorem dX9_rig_57 : decode cX9_rig 57 = .ok (.new 50, 3) := by decide +kernel
theorem dX9_rig_60 : decode cX9_rig 60 = .ok (.dup, 1) := by decide +kernel
theorem dX9_rig_61 : decode cX9_rig 61 = .ok (.iload_n 1, 1) := by decide +kernel
theorem dX9_rig_62 : decode cX9_rig 62 = .ok (.aload_n 0, 1) := by decide +kernel
theorem dX9_rig_63 : decode cX9_rig 63 = .ok (.getfield 129, 3) := by decide +kernel
theorem dX9_rig_66 : decode cX9_rig 66 = .ok (.iload_n 2, 1) := by decide +kernel
theorem dX9_rig_67 : decode cX9_rig 67 = .ok (.iadd, 1) := by decide +kernel
theorem dX9_rig_68 : decode cX9_rig 68 = .ok (.invokespecial 135, 3) := by decide +kernel
theorem dX9_rig_71 : decode cX9_rig 71 = .ok (.invokeinterface 103 2, 5) := by decide +kernel
theorem dX9_rig_76 : decode cX9_rig 76 = .ok (.pop, 1) := by decide +kernel
theorem dX9_rig_77 : decode cX9_rig 77 = .ok (.aload_n 0, 1) := by decide +kernel
theorem dX9_rig_78 : decode cX9_rig 78 = .ok (.getfield 16, 3) := by decide +kernel
theorem dX9_rig_81 : decode cX9_rig 81 = .ok (.invokeinterface 33 1, 5) := by decide +kernel
theorem dX9_rig_86 : decode cX9_rig 86 = .ok (.iconst 1, 1) := by decide +kernel
theorem dX9_rig_87 : decode cX9_rig 87 = .ok (.isub, 1) := by decide +kernel
theorem dX9_rig_88 : decode cX9_rig 88 = .ok (.ireturn, 1) := by decide +kernel
theorem dX9_lend_0 : decode cX9_lend 0 = .ok (.aload_n 0, 1) := by decide +kernel
theorem dX9_lend_1 : decode cX9_lend 1 = .ok (.iconst 0, 1) := by decide +kernel
theorem dX9_lend_2 : decode cX9_lend 2 = .ok (.putfield 30, 3) := by decide +kernel
theorem dX9_lend_5 : decode cX9_lend 5 = .ok (.aload_n 0, 1) := by decide +kernel
theorem dX9_lend_6 : decode cX9_lend 6 = .ok (.iload_n 1, 1) := by decide +kernel
theorem dX9_lend_7 : decode cX9_lend 7 = .ok (.invokevirtual 138, 3) := by decide +kernel
theorem dX9_lend_10 : decode cX9_lend 10 = .ok (.ifCond .eq 11, 3) := by decide +kernel
theorem dX9_lend_13 : decode cX9_lend 13 = .ok (.aload_n 0, 1) := by decide +kernel
theorem dX9_lend_14 : decode cX9_lend 14 = .ok (.iload_n 2, 1) := by decide +kernel
theorem dX9_lend_15 : decode cX9_lend 15 = .ok (.invokevirtual 142, 3) := by decide +kernel
theorem dX9_lend_18 : decode cX9_lend 18 = .ok (.ifCond .ne 9, 3) := by decide +kernel
theorem dX9_lend_21 : decode cX9_lend 21 = .ok (.aload_n 0, 1) := by decide +kernel
theorem dX9_lend_22 : decode cX9_lend 22 = .ok (.iconst 1, 1) := by decide +kernel
theorem dX9_lend_23 : decode cX9_lend 23 = .ok (.invokevirtual 126, 3) := by decide +kernel
theorem dX9_lend_26 : decode cX9_lend 26 = .ok (.ireturn, 1) := by decide +kernel
theorem dX9_lend_27 : decode cX9_lend 27 = .ok (.aload_n 0, 1) := by decide +kernel
theorem dX9_lend_28 : decode cX9_lend 28 = .ok (.iload_n 1, 1) := by decide +kernel
theorem dX9_lend_29 : decode cX9_lend 29 = .ok (.invokevirtual 145, 3) := by decide +kernel
theorem dX9_lend_32 : decode cX9_lend 32 = .ok (.istore_n 3, 1) := by decide +kernel
theorem dX9_lend_33 : decode cX9_lend 33 = .ok (.aload_n 0, 1) := by decide +kernel
theorem dX9_lend_34 : decode cX9_lend 34 = .ok (.getfield 10, 3) := by decide +kernel
theorem dX9_lend_37 : decode cX9_lend 37 = .ok (.iload_n 2, 1) := by decide +kernel
theorem dX9_lend_38 : decode cX9_lend 38 = .ok (.invokeinterface 57 2, 5) := by decide +kernel
theorem dX9_lend_43 : decode cX9_lend 43 = .ok (.checkcast 44, 3) := by decide +kernel
theorem dX9_lend_46 : decode cX9_lend 46 = .ok (.getfield 65, 3) := by decide +kernel
theorem dX9_lend_49 : decode cX9_lend 49 = .ok (.iconst (-1), 1) := by decide +kernel
theorem dX9_lend_50 : decode cX9_lend 50 = .ok (.if_icmp .ne 28, 3) := by decide +kernel
theorem dX9_lend_53 : decode cX9_lend 53 = .ok (.iload_n 3, 1) := by decide +kernel
theorem dX9_lend_54 : decode cX9_lend 54 = .ok (.iconst (-1), 1) := by decide +kernel
theorem dX9_lend_55 : decode cX9_lend 55 = .ok (.if_icmp .eq 29, 3) := by decide +kernel
theorem dX9_lend_58 : decode cX9_lend 58 = .ok (.aload_n 0, 1) := by decide +kernel
theorem dX9_lend_59 : decode cX9_lend 59 = .ok (.getfield 10, 3) := by decide +kernel
theorem dX9_lend_62 : decode cX9_lend 62 = .ok (.iload_n 3, 1) := by decide +kernel
theorem dX9_lend_63 : decode cX9_lend 63 = .ok (.invokeinterface 57 2, 5) := by decide +kernel
theorem dX9_lend_68 : decode cX9_lend 68 = .ok (.checkcast 44, 3) := by decide +kernel
theorem dX9_lend_71 : decode cX9_lend 71 = .ok (.getfield 65, 3) := by decide +kernel
theorem dX9_lend_74 : decode cX9_lend 74 = .ok (.iconst (-1), 1) := by decide +kernel
theorem dX9_lend_75 : decode cX9_lend 75 = .ok (.if_icmp .eq 9, 3) := by decide +kernel
theorem dX9_lend_78 : decode cX9_lend 78 = .ok (.aload_n 0, 1) := by decide +kernel
theorem dX9_lend_79 : decode cX9_lend 79 = .ok (.iconst 2, 1) := by decide +kernel
theorem dX9_lend_80 : decode cX9_lend 80 = .ok (.invokevirtual 126, 3) := by decide +kernel
theorem dX9_lend_83 : decode cX9_lend 83 = .ok (.ireturn, 1) := by decide +kernel
theorem dX9_lend_84 : decode cX9_lend 84 = .ok (.iload_n 3, 1) := by decide +kernel
theorem dX9_lend_85 : decode cX9_lend 85 = .ok (.iconst (-1), 1) := by decide +kernel
theorem dX9_lend_86 : decode cX9_lend 86 = .ok (.if_icmp .eq 20, 3) := by decide +kernel
theorem dX9_lend_89 : decode cX9_lend 89 = .ok (.aload_n 0, 1) := by decide +kernel
theorem dX9_lend_90 : decode cX9_lend 90 = .ok (.getfield 10, 3) := by decide +kernel
theorem dX9_lend_93 : decode cX9_lend 93 = .ok (.iload_n 3, 1) := by decide +kernel
theorem dX9_lend_94 : decode cX9_lend 94 = .ok (.invokeinterface 57 2, 5) := by decide +kernel
theorem dX9_lend_99 : decode cX9_lend 99 = .ok (.checkcast 44, 3) := by decide +kernel
theorem dX9_lend_102 : decode cX9_lend 102 = .ok (.iconst (-1), 1) := by decide +kernel
theorem dX9_lend_103 : decode cX9_lend 103 = .ok (.putfield 54, 3) := by decide +kernel
theorem dX9_lend_106 : decode cX9_lend 106 = .ok (.aload_n 0, 1) := by decide +kernel
theorem dX9_lend_107 : decode cX9_lend 107 = .ok (.getfield 10, 3) := by decide +kernel
theorem dX9_lend_110 : decode cX9_lend 110 = .ok (.iload_n 2, 1) := by decide +kernel
theorem dX9_lend_111 : decode cX9_lend 111 = .ok (.invokeinterface 57 2, 5) := by decide +kernel
theorem dX9_lend_116 : decode cX9_lend 116 = .ok (.checkcast 44, 3) := by decide +kernel
theorem dX9_lend_119 : decode cX9_lend 119 = .ok (.iload_n 1, 1) := by decide +kernel
theorem dX9_lend_120 : decode cX9_lend 120 = .ok (.putfield 54, 3) := by decide +kernel
theorem dX9_lend_123 : decode cX9_lend 123 = .ok (.iload_n 3, 1) := by decide +kernel
theorem dX9_lend_124 : decode cX9_lend 124 = .ok (.ireturn, 1) := by decide +kernel
theorem dX9_pack_0 : decode cX9_pack 0 = .ok (.aload_n 0, 1) := by decide +kernel
theorem dX9_pack_1 : decode cX9_pack 1 = .ok (.iconst 0, 1) := by decide +kernel
theorem dX9_pack_2 : decode cX9_pack 2 = .ok (.putfield 30, 3) := by decide +kernel
theorem dX9_pack_5 : decode cX9_pack 5 = .ok (.aload_n 0, 1) := by decide +kernel
theorem dX9_pack_6 : decode cX9_pack 6 = .ok (.iload_n 1, 1) := by decide +kernel
theorem dX9_pack_7 : decode cX9_pack 7 = .ok (.invokevirtual 138, 3) := by decide +kernel
theorem dX9_pack_10 : decode cX9_pack 10 = .ok (.ifCond .eq 11, 3) := by decide +kernel
theorem dX9_pack_13 : decode cX9_pack 13 = .ok (.aload_n 0, 1) := by decide +kernel
theorem dX9_pack_14 : decode cX9_pack 14 = .ok (.iload_n 2, 1) := by decide +kernel
theorem dX9_pack_15 : decode cX9_pack 15 = .ok (.invokevirtual 142, 3) := by decide +kernel
theorem dX9_pack_18 : decode cX9_pack 18 = .ok (.ifCond .ne 9, 3) := by decide +kernel
theorem dX9_pack_21 : decode cX9_pack 21 = .ok (.aload_n 0, 1) := by decide +kernel
theorem dX9_pack_22 : decode cX9_pack 22 = .ok (.iconst 1, 1) := by decide +kernel
theorem dX9_pack_23 : decode cX9_pack 23 = .ok (.invokevirtual 126, 3) := by decide +kernel
theorem dX9_pack_26 : decode cX9_pack 26 = .ok (.ireturn, 1) := by decide +kernel
theorem dX9_pack_27 : decode cX9_pack 27 = .ok (.aload_n 0, 1) := by decide +kernel
theorem dX9_pack_28 : decode cX9_pack 28 = .ok (.getfield 16, 3) := by decide +kernel
theorem dX9_pack_31 : decode cX9_pack 31 = .ok (.iload_n 1, 1) := by decide +kernel
theorem dX9_pack_32 : decode cX9_pack 32 = .ok (.invokeinterface 57 2, 5) := by decide +kernel
theorem dX9_pack_37 : decode cX9_pack 37 = .ok (.checkcast 50, 3) := by decide +kernel
theorem dX9_pack_40 : decode cX9_pack 40 = .ok (.astore_n 3, 1) := by decide +kernel
theorem dX9_pack_41 : decode cX9_pack 41 = .ok (.aload_n 3, 1) := by decide +kernel
theorem dX9_pack_42 : decode cX9_pack 42 = .ok (.getfield 148, 3) := by decide +kernel
theorem dX9_pack_45 : decode cX9_pack 45 = .ok (.ifCond .eq 9, 3) := by decide +kernel
theorem dX9_pack_48 : decode cX9_pack 48 = .ok (.aload_n 0, 1) := by decide +kernel
theorem dX9_pack_49 : decode cX9_pack 49 = .ok (.iconst 2, 1) := by decide +kernel
theorem dX9_pack_50 : decode cX9_pack 50 = .ok (.invokevirtual 126, 3) := by decide +kernel
theorem dX9_pack_53 : decode cX9_pack 53 = .ok (.ireturn, 1) := by decide +kernel
theorem dX9_pack_54 : decode cX9_pack 54 = .ok (.aload_n 3, 1) := by decide +kernel
theorem dX9_pack_55 : decode cX9_pack 55 = .ok (.iconst 0, 1) := by decide +kernel
theorem dX9_pack_56 : decode cX9_pack 56 = .ok (.bipush 9, 2) := by decide +kernel
theorem dX9_pack_58 : decode cX9_pack 58 = .ok (.aload_n 0, 1) := by decide +kernel
theorem dX9_pack_59 : decode cX9_pack 59 = .ok (.getfield 10, 3) := by decide +kernel
theorem dX9_pack_62 : decode cX9_pack 62 = .ok (.iload_n 2, 1) := by decide +kernel
theorem dX9_pack_63 : decode cX9_pack 63 = .ok (.invokeinterface 57 2, 5) := by decide +kernel
theorem dX9_pack_68 : decode cX9_pack 68 = .ok (.checkcast 44, 3) := by decide +kernel
theorem dX9_pack_71 : decode cX9_pack 71 = .ok (.getfield 152, 3) := by decide +kernel
theorem dX9_pack_74 : decode cX9_pack 74 = .ok (.isub, 1) := by decide +kernel
theorem dX9_pack_75 : decode cX9_pack 75 = .ok (.invokestatic 155, 3) := by decide +kernel
theorem dX9_pack_78 : decode cX9_pack 78 = .ok (.putfield 159, 3) := by decide +kernel
theorem dX9_pack_81 : decode cX9_pack 81 = .ok (.aload_n 3, 1) := by decide +kernel
theorem dX9_pack_82 : decode cX9_pack 82 = .ok (.iconst 1, 1) := by decide +kernel
theorem dX9_pack_83 : decode cX9_pack 83 = .ok (.putfield 148, 3) := by decide +kernel
theorem dX9_pack_86 : decode cX9_pack 86 = .ok (.aload_n 0, 1) := by decide +kernel
theorem dX9_pack_87 : decode cX9_pack 87 = .ok (.getfield 10, 3) := by decide +kernel
theorem dX9_pack_90 : decode cX9_pack 90 = .ok (.iload_n 2, 1) := by decide +kernel
theorem dX9_pack_91 : decode cX9_pack 91 = .ok (.invokeinterface 57 2, 5) := by decide +kernel
theorem dX9_pack_96 : decode cX9_pack 96 = .ok (.checkcast 44, 3) := by decide +kernel
theorem dX9_pack_99 : decode cX9_pack 99 = .ok (.dup, 1) := by decide +kernel
theorem dX9_pack_100 : decode cX9_pack 100 = .ok (.getfield 152, 3) := by decide +kernel
theorem dX9_pack_103 : decode cX9_pack 103 = .ok (.iconst 1, 1) := by decide +kernel
theorem dX9_pack_104 : decode cX9_pack 104 = .ok (.iadd, 1) := by decide +kernel
theorem dX9_pack_105 : decode cX9_pack 105 = .ok (.putfield 152, 3) := by decide +kernel
theorem dX9_pack_108 : decode cX9_pack 108 = .ok (.aload_n 3, 1) := by decide +kernel
theorem dX9_pack_109 : decode cX9_pack 109 = .ok (.getfield 159, 3) := by decide +kernel
theorem dX9_pack_112 : decode cX9_pack 112 = .ok (.ireturn, 1) := by decide +kernel
theorem dX9_renew_0 : decode cX9_renew 0 = .ok (.aload_n 0, 1) := by decide +kernel
theorem dX9_renew_1 : decode cX9_renew 1 = .ok (.iconst 0, 1) := by decide +kernel
theorem dX9_renew_2 : decode cX9_renew 2 = .ok (.putfield 30, 3) := by decide +kernel
theorem dX9_renew_5 : decode cX9_renew 5 = .ok (.aload_n 0, 1) := by decide +kernel
theorem dX9_renew_6 : decode cX9_renew 6 = .ok (.iload_n 1, 1) := by decide +kernel
theorem dX9_renew_7 : decode cX9_renew 7 = .ok (.invokevirtual 138, 3) := by decide +kernel
theorem dX9_renew_10 : decode cX9_renew 10 = .ok (.ifCond .ne 9, 3) := by decide +kernel
theorem dX9_renew_13 : decode cX9_renew 13 = .ok (.aload_n 0, 1) := by decide +kernel
theorem dX9_renew_14 : decode cX9_renew 14 = .ok (.iconst 1, 1) := by decide +kernel
theorem dX9_renew_15 : decode cX9_renew 15 = .ok (.invokevirtual 126, 3) := by decide +kernel
theorem dX9_renew_18 : decode cX9_renew 18 = .ok (.ireturn, 1) := by decide +kernel
theorem dX9_renew_19 : decode cX9_renew 19 = .ok (.aload_n 0, 1) := by decide +kernel
theorem dX9_renew_20 : decode cX9_renew 20 = .ok (.getfield 16, 3) := by decide +kernel
theorem dX9_renew_23 : decode cX9_renew 23 = .ok (.iload_n 1, 1) := by decide +kernel
theorem dX9_renew_24 : decode cX9_renew 24 = .ok (.invokeinterface 57 2, 5) := by decide +kernel
theorem dX9_renew_29 : decode cX9_renew 29 = .ok (.checkcast 50, 3) := by decide +kernel
theorem dX9_renew_32 : decode cX9_renew 32 = .ok (.aload_n 0, 1) := by decide +kernel
theorem dX9_renew_33 : decode cX9_renew 33 = .ok (.getfield 129, 3) := by decide +kernel
theorem dX9_renew_36 : decode cX9_renew 36 = .ok (.bipush 60, 2) := by decide +kernel
theorem dX9_renew_38 : decode cX9_renew 38 = .ok (.iadd, 1) := by decide +kernel
theorem dX9_renew_39 : decode cX9_renew 39 = .ok (.putfield 162, 3) := by decide +kernel
theorem dX9_renew_42 : decode cX9_renew 42 = .ok (.aload_n 0, 1) := by decide +kernel
theorem dX9_renew_43 : decode cX9_renew 43 = .ok (.getfield 129, 3) := by decide +kernel
theorem dX9_renew_46 : decode cX9_renew 46 = .ok (.bipush 60, 2) := by decide +kernel
theorem dX9_renew_48 : decode cX9_renew 48 = .ok (.iadd, 1) := by decide +kernel
theorem dX9_renew_49 : decode cX9_renew 49 = .ok (.ireturn, 1) := by decide +kernel
theorem dX9_pass_0 : decode cX9_pass 0 = .ok (.aload_n 0, 1) := by decide +kernel
theorem dX9_pass_1 : decode cX9_pass 1 = .ok (.iconst 0, 1) := by decide +kernel
theorem dX9_pass_2 : decode cX9_pass 2 = .ok (.putfield 30, 3) := by decide +kernel
theorem dX9_pass_5 : decode cX9_pass 5 = .ok (.iload_n 1, 1) := by decide +kernel
theorem dX9_pass_6 : decode cX9_pass 6 = .ok (.iconst 1, 1) := by decide +kernel
theorem dX9_pass_7 : decode cX9_pass 7 = .ok (.bipush 90, 2) := by decide +kernel
theorem dX9_pass_9 : decode cX9_pass 9 = .ok (.invokestatic 39, 3) := by decide +kernel
theorem dX9_pass_12 : decode cX9_pass 12 = .ok (.ifCond .ne 9, 3) := by decide +kernel
theorem dX9_pass_15 : decode cX9_pass 15 = .ok (.aload_n 0, 1) := by decide +kernel
theorem dX9_pass_16 : decode cX9_pass 16 = .ok (.iconst 1, 1) := by decide +kernel
theorem dX9_pass_17 : decode cX9_pass 17 = .ok (.invokevirtual 126, 3) := by decide +kernel
theorem dX9_pass_20 : decode cX9_pass 20 = .ok (.ireturn, 1) := by decide +kernel
theorem dX9_pass_21 : decode cX9_pass 21 = .ok (.aload_n 0, 1) := by decide +kernel
theorem dX9_pass_22 : decode cX9_pass 22 = .ok (.getfield 129, 3) := by decide +kernel
theorem dX9_pass_25 : decode cX9_pass 25 = .ok (.iload_n 1, 1) := by decide +kernel
theorem dX9_pass_26 : decode cX9_pass 26 = .ok (.iadd, 1) := by decide +kernel
theorem dX9_pass_27 : decode cX9_pass 27 = .ok (.sipush 500, 3) := by decide +kernel
theorem dX9_pass_30 : decode cX9_pass 30 = .ok (.if_icmp .gt 10, 3) := by decide +kernel
theorem dX9_pass_33 : decode cX9_pass 33 = .ok (.aload_n 0, 1) := by decide +kernel
theorem dX9_pass_34 : decode cX9_pass 34 = .ok (.invokevirtual 87, 3) := by decide +kernel
theorem dX9_pass_37 : decode cX9_pass 37 = .ok (.ifCond .le 9, 3) := by decide +kernel
theorem dX9_pass_40 : decode cX9_pass 40 = .ok (.aload_n 0, 1) := by decide +kernel
theorem dX9_pass_41 : decode cX9_pass 41 = .ok (.iconst 2, 1) := by decide +kernel
theorem dX9_pass_42 : decode cX9_pass 42 = .ok (.invokevirtual 126, 3) := by decide +kernel
theorem dX9_pass_45 : decode cX9_pass 45 = .ok (.ireturn, 1) := by decide +kernel
theorem dX9_pass_46 : decode cX9_pass 46 = .ok (.aload_n 0, 1) := by decide +kernel
theorem dX9_pass_47 : decode cX9_pass 47 = .ok (.dup, 1) := by decide +kernel
theorem dX9_pass_48 : decode cX9_pass 48 = .ok (.getfield 129, 3) := by decide +kernel
theorem dX9_pass_51 : decode cX9_pass 51 = .ok (.iload_n 1, 1) := by decide +kernel
theorem dX9_pass_52 : decode cX9_pass 52 = .ok (.iadd, 1) := by decide +kernel
theorem dX9_pass_53 : decode cX9_pass 53 = .ok (.putfield 129, 3) := by decide +kernel
theorem dX9_pass_56 : decode cX9_pass 56 = .ok (.iconst 0, 1) := by decide +kernel
theorem dX9_pass_57 : decode cX9_pass 57 = .ok (.istore_n 2, 1) := by decide +kernel
theorem dX9_pass_58 : decode cX9_pass 58 = .ok (.iload_n 2, 1) := by decide +kernel
theorem dX9_pass_59 : decode cX9_pass 59 = .ok (.aload_n 0, 1) := by decide +kernel
theorem dX9_pass_60 : decode cX9_pass 60 = .ok (.getfield 10, 3) := by decide +kernel
theorem dX9_pass_63 : decode cX9_pass 63 = .ok (.invokeinterface 33 1, 5) := by decide +kernel
theorem dX9_pass_68 : decode cX9_pass 68 = .ok (.if_icmp .ge 26, 3) := by decide +kernel
theorem dX9_pass_71 : decode cX9_pass 71 = .ok (.aload_n 0, 1) := by decide +kernel
theorem dX9_pass_72 : decode cX9_pass 72 = .ok (.getfield 10, 3) := by decide +kernel
theorem dX9_pass_75 : decode cX9_pass 75 = .ok (.iload_n 2, 1) := by decide +kernel
theorem dX9_pass_76 : decode cX9_pass 76 = .ok (.invokeinterface 57 2, 5) := by decide +kernel
theorem dX9_pass_81 : decode cX9_pass 81 = .ok (.checkcast 44, 3) := by decide +kernel
theorem dX9_pass_84 : decode cX9_pass 84 = .ok (.iconst 0, 1) := by decide +kernel
theorem dX9_pass_85 : decode cX9_pass 85 = .ok (.putfield 152, 3) := by decide +kernel
theorem dX9_pass_88 : decode cX9_pass 88 = .ok (.iinc 2 1, 3) := by decide +kernel
theorem dX9_pass_91 : decode cX9_pass 91 = .ok (.goto (-33), 3) := by decide +kernel
theorem dX9_pass_94 : decode cX9_pass 94 = .ok (.aload_n 0, 1) := by decide +kernel
theorem dX9_pass_95 : decode cX9_pass 95 = .ok (.getfield 129, 3) := by decide +kernel
theorem dX9_pass_98 : decode cX9_pass 98 = .ok (.ireturn, 1) := by decide +kernel
theorem dX9_wind_0 : decode cX9_wind 0 = .ok (.aload_n 0, 1) := by decide +kernel
theorem dX9_wind_1 : decode cX9_wind 1 = .ok (.iconst 0, 1) := by decide +kernel
theorem dX9_wind_2 : decode cX9_wind 2 = .ok (.putfield 30, 3) := by decide +kernel
theorem dX9_wind_5 : decode cX9_wind 5 = .ok (.iload_n 1, 1) := by decide +kernel
theorem dX9_wind_6 : decode cX9_wind 6 = .ok (.iconst 0, 1) := by decide +kernel
theorem dX9_wind_7 : decode cX9_wind 7 = .ok (.bipush 9, 2) := by decide +kernel
theorem dX9_wind_9 : decode cX9_wind 9 = .ok (.invokestatic 39, 3) := by decide +kernel
theorem dX9_wind_12 : decode cX9_wind 12 = .ok (.ifCond .ne 9, 3) := by decide +kernel
theorem dX9_wind_15 : decode cX9_wind 15 = .ok (.aload_n 0, 1) := by decide +kernel
theorem dX9_wind_16 : decode cX9_wind 16 = .ok (.iconst 1, 1) := by decide +kernel
theorem dX9_wind_17 : decode cX9_wind 17 = .ok (.invokevirtual 126, 3) := by decide +kernel
theorem dX9_wind_20 : decode cX9_wind 20 = .ok (.ireturn, 1) := by decide +kernel
theorem dX9_wind_21 : decode cX9_wind 21 = .ok (.iload_n 2, 1) := by decide +kernel
theorem dX9_wind_22 : decode cX9_wind 22 = .ok (.bipush (-20), 2) := by decide +kernel
theorem dX9_wind_24 : decode cX9_wind 24 = .ok (.bipush 20, 2) := by decide +kernel
theorem dX9_wind_26 : decode cX9_wind 26 = .ok (.invokestatic 39, 3) := by decide +kernel
theorem dX9_wind_29 : decode cX9_wind 29 = .ok (.ifCond .eq 14, 3) := by decide +kernel
theorem dX9_wind_32 : decode cX9_wind 32 = .ok (.iload_n 3, 1) := by decide +kernel
theorem dX9_wind_33 : decode cX9_wind 33 = .ok (.bipush (-20), 2) := by decide +kernel
theorem dX9_wind_35 : decode cX9_wind 35 = .ok (.bipush 20, 2) := by decide +kernel
theorem dX9_wind_37 : decode cX9_wind 37 = .ok (.invokestatic 39, 3) := by decide +kernel
theorem dX9_wind_40 : decode cX9_wind 40 = .ok (.ifCond .ne 9, 3) := by decide +kernel
theorem dX9_wind_43 : decode cX9_wind 43 = .ok (.aload_n 0, 1) := by decide +kernel
theorem dX9_wind_44 : decode cX9_wind 44 = .ok (.iconst 2, 1) := by decide +kernel
theorem dX9_wind_45 : decode cX9_wind 45 = .ok (.invokevirtual 126, 3) := by decide +kernel
theorem dX9_wind_48 : decode cX9_wind 48 = .ok (.ireturn, 1) := by decide +kernel
theorem dX9_wind_49 : decode cX9_wind 49 = .ok (.aload_n 0, 1) := by decide +kernel
theorem dX9_wind_50 : decode cX9_wind 50 = .ok (.getfield 19, 3) := by decide +kernel
theorem dX9_wind_53 : decode cX9_wind 53 = .ok (.iload_n 1, 1) := by decide +kernel
theorem dX9_wind_54 : decode cX9_wind 54 = .ok (.iload_n 2, 1) := by decide +kernel
theorem dX9_wind_55 : decode cX9_wind 55 = .ok (.iastore, 1) := by decide +kernel
theorem dX9_wind_56 : decode cX9_wind 56 = .ok (.aload_n 0, 1) := by decide +kernel
theorem dX9_wind_57 : decode cX9_wind 57 = .ok (.getfield 23, 3) := by decide +kernel
theorem dX9_wind_60 : decode cX9_wind 60 = .ok (.iload_n 1, 1) := by decide +kernel
theorem dX9_wind_61 : decode cX9_wind 61 = .ok (.iload_n 3, 1) := by decide +kernel
theorem dX9_wind_62 : decode cX9_wind 62 = .ok (.iastore, 1) := by decide +kernel
theorem dX9_wind_63 : decode cX9_wind 63 = .ok (.aload_n 0, 1) := by decide +kernel
theorem dX9_wind_64 : decode cX9_wind 64 = .ok (.invokevirtual 165, 3) := by decide +kernel
theorem dX9_wind_67 : decode cX9_wind 67 = .ok (.ireturn, 1) := by decide +kernel
theorem dX9_most_0 : decode cX9_most 0 = .ok (.aload_n 1, 1) := by decide +kernel
theorem dX9_most_1 : decode cX9_most 1 = .ok (.getfield 74, 3) := by decide +kernel
theorem dX9_most_4 : decode cX9_most 4 = .ok (.ifCond .eq 17, 3) := by decide +kernel
theorem dX9_most_7 : decode cX9_most 7 = .ok (.aload_n 0, 1) := by decide +kernel
theorem dX9_most_8 : decode cX9_most 8 = .ok (.getfield 129, 3) := by decide +kernel
theorem dX9_most_11 : decode cX9_most 11 = .ok (.aload_n 1, 1) := by decide +kernel
theorem dX9_most_12 : decode cX9_most 12 = .ok (.getfield 168, 3) := by decide +kernel
theorem dX9_most_15 : decode cX9_most 15 = .ok (.isub, 1) := by decide +kernel
theorem dX9_most_16 : decode cX9_most 16 = .ok (.bipush 30, 2) := by decide +kernel
theorem dX9_most_18 : decode cX9_most 18 = .ok (.if_icmp .le 8, 3) := by decide +kernel
theorem dX9_most_21 : decode cX9_most 21 = .ok (.ldc 171, 2) := by decide +kernel
theorem dX9_most_23 : decode cX9_most 23 = .ok (.goto 31, 3) := by decide +kernel
theorem dX9_most_26 : decode cX9_most 26 = .ok (.aload_n 1, 1) := by decide +kernel
theorem dX9_most_27 : decode cX9_most 27 = .ok (.getfield 74, 3) := by decide +kernel
theorem dX9_most_30 : decode cX9_most 30 = .ok (.iconst 1, 1) := by decide +kernel
theorem dX9_most_31 : decode cX9_most 31 = .ok (.if_icmp .ne 8, 3) := by decide +kernel
theorem dX9_most_34 : decode cX9_most 34 = .ok (.ldc 172, 2) := by decide +kernel
theorem dX9_most_36 : decode cX9_most 36 = .ok (.goto 18, 3) := by decide +kernel
theorem dX9_most_39 : decode cX9_most 39 = .ok (.aload_n 1, 1) := by decide +kernel
theorem dX9_most_40 : decode cX9_most 40 = .ok (.getfield 74, 3) := by decide +kernel
theorem dX9_most_43 : decode cX9_most 43 = .ok (.iconst 2, 1) := by decide +kernel
theorem dX9_most_44 : decode cX9_most 44 = .ok (.if_icmp .ne 8, 3) := by decide +kernel
theorem dX9_most_47 : decode cX9_most 47 = .ok (.ldc 173, 2) := by decide +kernel
theorem dX9_most_49 : decode cX9_most 49 = .ok (.goto 5, 3) := by decide +kernel
theorem dX9_most_52 : decode cX9_most 52 = .ok (.ldc 174, 2) := by decide +kernel
theorem dX9_most_54 : decode cX9_most 54 = .ok (.freturn, 1) := by decide +kernel
theorem dX9_why_0 : decode cX9_why 0 = .ok (.aload_n 1, 1) := by decide +kernel
theorem dX9_why_1 : decode cX9_why 1 = .ok (.getfield 54, 3) := by decide +kernel
theorem dX9_why_4 : decode cX9_why 4 = .ok (.iconst (-1), 1) := by decide +kernel
theorem dX9_why_5 : decode cX9_why 5 = .ok (.if_icmp .ne 5, 3) := by decide +kernel
theorem dX9_why_8 : decode cX9_why 8 = .ok (.iconst 1, 1) := by decide +kernel
theorem dX9_why_9 : decode cX9_why 9 = .ok (.ireturn, 1) := by decide +kernel
theorem dX9_why_10 : decode cX9_why 10 = .ok (.aload_n 0, 1) := by decide +kernel
theorem dX9_why_11 : decode cX9_why 11 = .ok (.getfield 16, 3) := by decide +kernel
theorem dX9_why_14 : decode cX9_why 14 = .ok (.aload_n 1, 1) := by decide +kernel
theorem dX9_why_15 : decode cX9_why 15 = .ok (.getfield 54, 3) := by decide +kernel
theorem dX9_why_18 : decode cX9_why 18 = .ok (.invokeinterface 57 2, 5) := by decide +kernel
theorem dX9_why_23 : decode cX9_why 23 = .ok (.checkcast 50, 3) := by decide +kernel
theorem dX9_why_26 : decode cX9_why 26 = .ok (.astore_n 2, 1) := by decide +kernel
theorem dX9_why_27 : decode cX9_why 27 = .ok (.aload_n 2, 1) := by decide +kernel
theorem dX9_why_28 : decode cX9_why 28 = .ok (.getfield 148, 3) := by decide +kernel
theorem dX9_why_31 : decode cX9_why 31 = .ok (.ifCond .ne 5, 3) := by decide +kernel
theorem dX9_why_34 : decode cX9_why 34 = .ok (.iconst 2, 1) := by decide +kernel
theorem dX9_why_35 : decode cX9_why 35 = .ok (.ireturn, 1) := by decide +kernel
theorem dX9_why_36 : decode cX9_why 36 = .ok (.aload_n 2, 1) := by decide +kernel
theorem dX9_why_37 : decode cX9_why 37 = .ok (.getfield 162, 3) := by decide +kernel
theorem dX9_why_40 : decode cX9_why 40 = .ok (.aload_n 0, 1) := by decide +kernel
theorem dX9_why_41 : decode cX9_why 41 = .ok (.getfield 129, 3) := by decide +kernel
theorem dX9_why_44 : decode cX9_why 44 = .ok (.if_icmp .ge 5, 3) := by decide +kernel
theorem dX9_why_47 : decode cX9_why 47 = .ok (.iconst 3, 1) := by decide +kernel
theorem dX9_why_48 : decode cX9_why 48 = .ok (.ireturn, 1) := by decide +kernel
theorem dX9_why_49 : decode cX9_why 49 = .ok (.aload_n 0, 1) := by decide +kernel
theorem dX9_why_50 : decode cX9_why 50 = .ok (.invokevirtual 165, 3) := by decide +kernel
theorem dX9_why_53 : decode cX9_why 53 = .ok (.aload_n 1, 1) := by decide +kernel
theorem dX9_why_54 : decode cX9_why 54 = .ok (.getfield 74, 3) := by decide +kernel
theorem dX9_why_57 : decode cX9_why 57 = .ok (.ifCond .ne 8, 3) := by decide +kernel
theorem dX9_why_60 : decode cX9_why 60 = .ok (.bipush 8, 2) := by decide +kernel
theorem dX9_why_62 : decode cX9_why 62 = .ok (.goto 31, 3) := by decide +kernel
theorem dX9_why_65 : decode cX9_why 65 = .ok (.aload_n 1, 1) := by decide +kernel
theorem dX9_why_66 : decode cX9_why 66 = .ok (.getfield 74, 3) := by decide +kernel
theorem dX9_why_69 : decode cX9_why 69 = .ok (.iconst 1, 1) := by decide +kernel
theorem dX9_why_70 : decode cX9_why 70 = .ok (.if_icmp .ne 8, 3) := by decide +kernel
theorem dX9_why_73 : decode cX9_why 73 = .ok (.bipush 14, 2) := by decide +kernel
theorem dX9_why_75 : decode cX9_why 75 = .ok (.goto 18, 3) := by decide +kernel
theorem dX9_why_78 : decode cX9_why 78 = .ok (.aload_n 1, 1) := by decide +kernel
theorem dX9_why_79 : decode cX9_why 79 = .ok (.getfield 74, 3) := by decide +kernel
theorem dX9_why_82 : decode cX9_why 82 = .ok (.iconst 2, 1) := by decide +kernel
theorem dX9_why_83 : decode cX9_why 83 = .ok (.if_icmp .ne 8, 3) := by decide +kernel
theorem dX9_why_86 : decode cX9_why 86 = .ok (.bipush 20, 2) := by decide +kernel
theorem dX9_why_88 : decode cX9_why 88 = .ok (.goto 5, 3) := by decide +kernel
theorem dX9_why_91 : decode cX9_why 91 = .ok (.bipush 30, 2) := by decide +kernel
theorem dX9_why_93 : decode cX9_why 93 = .ok (.if_icmp .le 5, 3) := by decide +kernel
theorem dX9_why_96 : decode cX9_why 96 = .ok (.iconst 4, 1) := by decide +kernel
theorem dX9_why_97 : decode cX9_why 97 = .ok (.ireturn, 1) := by decide +kernel
theorem dX9_why_98 : decode cX9_why 98 = .ok (.aload_n 0, 1) := by decide +kernel
theorem dX9_why_99 : decode cX9_why 99 = .ok (.aload_n 1, 1) := by decide +kernel
theorem dX9_why_100 : decode cX9_why 100 = .ok (.invokevirtual 77, 3) := by decide +kernel
theorem dX9_why_103 : decode cX9_why 103 = .ok (.aload_n 0, 1) := by decide +kernel
theorem dX9_why_104 : decode cX9_why 104 = .ok (.aload_n 1, 1) := by decide +kernel
theorem dX9_why_105 : decode cX9_why 105 = .ok (.invokevirtual 175, 3) := by decide +kernel
theorem dX9_why_108 : decode cX9_why 108 = .ok (.fcmp .l, 1) := by decide +kernel
theorem dX9_why_109 : decode cX9_why 109 = .ok (.ifCond .le 5, 3) := by decide +kernel
theorem dX9_why_112 : decode cX9_why 112 = .ok (.iconst 5, 1) := by decide +kernel
theorem dX9_why_113 : decode cX9_why 113 = .ok (.ireturn, 1) := by decide +kernel
theorem dX9_why_114 : decode cX9_why 114 = .ok (.aload_n 1, 1) := by decide +kernel
theorem dX9_why_115 : decode cX9_why 115 = .ok (.getfield 65, 3) := by decide +kernel
theorem dX9_why_118 : decode cX9_why 118 = .ok (.iconst (-1), 1) := by decide +kernel
theorem dX9_why_119 : decode cX9_why 119 = .ok (.if_icmp .ne 7, 3) := by decide +kernel
theorem dX9_why_122 : decode cX9_why 122 = .ok (.iconst 0, 1) := by decide +kernel
theorem dX9_why_123 : decode cX9_why 123 = .ok (.goto 5, 3) := by decide +kernel
theorem dX9_why_126 : decode cX9_why 126 = .ok (.bipush 6, 2) := by decide +kernel
theorem dX9_why_128 : decode cX9_why 128 = .ok (.ireturn, 1) := by decide +kernel
theorem dX9_board_0 : decode cX9_board 0 = .ok (.aload_n 0, 1) := by decide +kernel
theorem dX9_board_1 : decode cX9_board 1 = .ok (.iconst 0, 1) := by decide +kernel
theorem dX9_board_2 : decode cX9_board 2 = .ok (.putfield 30, 3) := by decide +kernel
theorem dX9_board_5 : decode cX9_board 5 = .ok (.aload_n 0, 1) := by decide +kernel
theorem dX9_board_6 : decode cX9_board 6 = .ok (.iload_n 1, 1) := by decide +kernel
theorem dX9_board_7 : decode cX9_board 7 = .ok (.invokevirtual 142, 3) := by decide +kernel
theorem dX9_board_10 : decode cX9_board 10 = .ok (.ifCond .ne 9, 3) := by decide +kernel
theorem dX9_board_13 : decode cX9_board 13 = .ok (.aload_n 0, 1) := by decide +kernel
theorem dX9_board_14 : decode cX9_board 14 = .ok (.iconst 1, 1) := by decide +kernel
theorem dX9_board_15 : decode cX9_board 15 = .ok (.invokevirtual 126, 3) := by decide +kernel
theorem dX9_board_18 : decode cX9_board 18 = .ok (.ireturn, 1) := by decide +kernel
theorem dX9_board_19 : decode cX9_board 19 = .ok (.aload_n 0, 1) := by decide +kernel
theorem dX9_board_20 : decode cX9_board 20 = .ok (.getfield 10, 3) := by decide +kernel
theorem dX9_board_23 : decode cX9_board 23 = .ok (.iload_n 1, 1) := by decide +kernel
theorem dX9_board_24 : decode cX9_board 24 = .ok (.invokeinterface 57 2, 5) := by decide +kernel
theorem dX9_board_29 : decode cX9_board 29 = .ok (.checkcast 44, 3) := by decide +kernel
theorem dX9_board_32 : decode cX9_board 32 = .ok (.astore 4, 2) := by decide +kernel
theorem dX9_board_34 : decode cX9_board 34 = .ok (.iload_n 2, 1) := by decide +kernel
theorem dX9_board_35 : decode cX9_board 35 = .ok (.iconst 0, 1) := by decide +kernel
theorem dX9_board_36 : decode cX9_board 36 = .ok (.iconst 1, 1) := by decide +kernel
theorem dX9_board_37 : decode cX9_board 37 = .ok (.invokestatic 39, 3) := by decide +kernel
theorem dX9_board_40 : decode cX9_board 40 = .ok (.ifCond .eq 25, 3) := by decide +kernel
theorem dX9_board_43 : decode cX9_board 43 = .ok (.iload_n 3, 1) := by decide +kernel
theorem dX9_board_44 : decode cX9_board 44 = .ok (.aload 4, 2) := by decide +kernel
theorem dX9_board_46 : decode cX9_board 46 = .ok (.getfield 74, 3) := by decide +kernel
theorem dX9_board_49 : decode cX9_board 49 = .ok (.ifCond .ne 7, 3) := by decide +kernel
theorem dX9_board_52 : decode cX9_board 52 = .ok (.iconst 4, 1) := by decide +kernel
theorem dX9_board_53 : decode cX9_board 53 = .ok (.goto 4, 3) := by decide +kernel
theorem dX9_board_56 : decode cX9_board 56 = .ok (.iconst 2, 1) := by decide +kernel
theorem dX9_board_57 : decode cX9_board 57 = .ok (.bipush 6, 2) := by decide +kernel
theorem dX9_board_59 : decode cX9_board 59 = .ok (.invokestatic 39, 3) := by decide +kernel
theorem dX9_board_62 : decode cX9_board 62 = .ok (.ifCond .ne 9, 3) := by decide +kernel
theorem dX9_board_65 : decode cX9_board 65 = .ok (.aload_n 0, 1) := by decide +kernel
theorem dX9_board_66 : decode cX9_board 66 = .ok (.iconst 2, 1) := by decide +kernel
theorem dX9_board_67 : decode cX9_board 67 = .ok (.invokevirtual 126, 3) := by decide +kernel
theorem dX9_board_70 : decode cX9_board 70 = .ok (.ireturn, 1) := by decide +kernel
theorem dX9_board_71 : decode cX9_board 71 = .ok (.aload_n 0, 1) := by decide +kernel
theorem dX9_board_72 : decode cX9_board 72 = .ok (.getfield 178, 3) := by decide +kernel
theorem dX9_board_75 : decode cX9_board 75 = .ok (.ifCond .ne 12, 3) := by decide +kernel
theorem dX9_board_78 : decode cX9_board 78 = .ok (.aload_n 0, 1) := by decide +kernel
theorem dX9_board_79 : decode cX9_board 79 = .ok (.invokevirtual 87, 3) := by decide +kernel
theorem dX9_board_82 : decode cX9_board 82 = .ok (.bipush 6, 2) := by decide +kernel
theorem dX9_board_84 : decode cX9_board 84 = .ok (.if_icmp .ne 9, 3) := by decide +kernel
theorem dX9_board_87 : decode cX9_board 87 = .ok (.aload_n 0, 1) := by decide +kernel
theorem dX9_board_88 : decode cX9_board 88 = .ok (.iconst 3, 1) := by decide +kernel
theorem dX9_board_89 : decode cX9_board 89 = .ok (.invokevirtual 126, 3) := by decide +kernel
theorem dX9_board_92 : decode cX9_board 92 = .ok (.ireturn, 1) := by decide +kernel
theorem dX9_board_93 : decode cX9_board 93 = .ok (.aload_n 0, 1) := by decide +kernel
theorem dX9_board_94 : decode cX9_board 94 = .ok (.aload 4, 2) := by decide +kernel
theorem dX9_board_96 : decode cX9_board 96 = .ok (.invokevirtual 181, 3) := by decide +kernel
theorem dX9_board_99 : decode cX9_board 99 = .ok (.istore 5, 2) := by decide +kernel
theorem dX9_board_101 : decode cX9_board 101 = .ok (.iload 5, 2) := by decide +kernel
theorem dX9_board_103 : decode cX9_board 103 = .ok (.ifCond .le 7, 3) := by decide +kernel
theorem dX9_board_106 : decode cX9_board 106 = .ok (.iload 5, 2) := by decide +kernel
theorem dX9_board_108 : decode cX9_board 108 = .ok (.ineg, 1) := by decide +kernel
theorem dX9_board_109 : decode cX9_board 109 = .ok (.ireturn, 1) := by decide +kernel
theorem dX9_board_110 : decode cX9_board 110 = .ok (.aload 4, 2) := by decide +kernel
theorem dX9_board_112 : decode cX9_board 112 = .ok (.iload_n 2, 1) := by decide +kernel
theorem dX9_board_113 : decode cX9_board 113 = .ok (.putfield 65, 3) := by decide +kernel
theorem dX9_board_116 : decode cX9_board 116 = .ok (.aload 4, 2) := by decide +kernel
theorem dX9_board_118 : decode cX9_board 118 = .ok (.iload_n 3, 1) := by decide +kernel
theorem dX9_board_119 : decode cX9_board 119 = .ok (.putfield 95, 3) := by decide +kernel
theorem dX9_board_122 : decode cX9_board 122 = .ok (.aload_n 0, 1) := by decide +kernel
theorem dX9_board_123 : decode cX9_board 123 = .ok (.invokevirtual 87, 3) := by decide +kernel
theorem dX9_board_126 : decode cX9_board 126 = .ok (.ireturn, 1) := by decide +kernel
theorem dX9_empty_0 : decode cX9_empty 0 = .ok (.aload_n 0, 1) := by decide +kernel
theorem dX9_empty_1 : decode cX9_empty 1 = .ok (.iconst 0, 1) := by decide +kernel
theorem dX9_empty_2 : decode cX9_empty 2 = .ok (.putfield 30, 3) := by decide +kernel
theorem dX9_empty_5 : decode cX9_empty 5 = .ok (.aload_n 0, 1) := by decide +kernel
theorem dX9_empty_6 : decode cX9_empty 6 = .ok (.invokevirtual 87, 3) := by decide +kernel
theorem dX9_empty_9 : decode cX9_empty 9 = .ok (.istore_n 1, 1) := by decide +kernel
theorem dX9_empty_10 : decode cX9_empty 10 = .ok (.iconst 0, 1) := by decide +kernel
theorem dX9_empty_11 : decode cX9_empty 11 = .ok (.istore_n 2, 1) := by decide +kernel
theorem dX9_empty_12 : decode cX9_empty 12 = .ok (.iload_n 2, 1) := by decide +kernel
theorem dX9_empty_13 : decode cX9_empty 13 = .ok (.aload_n 0, 1) := by decide +kernel
theorem dX9_empty_14 : decode cX9_empty 14 = .ok (.getfield 10, 3) := by decide +kernel
theorem dX9_empty_17 : decode cX9_empty 17 = .ok (.invokeinterface 33 1, 5) := by decide +kernel
theorem dX9_empty_22 : decode cX9_empty 22 = .ok (.if_icmp .ge 26, 3) := by decide +kernel
theorem dX9_empty_25 : decode cX9_empty 25 = .ok (.aload_n 0, 1) := by decide +kernel
theorem dX9_empty_26 : decode cX9_empty 26 = .ok (.getfield 10, 3) := by decide +kernel
theorem dX9_empty_29 : decode cX9_empty 29 = .ok (.iload_n 2, 1) := by decide +kernel
theorem dX9_empty_30 : decode cX9_empty 30 = .ok (.invokeinterface 57 2, 5) := by decide +kernel
theorem dX9_empty_35 : decode cX9_empty 35 = .ok (.checkcast 44, 3) := by decide +kernel
theorem dX9_empty_38 : decode cX9_empty 38 = .ok (.iconst (-1), 1) := by decide +kernel
theorem dX9_empty_39 : decode cX9_empty 39 = .ok (.putfield 65, 3) := by decide +kernel
theorem dX9_empty_42 : decode cX9_empty 42 = .ok (.iinc 2 1, 3) := by decide +kernel
theorem dX9_empty_45 : decode cX9_empty 45 = .ok (.goto (-33), 3) := by decide +kernel
theorem dX9_empty_48 : decode cX9_empty 48 = .ok (.iload_n 1, 1) := by decide +kernel
theorem dX9_empty_49 : decode cX9_empty 49 = .ok (.ireturn, 1) := by decide +kernel
theorem dX9_fly_0 : decode cX9_fly 0 = .ok (.aload_n 0, 1) := by decide +kernel
theorem dX9_fly_1 : decode cX9_fly 1 = .ok (.iconst 0, 1) := by decide +kernel
theorem dX9_fly_2 : decode cX9_fly 2 = .ok (.putfield 30, 3) := by decide +kernel
theorem dX9_fly_5 : decode cX9_fly 5 = .ok (.iload_n 1, 1) := by decide +kernel
theorem dX9_fly_6 : decode cX9_fly 6 = .ok (.sipush (-200), 3) := by decide +kernel
theorem dX9_fly_9 : decode cX9_fly 9 = .ok (.sipush 200, 3) := by decide +kernel
theorem dX9_fly_12 : decode cX9_fly 12 = .ok (.invokestatic 39, 3) := by decide +kernel
theorem dX9_fly_15 : decode cX9_fly 15 = .ok (.ifCond .eq 13, 3) := by decide +kernel
theorem dX9_fly_18 : decode cX9_fly 18 = .ok (.iload_n 2, 1) := by decide +kernel
theorem dX9_fly_19 : decode cX9_fly 19 = .ok (.iconst 1, 1) := by decide +kernel
theorem dX9_fly_20 : decode cX9_fly 20 = .ok (.bipush 9, 2) := by decide +kernel
theorem dX9_fly_22 : decode cX9_fly 22 = .ok (.invokestatic 39, 3) := by decide +kernel
theorem dX9_fly_25 : decode cX9_fly 25 = .ok (.ifCond .ne 9, 3) := by decide +kernel
theorem dX9_fly_28 : decode cX9_fly 28 = .ok (.aload_n 0, 1) := by decide +kernel
theorem dX9_fly_29 : decode cX9_fly 29 = .ok (.iconst 1, 1) := by decide +kernel
theorem dX9_fly_30 : decode cX9_fly 30 = .ok (.invokevirtual 126, 3) := by decide +kernel
theorem dX9_fly_33 : decode cX9_fly 33 = .ok (.ireturn, 1) := by decide +kernel
theorem dX9_fly_34 : decode cX9_fly 34 = .ok (.aload_n 0, 1) := by decide +kernel
theorem dX9_fly_35 : decode cX9_fly 35 = .ok (.getfield 178, 3) := by decide +kernel
theorem dX9_fly_38 : decode cX9_fly 38 = .ok (.ifCond .ne 10, 3) := by decide +kernel
theorem dX9_fly_41 : decode cX9_fly 41 = .ok (.aload_n 0, 1) := by decide +kernel
theorem dX9_fly_42 : decode cX9_fly 42 = .ok (.invokevirtual 87, 3) := by decide +kernel
theorem dX9_fly_45 : decode cX9_fly 45 = .ok (.ifCond .ne 9, 3) := by decide +kernel
theorem dX9_fly_48 : decode cX9_fly 48 = .ok (.aload_n 0, 1) := by decide +kernel
theorem dX9_fly_49 : decode cX9_fly 49 = .ok (.iconst 2, 1) := by decide +kernel
theorem dX9_fly_50 : decode cX9_fly 50 = .ok (.invokevirtual 126, 3) := by decide +kernel
theorem dX9_fly_53 : decode cX9_fly 53 = .ok (.ireturn, 1) := by decide +kernel
theorem dX9_fly_54 : decode cX9_fly 54 = .ok (.aload_n 0, 1) := by decide +kernel
theorem dX9_fly_55 : decode cX9_fly 55 = .ok (.iload_n 1, 1) := by decide +kernel
theorem dX9_fly_56 : decode cX9_fly 56 = .ok (.iload_n 2, 1) := by decide +kernel
theorem dX9_fly_57 : decode cX9_fly 57 = .ok (.invokevirtual 185, 3) := by decide +kernel
theorem dX9_fly_60 : decode cX9_fly 60 = .ok (.astore_n 3, 1) := by decide +kernel
theorem dX9_fly_61 : decode cX9_fly 61 = .ok (.iconst 0, 1) := by decide +kernel
theorem dX9_fly_62 : decode cX9_fly 62 = .ok (.istore 4, 2) := by decide +kernel
theorem dX9_fly_64 : decode cX9_fly 64 = .ok (.iload 4, 2) := by decide +kernel
theorem dX9_fly_66 : decode cX9_fly 66 = .ok (.aload_n 3, 1) := by decide +kernel
theorem dX9_fly_67 : decode cX9_fly 67 = .ok (.invokeinterface 33 1, 5) := by decide +kernel
theorem dX9_fly_72 : decode cX9_fly 72 = .ok (.if_icmp .ge 98, 3) := by decide +kernel
theorem dX9_fly_75 : decode cX9_fly 75 = .ok (.aload_n 0, 1) := by decide +kernel
theorem dX9_fly_76 : decode cX9_fly 76 = .ok (.getfield 16, 3) := by decide +kernel
theorem dX9_fly_79 : decode cX9_fly 79 = .ok (.aload_n 3, 1) := by decide +kernel
theorem dX9_fly_80 : decode cX9_fly 80 = .ok (.iload 4, 2) := by decide +kernel
theorem dX9_fly_82 : decode cX9_fly 82 = .ok (.invokeinterface 57 2, 5) := by decide +kernel
theorem dX9_fly_87 : decode cX9_fly 87 = .ok (.checkcast 93, 3) := by decide +kernel
theorem dX9_fly_90 : decode cX9_fly 90 = .ok (.getfield 189, 3) := by decide +kernel
theorem dX9_fly_93 : decode cX9_fly 93 = .ok (.getfield 54, 3) := by decide +kernel
theorem dX9_fly_96 : decode cX9_fly 96 = .ok (.invokeinterface 57 2, 5) := by decide +kernel
theorem dX9_fly_101 : decode cX9_fly 101 = .ok (.checkcast 50, 3) := by decide +kernel
theorem dX9_fly_104 : decode cX9_fly 104 = .ok (.astore 5, 2) := by decide +kernel
theorem dX9_fly_106 : decode cX9_fly 106 = .ok (.aload_n 0, 1) := by decide +kernel
theorem dX9_fly_107 : decode cX9_fly 107 = .ok (.iconst 5, 1) := by decide +kernel
theorem dX9_fly_108 : decode cX9_fly 108 = .ok (.aload_n 0, 1) := by decide +kernel
theorem dX9_fly_109 : decode cX9_fly 109 = .ok (.getfield 26, 3) := by decide +kernel
theorem dX9_fly_112 : decode cX9_fly 112 = .ok (.imul, 1) := by decide +kernel
theorem dX9_fly_113 : decode cX9_fly 113 = .ok (.iconst 3, 1) := by decide +kernel
theorem dX9_fly_114 : decode cX9_fly 114 = .ok (.iadd, 1) := by decide +kernel
theorem dX9_fly_115 : decode cX9_fly 115 = .ok (.bipush 32, 2) := by decide +kernel
theorem dX9_fly_117 : decode cX9_fly 117 = .ok (.irem, 1) := by decide +kernel
theorem dX9_fly_118 : decode cX9_fly 118 = .ok (.putfield 26, 3) := by decide +kernel
theorem dX9_fly_121 : decode cX9_fly 121 = .ok (.aload_n 3, 1) := by decide +kernel
theorem dX9_fly_122 : decode cX9_fly 122 = .ok (.iload 4, 2) := by decide +kernel
theorem dX9_fly_124 : decode cX9_fly 124 = .ok (.invokeinterface 57 2, 5) := by decide +kernel
theorem dX9_fly_129 : decode cX9_fly 129 = .ok (.checkcast 93, 3) := by decide +kernel
theorem dX9_fly_132 : decode cX9_fly 132 = .ok (.aload_n 0, 1) := by decide +kernel
theorem dX9_fly_133 : decode cX9_fly 133 = .ok (.getfield 26, 3) := by decide +kernel
theorem dX9_fly_136 : decode cX9_fly 136 = .ok (.bipush 9, 2) := by decide +kernel
theorem dX9_fly_138 : decode cX9_fly 138 = .ok (.aload 5, 2) := by decide +kernel
theorem dX9_fly_140 : decode cX9_fly 140 = .ok (.getfield 159, 3) := by decide +kernel
theorem dX9_fly_143 : decode cX9_fly 143 = .ok (.isub, 1) := by decide +kernel
theorem dX9_fly_144 : decode cX9_fly 144 = .ok (.aload 5, 2) := by decide +kernel
theorem dX9_fly_146 : decode cX9_fly 146 = .ok (.getfield 193, 3) := by decide +kernel
theorem dX9_fly_149 : decode cX9_fly 149 = .ok (.fconst 2, 1) := by decide +kernel
theorem dX9_fly_150 : decode cX9_fly 150 = .ok (.fmul, 1) := by decide +kernel
theorem dX9_fly_151 : decode cX9_fly 151 = .ok (.f2i, 1) := by decide +kernel
theorem dX9_fly_152 : decode cX9_fly 152 = .ok (.iadd, 1) := by decide +kernel
theorem dX9_fly_153 : decode cX9_fly 153 = .ok (.if_icmp .ge 7, 3) := by decide +kernel
theorem dX9_fly_156 : decode cX9_fly 156 = .ok (.iconst 1, 1) := by decide +kernel
theorem dX9_fly_157 : decode cX9_fly 157 = .ok (.goto 4, 3) := by decide +kernel
theorem dX9_fly_160 : decode cX9_fly 160 = .ok (.iconst 0, 1) := by decide +kernel
theorem dX9_fly_161 : decode cX9_fly 161 = .ok (.putfield 197, 3) := by decide +kernel
theorem dX9_fly_164 : decode cX9_fly 164 = .ok (.iinc 4 1, 3) := by decide +kernel
theorem dX9_fly_167 : decode cX9_fly 167 = .ok (.goto (-103), 3) := by decide +kernel
theorem dX9_fly_170 : decode cX9_fly 170 = .ok (.aload_n 0, 1) := by decide +kernel
theorem dX9_fly_171 : decode cX9_fly 171 = .ok (.dup, 1) := by decide +kernel
theorem dX9_fly_172 : decode cX9_fly 172 = .ok (.getfield 200, 3) := by decide +kernel
theorem dX9_fly_175 : decode cX9_fly 175 = .ok (.aload_n 3, 1) := by decide +kernel
theorem dX9_fly_176 : decode cX9_fly 176 = .ok (.invokestatic 203, 3) := by decide +kernel
theorem dX9_fly_179 : decode cX9_fly 179 = .ok (.iadd, 1) := by decide +kernel
theorem dX9_fly_180 : decode cX9_fly 180 = .ok (.putfield 200, 3) := by decide +kernel
theorem dX9_fly_183 : decode cX9_fly 183 = .ok (.iconst 0, 1) := by decide +kernel
theorem dX9_fly_184 : decode cX9_fly 184 = .ok (.istore 4, 2) := by decide +kernel
theorem dX9_fly_186 : decode cX9_fly 186 = .ok (.iload 4, 2) := by decide +kernel
theorem dX9_fly_188 : decode cX9_fly 188 = .ok (.aload_n 3, 1) := by decide +kernel
theorem dX9_fly_189 : decode cX9_fly 189 = .ok (.invokeinterface 33 1, 5) := by decide +kernel
theorem dX9_fly_194 : decode cX9_fly 194 = .ok (.if_icmp .ge 24, 3) := by decide +kernel
theorem dX9_fly_197 : decode cX9_fly 197 = .ok (.aload_n 0, 1) := by decide +kernel
theorem dX9_fly_198 : decode cX9_fly 198 = .ok (.aload_n 3, 1) := by decide +kernel
theorem dX9_fly_199 : decode cX9_fly 199 = .ok (.iload 4, 2) := by decide +kernel
theorem dX9_fly_201 : decode cX9_fly 201 = .ok (.invokeinterface 57 2, 5) := by decide +kernel
theorem dX9_fly_206 : decode cX9_fly 206 = .ok (.checkcast 93, 3) := by decide +kernel
theorem dX9_fly_209 : decode cX9_fly 209 = .ok (.invokevirtual 207, 3) := by decide +kernel
theorem dX9_fly_212 : decode cX9_fly 212 = .ok (.iinc 4 1, 3) := by decide +kernel
theorem dX9_fly_215 : decode cX9_fly 215 = .ok (.goto (-29), 3) := by decide +kernel
theorem dX9_fly_218 : decode cX9_fly 218 = .ok (.aload_n 0, 1) := by decide +kernel
theorem dX9_fly_219 : decode cX9_fly 219 = .ok (.dup, 1) := by decide +kernel
theorem dX9_fly_220 : decode cX9_fly 220 = .ok (.getfield 211, 3) := by decide +kernel
theorem dX9_fly_223 : decode cX9_fly 223 = .ok (.iconst 1, 1) := by decide +kernel
theorem dX9_fly_224 : decode cX9_fly 224 = .ok (.iadd, 1) := by decide +kernel
theorem dX9_fly_225 : decode cX9_fly 225 = .ok (.putfield 211, 3) := by decide +kernel
theorem dX9_fly_228 : decode cX9_fly 228 = .ok (.aload_n 3, 1) := by decide +kernel
theorem dX9_fly_229 : decode cX9_fly 229 = .ok (.invokestatic 214, 3) := by decide +kernel
theorem dX9_fly_232 : decode cX9_fly 232 = .ok (.ireturn, 1) := by decide +kernel
theorem dX9_land_0 : decode cX9_land 0 = .ok (.aload_n 1, 1) := by decide +kernel
theorem dX9_land_1 : decode cX9_land 1 = .ok (.getfield 189, 3) := by decide +kernel
theorem dX9_land_4 : decode cX9_land 4 = .ok (.astore_n 2, 1) := by decide +kernel
theorem dX9_land_5 : decode cX9_land 5 = .ok (.aload_n 0, 1) := by decide +kernel
theorem dX9_land_6 : decode cX9_land 6 = .ok (.getfield 16, 3) := by decide +kernel
theorem dX9_land_9 : decode cX9_land 9 = .ok (.aload_n 2, 1) := by decide +kernel
theorem dX9_land_10 : decode cX9_land 10 = .ok (.getfield 54, 3) := by decide +kernel
theorem dX9_land_13 : decode cX9_land 13 = .ok (.invokeinterface 57 2, 5) := by decide +kernel
theorem dX9_land_18 : decode cX9_land 18 = .ok (.checkcast 50, 3) := by decide +kernel
theorem dX9_land_21 : decode cX9_land 21 = .ok (.astore_n 3, 1) := by decide +kernel
theorem dX9_land_22 : decode cX9_land 22 = .ok (.aload_n 3, 1) := by decide +kernel
theorem dX9_land_23 : decode cX9_land 23 = .ok (.iconst 0, 1) := by decide +kernel
theorem dX9_land_24 : decode cX9_land 24 = .ok (.putfield 148, 3) := by decide +kernel
theorem dX9_land_27 : decode cX9_land 27 = .ok (.aload_n 3, 1) := by decide +kernel
theorem dX9_land_28 : decode cX9_land 28 = .ok (.dup, 1) := by decide +kernel
theorem dX9_land_29 : decode cX9_land 29 = .ok (.getfield 193, 3) := by decide +kernel
theorem dX9_land_32 : decode cX9_land 32 = .ok (.aload_n 1, 1) := by decide +kernel
theorem dX9_land_33 : decode cX9_land 33 = .ok (.getfield 197, 3) := by decide +kernel
theorem dX9_land_36 : decode cX9_land 36 = .ok (.ifCond .eq 8, 3) := by decide +kernel
theorem dX9_land_39 : decode cX9_land 39 = .ok (.ldc 216, 2) := by decide +kernel
theorem dX9_land_41 : decode cX9_land 41 = .ok (.goto 5, 3) := by decide +kernel
theorem dX9_land_44 : decode cX9_land 44 = .ok (.ldc 217, 2) := by decide +kernel
theorem dX9_land_46 : decode cX9_land 46 = .ok (.fadd, 1) := by decide +kernel
theorem dX9_land_47 : decode cX9_land 47 = .ok (.putfield 193, 3) := by decide +kernel
theorem dX9_land_50 : decode cX9_land 50 = .ok (.aload_n 3, 1) := by decide +kernel
theorem dX9_land_51 : decode cX9_land 51 = .ok (.aload_n 1, 1) := by decide +kernel
theorem dX9_land_52 : decode cX9_land 52 = .ok (.getfield 197, 3) := by decide +kernel
theorem dX9_land_55 : decode cX9_land 55 = .ok (.ifCond .eq 12, 3) := by decide +kernel
theorem dX9_land_58 : decode cX9_land 58 = .ok (.aload_n 0, 1) := by decide +kernel
theorem dX9_land_59 : decode cX9_land 59 = .ok (.getfield 129, 3) := by decide +kernel
theorem dX9_land_62 : decode cX9_land 62 = .ok (.iconst 1, 1) := by decide +kernel
theorem dX9_land_63 : decode cX9_land 63 = .ok (.isub, 1) := by decide +kernel
theorem dX9_land_64 : decode cX9_land 64 = .ok (.goto 7, 3) := by decide +kernel
theorem dX9_land_67 : decode cX9_land 67 = .ok (.aload_n 3, 1) := by decide +kernel
theorem dX9_land_68 : decode cX9_land 68 = .ok (.getfield 162, 3) := by decide +kernel
theorem dX9_land_71 : decode cX9_land 71 = .ok (.putfield 162, 3) := by decide +kernel
theorem dX9_land_74 : decode cX9_land 74 = .ok (.aload_n 2, 1) := by decide +kernel
theorem dX9_land_75 : decode cX9_land 75 = .ok (.dup, 1) := by decide +kernel
theorem dX9_land_76 : decode cX9_land 76 = .ok (.getfield 218, 3) := by decide +kernel
theorem dX9_land_79 : decode cX9_land 79 = .ok (.aload_n 1, 1) := by decide +kernel
theorem dX9_land_80 : decode cX9_land 80 = .ok (.getfield 197, 3) := by decide +kernel
theorem dX9_land_83 : decode cX9_land 83 = .ok (.ifCond .eq 7, 3) := by decide +kernel
theorem dX9_land_86 : decode cX9_land 86 = .ok (.iconst 1, 1) := by decide +kernel
theorem dX9_land_87 : decode cX9_land 87 = .ok (.goto 4, 3) := by decide +kernel
theorem dX9_land_90 : decode cX9_land 90 = .ok (.iconst 0, 1) := by decide +kernel
theorem dX9_land_91 : decode cX9_land 91 = .ok (.iadd, 1) := by decide +kernel
theorem dX9_land_92 : decode cX9_land 92 = .ok (.putfield 218, 3) := by decide +kernel
theorem dX9_land_95 : decode cX9_land 95 = .ok (.aload_n 0, 1) := by decide +kernel
theorem dX9_land_96 : decode cX9_land 96 = .ok (.dup, 1) := by decide +kernel
theorem dX9_land_97 : decode cX9_land 97 = .ok (.getfield 221, 3) := by decide +kernel
theorem dX9_land_100 : decode cX9_land 100 = .ok (.aload_n 1, 1) := by decide +kernel
theorem dX9_land_101 : decode cX9_land 101 = .ok (.getfield 197, 3) := by decide +kernel
theorem dX9_land_104 : decode cX9_land 104 = .ok (.ifCond .eq 7, 3) := by decide +kernel
theorem dX9_land_107 : decode cX9_land 107 = .ok (.iconst 1, 1) := by decide +kernel
theorem dX9_land_108 : decode cX9_land 108 = .ok (.goto 4, 3) := by decide +kernel
theorem dX9_land_111 : decode cX9_land 111 = .ok (.iconst 0, 1) := by decide +kernel
theorem dX9_land_112 : decode cX9_land 112 = .ok (.iadd, 1) := by decide +kernel
theorem dX9_land_113 : decode cX9_land 113 = .ok (.putfield 221, 3) := by decide +kernel
theorem dX9_land_116 : decode cX9_land 116 = .ok (.aload_n 0, 1) := by decide +kernel
theorem dX9_land_117 : decode cX9_land 117 = .ok (.dup, 1) := by decide +kernel
theorem dX9_land_118 : decode cX9_land 118 = .ok (.getfield 222, 3) := by decide +kernel
theorem dX9_land_121 : decode cX9_land 121 = .ok (.aload_n 1, 1) := by decide +kernel
theorem dX9_land_122 : decode cX9_land 122 = .ok (.invokevirtual 225, 3) := by decide +kernel
theorem dX9_land_125 : decode cX9_land 125 = .ok (.ldc2_w 229, 3) := by decide +kernel
theorem dX9_land_128 : decode cX9_land 128 = .ok (.dcmp .l, 1) := by decide +kernel
theorem dX9_land_129 : decode cX9_land 129 = .ok (.ifCond .le 7, 3) := by decide +kernel
theorem dX9_land_132 : decode cX9_land 132 = .ok (.iconst 1, 1) := by decide +kernel
theorem dX9_land_133 : decode cX9_land 133 = .ok (.goto 4, 3) := by decide +kernel
theorem dX9_land_136 : decode cX9_land 136 = .ok (.iconst 0, 1) := by decide +kernel
theorem dX9_land_137 : decode cX9_land 137 = .ok (.iadd, 1) := by decide +kernel
theorem dX9_land_138 : decode cX9_land 138 = .ok (.putfield 222, 3) := by decide +kernel
theorem dX9_land_141 : decode cX9_land 141 = .ok (.aload_n 2, 1) := by decide +kernel
theorem dX9_land_142 : decode cX9_land 142 = .ok (.aload_n 0, 1) := by decide +kernel
theorem dX9_land_143 : decode cX9_land 143 = .ok (.getfield 129, 3) := by decide +kernel
theorem dX9_land_146 : decode cX9_land 146 = .ok (.putfield 168, 3) := by decide +kernel
theorem dX9_land_149 : decode cX9_land 149 = .ok (.aload_n 2, 1) := by decide +kernel
theorem dX9_land_150 : decode cX9_land 150 = .ok (.dup, 1) := by decide +kernel
theorem dX9_land_151 : decode cX9_land 151 = .ok (.getfield 231, 3) := by decide +kernel
theorem dX9_land_154 : decode cX9_land 154 = .ok (.iconst 1, 1) := by decide +kernel
theorem dX9_land_155 : decode cX9_land 155 = .ok (.iadd, 1) := by decide +kernel
theorem dX9_land_156 : decode cX9_land 156 = .ok (.putfield 231, 3) := by decide +kernel
theorem dX9_land_159 : decode cX9_land 159 = .ok (.aload_n 0, 1) := by decide +kernel
theorem dX9_land_160 : decode cX9_land 160 = .ok (.dup, 1) := by decide +kernel
theorem dX9_land_161 : decode cX9_land 161 = .ok (.getfield 234, 3) := by decide +kernel
theorem dX9_land_164 : decode cX9_land 164 = .ok (.iconst 1, 1) := by decide +kernel
theorem dX9_land_165 : decode cX9_land 165 = .ok (.iadd, 1) := by decide +kernel
theorem dX9_land_166 : decode cX9_land 166 = .ok (.putfield 234, 3) := by decide +kernel
theorem dX9_land_169 : decode cX9_land 169 = .ok (.aload_n 2, 1) := by decide +kernel
theorem dX9_land_170 : decode cX9_land 170 = .ok (.dup, 1) := by decide +kernel
theorem dX9_land_171 : decode cX9_land 171 = .ok (.getfield 235, 3) := by decide +kernel
theorem dX9_land_174 : decode cX9_land 174 = .ok (.aload_n 1, 1) := by decide +kernel
theorem dX9_land_175 : decode cX9_land 175 = .ok (.invokevirtual 123, 3) := by decide +kernel
theorem dX9_land_178 : decode cX9_land 178 = .ok (.iadd, 1) := by decide +kernel
theorem dX9_land_179 : decode cX9_land 179 = .ok (.putfield 235, 3) := by decide +kernel
theorem dX9_land_182 : decode cX9_land 182 = .ok (.aload_n 2, 1) := by decide +kernel
theorem dX9_land_183 : decode cX9_land 183 = .ok (.aload_n 1, 1) := by decide +kernel
theorem dX9_land_184 : decode cX9_land 184 = .ok (.getfield 237, 3) := by decide +kernel
theorem dX9_land_187 : decode cX9_land 187 = .ok (.putfield 241, 3) := by decide +kernel
theorem dX9_land_190 : decode cX9_land 190 = .ok (.aload_n 2, 1) := by decide +kernel
theorem dX9_land_191 : decode cX9_land 191 = .ok (.aload_n 1, 1) := by decide +kernel
theorem dX9_land_192 : decode cX9_land 192 = .ok (.getfield 242, 3) := by decide +kernel
theorem dX9_land_195 : decode cX9_land 195 = .ok (.putfield 245, 3) := by decide +kernel
theorem dX9_land_198 : decode cX9_land 198 = .ok (.aload_n 2, 1) := by decide +kernel
theorem dX9_land_199 : decode cX9_land 199 = .ok (.iconst (-1), 1) := by decide +kernel
theorem dX9_land_200 : decode cX9_land 200 = .ok (.putfield 65, 3) := by decide +kernel
theorem dX9_land_203 : decode cX9_land 203 = .ok (.return_, 1) := by decide +kernel
theorem dX9_hold_0 : decode cX9_hold 0 = .ok (.aload_n 0, 1) := by decide +kernel
theorem dX9_hold_1 : decode cX9_hold 1 = .ok (.iconst 0, 1) := by decide +kernel
theorem dX9_hold_2 : decode cX9_hold 2 = .ok (.putfield 30, 3) := by decide +kernel
theorem dX9_hold_5 : decode cX9_hold 5 = .ok (.aload_n 0, 1) := by decide +kernel
theorem dX9_hold_6 : decode cX9_hold 6 = .ok (.getfield 178, 3) := by decide +kernel
theorem dX9_hold_9 : decode cX9_hold 9 = .ok (.istore_n 2, 1) := by decide +kernel
theorem dX9_hold_10 : decode cX9_hold 10 = .ok (.aload_n 0, 1) := by decide +kernel
theorem dX9_hold_11 : decode cX9_hold 11 = .ok (.iload_n 1, 1) := by decide +kernel
theorem dX9_hold_12 : decode cX9_hold 12 = .ok (.putfield 178, 3) := by decide +kernel
theorem dX9_hold_15 : decode cX9_hold 15 = .ok (.iload_n 2, 1) := by decide +kernel
theorem dX9_hold_16 : decode cX9_hold 16 = .ok (.ireturn, 1) := by decide +kernel
theorem dX9_gong_0 : decode cX9_gong 0 = .ok (.aload_n 0, 1) := by decide +kernel
theorem dX9_gong_1 : decode cX9_gong 1 = .ok (.iconst 0, 1) := by decide +kernel
theorem dX9_gong_2 : decode cX9_gong 2 = .ok (.putfield 30, 3) := by decide +kernel
theorem dX9_gong_5 : decode cX9_gong 5 = .ok (.aload_n 0, 1) := by decide +kernel
theorem dX9_gong_6 : decode cX9_gong 6 = .ok (.dup, 1) := by decide +kernel
theorem dX9_gong_7 : decode cX9_gong 7 = .ok (.getfield 246, 3) := by decide +kernel
theorem dX9_gong_10 : decode cX9_gong 10 = .ok (.iconst 1, 1) := by decide +kernel
theorem dX9_gong_11 : decode cX9_gong 11 = .ok (.iadd, 1) := by decide +kernel
theorem dX9_gong_12 : decode cX9_gong 12 = .ok (.putfield 246, 3) := by decide +kernel
theorem dX9_gong_15 : decode cX9_gong 15 = .ok (.aload_n 0, 1) := by decide +kernel
theorem dX9_gong_16 : decode cX9_gong 16 = .ok (.getfield 246, 3) := by decide +kernel
theorem dX9_gong_19 : decode cX9_gong 19 = .ok (.ireturn, 1) := by decide +kernel
theorem dX9_jumperNow_0 : decode cX9_jumperNow 0 = .ok (.aload_n 0, 1) := by decide +kernel
theorem dX9_jumperNow_1 : decode cX9_jumperNow 1 = .ok (.getfield 10, 3) := by decide +kernel
theorem dX9_jumperNow_4 : decode cX9_jumperNow 4 = .ok (.iload_n 1, 1) := by decide +kernel
theorem dX9_jumperNow_5 : decode cX9_jumperNow 5 = .ok (.invokeinterface 57 2, 5) := by decide +kernel
theorem dX9_jumperNow_10 : decode cX9_jumperNow 10 = .ok (.checkcast 44, 3) := by decide +kernel
theorem dX9_jumperNow_13 : decode cX9_jumperNow 13 = .ok (.astore_n 3, 1) := by decide +kernel
theorem dX9_jumperNow_14 : decode cX9_jumperNow 14 = .ok (.bipush 9, 2) := by decide +kernel
theorem dX9_jumperNow_16 : decode cX9_jumperNow 16 = .ok (.newarray .int, 2) := by decide +kernel
theorem dX9_jumperNow_18 : decode cX9_jumperNow 18 = .ok (.dup, 1) := by decide +kernel
theorem dX9_jumperNow_19 : decode cX9_jumperNow 19 = .ok (.iconst 0, 1) := by decide +kernel
theorem dX9_jumperNow_20 : decode cX9_jumperNow 20 = .ok (.aload_n 3, 1) := by decide +kernel
theorem dX9_jumperNow_21 : decode cX9_jumperNow 21 = .ok (.getfield 43, 3) := by decide +kernel
theorem dX9_jumperNow_24 : decode cX9_jumperNow 24 = .ok (.iastore, 1) := by decide +kernel
theorem dX9_jumperNow_25 : decode cX9_jumperNow 25 = .ok (.dup, 1) := by decide +kernel
theorem dX9_jumperNow_26 : decode cX9_jumperNow 26 = .ok (.iconst 1, 1) := by decide +kernel
theorem dX9_jumperNow_27 : decode cX9_jumperNow 27 = .ok (.aload_n 3, 1) := by decide +kernel
theorem dX9_jumperNow_28 : decode cX9_jumperNow 28 = .ok (.getfield 74, 3) := by decide +kernel
theorem dX9_jumperNow_31 : decode cX9_jumperNow 31 = .ok (.iastore, 1) := by decide +kernel
theorem dX9_jumperNow_32 : decode cX9_jumperNow 32 = .ok (.dup, 1) := by decide +kernel
theorem dX9_jumperNow_33 : decode cX9_jumperNow 33 = .ok (.iconst 2, 1) := by decide +kernel
theorem dX9_jumperNow_34 : decode cX9_jumperNow 34 = .ok (.aload_n 3, 1) := by decide +kernel
theorem dX9_jumperNow_35 : decode cX9_jumperNow 35 = .ok (.getfield 54, 3) := by decide +kernel
theorem dX9_jumperNow_38 : decode cX9_jumperNow 38 = .ok (.iastore, 1) := by decide +kernel
theorem dX9_jumperNow_39 : decode cX9_jumperNow 39 = .ok (.dup, 1) := by decide +kernel
theorem dX9_jumperNow_40 : decode cX9_jumperNow 40 = .ok (.iconst 3, 1) := by decide +kernel
theorem dX9_jumperNow_41 : decode cX9_jumperNow 41 = .ok (.aload_n 3, 1) := by decide +kernel
theorem dX9_jumperNow_42 : decode cX9_jumperNow 42 = .ok (.getfield 168, 3) := by decide +kernel
theorem dX9_jumperNow_45 : decode cX9_jumperNow 45 = .ok (.iastore, 1) := by decide +kernel
theorem dX9_jumperNow_46 : decode cX9_jumperNow 46 = .ok (.dup, 1) := by decide +kernel
theorem dX9_jumperNow_47 : decode cX9_jumperNow 47 = .ok (.iconst 4, 1) := by decide +kernel
theorem dX9_jumperNow_48 : decode cX9_jumperNow 48 = .ok (.aload_n 3, 1) := by decide +kernel
theorem dX9_jumperNow_49 : decode cX9_jumperNow 49 = .ok (.getfield 231, 3) := by decide +kernel
theorem dX9_jumperNow_52 : decode cX9_jumperNow 52 = .ok (.iastore, 1) := by decide +kernel
theorem dX9_jumperNow_53 : decode cX9_jumperNow 53 = .ok (.dup, 1) := by decide +kernel
theorem dX9_jumperNow_54 : decode cX9_jumperNow 54 = .ok (.iconst 5, 1) := by decide +kernel
theorem dX9_jumperNow_55 : decode cX9_jumperNow 55 = .ok (.aload_n 3, 1) := by decide +kernel
theorem dX9_jumperNow_56 : decode cX9_jumperNow 56 = .ok (.getfield 235, 3) := by decide +kernel
theorem dX9_jumperNow_59 : decode cX9_jumperNow 59 = .ok (.iastore, 1) := by decide +kernel
theorem dX9_jumperNow_60 : decode cX9_jumperNow 60 = .ok (.dup, 1) := by decide +kernel
theorem dX9_jumperNow_61 : decode cX9_jumperNow 61 = .ok (.bipush 6, 2) := by decide +kernel
theorem dX9_jumperNow_63 : decode cX9_jumperNow 63 = .ok (.aload_n 3, 1) := by decide +kernel
theorem dX9_jumperNow_64 : decode cX9_jumperNow 64 = .ok (.getfield 152, 3) := by decide +kernel
theorem dX9_jumperNow_67 : decode cX9_jumperNow 67 = .ok (.iastore, 1) := by decide +kernel
theorem dX9_jumperNow_68 : decode cX9_jumperNow 68 = .ok (.dup, 1) := by decide +kernel
theorem dX9_jumperNow_69 : decode cX9_jumperNow 69 = .ok (.bipush 7, 2) := by decide +kernel
theorem dX9_jumperNow_71 : decode cX9_jumperNow 71 = .ok (.aload_n 0, 1) := by decide +kernel
theorem dX9_jumperNow_72 : decode cX9_jumperNow 72 = .ok (.iload_n 1, 1) := by decide +kernel
theorem dX9_jumperNow_73 : decode cX9_jumperNow 73 = .ok (.invokevirtual 84, 3) := by decide +kernel
theorem dX9_jumperNow_76 : decode cX9_jumperNow 76 = .ok (.iastore, 1) := by decide +kernel
theorem dX9_jumperNow_77 : decode cX9_jumperNow 77 = .ok (.dup, 1) := by decide +kernel
theorem dX9_jumperNow_78 : decode cX9_jumperNow 78 = .ok (.bipush 8, 2) := by decide +kernel
theorem dX9_jumperNow_80 : decode cX9_jumperNow 80 = .ok (.aload_n 3, 1) := by decide +kernel
theorem dX9_jumperNow_81 : decode cX9_jumperNow 81 = .ok (.getfield 218, 3) := by decide +kernel
theorem dX9_jumperNow_84 : decode cX9_jumperNow 84 = .ok (.iastore, 1) := by decide +kernel
theorem dX9_jumperNow_85 : decode cX9_jumperNow 85 = .ok (.astore 4, 2) := by decide +kernel
theorem dX9_jumperNow_87 : decode cX9_jumperNow 87 = .ok (.aload 4, 2) := by decide +kernel
theorem dX9_jumperNow_89 : decode cX9_jumperNow 89 = .ok (.iload_n 2, 1) := by decide +kernel
theorem dX9_jumperNow_90 : decode cX9_jumperNow 90 = .ok (.iaload, 1) := by decide +kernel
theorem dX9_jumperNow_91 : decode cX9_jumperNow 91 = .ok (.ireturn, 1) := by decide +kernel
theorem dX9_ofJumper_0 : decode cX9_ofJumper 0 = .ok (.aload_n 0, 1) := by decide +kernel
theorem dX9_ofJumper_1 : decode cX9_ofJumper 1 = .ok (.iconst 0, 1) := by decide +kernel
theorem dX9_ofJumper_2 : decode cX9_ofJumper 2 = .ok (.putfield 30, 3) := by decide +kernel
theorem dX9_ofJumper_5 : decode cX9_ofJumper 5 = .ok (.aload_n 0, 1) := by decide +kernel
theorem dX9_ofJumper_6 : decode cX9_ofJumper 6 = .ok (.iload_n 1, 1) := by decide +kernel
theorem dX9_ofJumper_7 : decode cX9_ofJumper 7 = .ok (.invokevirtual 142, 3) := by decide +kernel
theorem dX9_ofJumper_10 : decode cX9_ofJumper 10 = .ok (.ifCond .ne 9, 3) := by decide +kernel
theorem dX9_ofJumper_13 : decode cX9_ofJumper 13 = .ok (.aload_n 0, 1) := by decide +kernel
theorem dX9_ofJumper_14 : decode cX9_ofJumper 14 = .ok (.iconst 1, 1) := by decide +kernel
theorem dX9_ofJumper_15 : decode cX9_ofJumper 15 = .ok (.invokevirtual 126, 3) := by decide +kernel
theorem dX9_ofJumper_18 : decode cX9_ofJumper 18 = .ok (.ireturn, 1) := by decide +kernel
theorem dX9_ofJumper_19 : decode cX9_ofJumper 19 = .ok (.iload_n 2, 1) := by decide +kernel
theorem dX9_ofJumper_20 : decode cX9_ofJumper 20 = .ok (.iconst 0, 1) := by decide +kernel
theorem dX9_ofJumper_21 : decode cX9_ofJumper 21 = .ok (.bipush 8, 2) := by decide +kernel
theorem dX9_ofJumper_23 : decode cX9_ofJumper 23 = .ok (.invokestatic 39, 3) := by decide +kernel
theorem dX9_ofJumper_26 : decode cX9_ofJumper 26 = .ok (.ifCond .ne 9, 3) := by decide +kernel
theorem dX9_ofJumper_29 : decode cX9_ofJumper 29 = .ok (.aload_n 0, 1) := by decide +kernel
theorem dX9_ofJumper_30 : decode cX9_ofJumper 30 = .ok (.iconst 2, 1) := by decide +kernel
theorem dX9_ofJumper_31 : decode cX9_ofJumper 31 = .ok (.invokevirtual 126, 3) := by decide +kernel
theorem dX9_ofJumper_34 : decode cX9_ofJumper 34 = .ok (.ireturn, 1) := by decide +kernel
theorem dX9_ofJumper_35 : decode cX9_ofJumper 35 = .ok (.aload_n 0, 1) := by decide +kernel
theorem dX9_ofJumper_36 : decode cX9_ofJumper 36 = .ok (.iload_n 1, 1) := by decide +kernel
theorem dX9_ofJumper_37 : decode cX9_ofJumper 37 = .ok (.iload_n 2, 1) := by decide +kernel
theorem dX9_ofJumper_38 : decode cX9_ofJumper 38 = .ok (.invokevirtual 249, 3) := by decide +kernel
theorem dX9_ofJumper_41 : decode cX9_ofJumper 41 = .ok (.ireturn, 1) := by decide +kernel
theorem dX9_loading___0 : decode cX9_loading__ 0 = .ok (.aload_n 0, 1) := by decide +kernel
theorem dX9_loading___1 : decode cX9_loading__ 1 = .ok (.iconst 0, 1) := by decide +kernel
theorem dX9_loading___2 : decode cX9_loading__ 2 = .ok (.putfield 30, 3) := by decide +kernel
theorem dX9_loading___5 : decode cX9_loading__ 5 = .ok (.aload_n 0, 1) := by decide +kernel
theorem dX9_loading___6 : decode cX9_loading__ 6 = .ok (.iload_n 1, 1) := by decide +kernel
theorem dX9_loading___7 : decode cX9_loading__ 7 = .ok (.invokevirtual 142, 3) := by decide +kernel
theorem dX9_loading___10 : decode cX9_loading__ 10 = .ok (.ifCond .ne 10, 3) := by decide +kernel
theorem dX9_loading___13 : decode cX9_loading__ 13 = .ok (.aload_n 0, 1) := by decide +kernel
theorem dX9_loading___14 : decode cX9_loading__ 14 = .ok (.iconst 1, 1) := by decide +kernel
theorem dX9_loading___15 : decode cX9_loading__ 15 = .ok (.invokevirtual 126, 3) := by decide +kernel
theorem dX9_loading___18 : decode cX9_loading__ 18 = .ok (.i2d, 1) := by decide +kernel
theorem dX9_loading___19 : decode cX9_loading__ 19 = .ok (.dreturn, 1) := by decide +kernel
theorem dX9_loading___20 : decode cX9_loading__ 20 = .ok (.aload_n 0, 1) := by decide +kernel
theorem dX9_loading___21 : decode cX9_loading__ 21 = .ok (.aload_n 0, 1) := by decide +kernel
theorem dX9_loading___22 : decode cX9_loading__ 22 = .ok (.getfield 10, 3) := by decide +kernel
theorem dX9_loading___25 : decode cX9_loading__ 25 = .ok (.iload_n 1, 1) := by decide +kernel
theorem dX9_loading___26 : decode cX9_loading__ 26 = .ok (.invokeinterface 57 2, 5) := by decide +kernel
theorem dX9_loading___31 : decode cX9_loading__ 31 = .ok (.checkcast 44, 3) := by decide +kernel
theorem dX9_loading___34 : decode cX9_loading__ 34 = .ok (.invokevirtual 77, 3) := by decide +kernel
theorem dX9_loading___37 : decode cX9_loading__ 37 = .ok (.f2d, 1) := by decide +kernel
theorem dX9_loading___38 : decode cX9_loading__ 38 = .ok (.dreturn, 1) := by decide +kernel
theorem dX9_landed_0 : decode cX9_landed 0 = .ok (.aload_n 0, 1) := by decide +kernel
theorem dX9_landed_1 : decode cX9_landed 1 = .ok (.iconst 0, 1) := by decide +kernel
theorem dX9_landed_2 : decode cX9_landed 2 = .ok (.putfield 30, 3) := by decide +kernel
theorem dX9_landed_5 : decode cX9_landed 5 = .ok (.aload_n 0, 1) := by decide +kernel
theorem dX9_landed_6 : decode cX9_landed 6 = .ok (.iload_n 1, 1) := by decide +kernel
theorem dX9_landed_7 : decode cX9_landed 7 = .ok (.invokevirtual 142, 3) := by decide +kernel
theorem dX9_landed_10 : decode cX9_landed 10 = .ok (.ifCond .ne 10, 3) := by decide +kernel
theorem dX9_landed_13 : decode cX9_landed 13 = .ok (.aload_n 0, 1) := by decide +kernel
theorem dX9_landed_14 : decode cX9_landed 14 = .ok (.iconst 1, 1) := by decide +kernel
theorem dX9_landed_15 : decode cX9_landed 15 = .ok (.invokevirtual 126, 3) := by decide +kernel
theorem dX9_landed_18 : decode cX9_landed 18 = .ok (.i2d, 1) := by decide +kernel
theorem dX9_landed_19 : decode cX9_landed 19 = .ok (.dreturn, 1) := by decide +kernel
theorem dX9_landed_20 : decode cX9_landed 20 = .ok (.iload_n 2, 1) := by decide +kernel
theorem dX9_landed_21 : decode cX9_landed 21 = .ok (.ifCond .eq 22, 3) := by decide +kernel
theorem dX9_landed_24 : decode cX9_landed 24 = .ok (.aload_n 0, 1) := by decide +kernel
theorem dX9_landed_25 : decode cX9_landed 25 = .ok (.getfield 10, 3) := by decide +kernel
theorem dX9_landed_28 : decode cX9_landed 28 = .ok (.iload_n 1, 1) := by decide +kernel
theorem dX9_landed_29 : decode cX9_landed 29 = .ok (.invokeinterface 57 2, 5) := by decide +kernel
theorem dX9_landed_34 : decode cX9_landed 34 = .ok (.checkcast 44, 3) := by decide +kernel
theorem dX9_landed_37 : decode cX9_landed 37 = .ok (.getfield 245, 3) := by decide +kernel
theorem dX9_landed_40 : decode cX9_landed 40 = .ok (.goto 19, 3) := by decide +kernel
theorem dX9_landed_43 : decode cX9_landed 43 = .ok (.aload_n 0, 1) := by decide +kernel
theorem dX9_landed_44 : decode cX9_landed 44 = .ok (.getfield 10, 3) := by decide +kernel
theorem dX9_landed_47 : decode cX9_landed 47 = .ok (.iload_n 1, 1) := by decide +kernel
theorem dX9_landed_48 : decode cX9_landed 48 = .ok (.invokeinterface 57 2, 5) := by decide +kernel
theorem dX9_landed_53 : decode cX9_landed 53 = .ok (.checkcast 44, 3) := by decide +kernel
theorem dX9_landed_56 : decode cX9_landed 56 = .ok (.getfield 241, 3) := by decide +kernel
theorem dX9_landed_59 : decode cX9_landed 59 = .ok (.dreturn, 1) := by decide +kernel
theorem dX9_refuses_0 : decode cX9_refuses 0 = .ok (.aload_n 0, 1) := by decide +kernel
theorem dX9_refuses_1 : decode cX9_refuses 1 = .ok (.iconst 0, 1) := by decide +kernel
theorem dX9_refuses_2 : decode cX9_refuses 2 = .ok (.putfield 30, 3) := by decide +kernel
theorem dX9_refuses_5 : decode cX9_refuses 5 = .ok (.aload_n 0, 1) := by decide +kernel
theorem dX9_refuses_6 : decode cX9_refuses 6 = .ok (.iload_n 1, 1) := by decide +kernel
theorem dX9_refuses_7 : decode cX9_refuses 7 = .ok (.invokevirtual 142, 3) := by decide +kernel
theorem dX9_refuses_10 : decode cX9_refuses 10 = .ok (.ifCond .ne 9, 3) := by decide +kernel
theorem dX9_refuses_13 : decode cX9_refuses 13 = .ok (.aload_n 0, 1) := by decide +kernel
theorem dX9_refuses_14 : decode cX9_refuses 14 = .ok (.iconst 1, 1) := by decide +kernel
theorem dX9_refuses_15 : decode cX9_refuses 15 = .ok (.invokevirtual 126, 3) := by decide +kernel
theorem dX9_refuses_18 : decode cX9_refuses 18 = .ok (.ireturn, 1) := by decide +kernel
theorem dX9_refuses_19 : decode cX9_refuses 19 = .ok (.aload_n 0, 1) := by decide +kernel
theorem dX9_refuses_20 : decode cX9_refuses 20 = .ok (.aload_n 0, 1) := by decide +kernel
theorem dX9_refuses_21 : decode cX9_refuses 21 = .ok (.getfield 10, 3) := by decide +kernel
theorem dX9_refuses_24 : decode cX9_refuses 24 = .ok (.iload_n 1, 1) := by decide +kernel
theorem dX9_refuses_25 : decode cX9_refuses 25 = .ok (.invokeinterface 57 2, 5) := by decide +kernel
theorem dX9_refuses_30 : decode cX9_refuses 30 = .ok (.checkcast 44, 3) := by decide +kernel
theorem dX9_refuses_33 : decode cX9_refuses 33 = .ok (.invokevirtual 181, 3) := by decide +kernel
theorem dX9_refuses_36 : decode cX9_refuses 36 = .ok (.ireturn, 1) := by decide +kernel
theorem dX9_rigNow_0 : decode cX9_rigNow 0 = .ok (.aload_n 0, 1) := by decide +kernel
theorem dX9_rigNow_1 : decode cX9_rigNow 1 = .ok (.getfield 16, 3) := by decide +kernel
theorem dX9_rigNow_4 : decode cX9_rigNow 4 = .ok (.iload_n 1, 1) := by decide +kernel
theorem dX9_rigNow_5 : decode cX9_rigNow 5 = .ok (.invokeinterface 57 2, 5) := by decide +kernel
theorem dX9_rigNow_10 : decode cX9_rigNow 10 = .ok (.checkcast 50, 3) := by decide +kernel
theorem dX9_rigNow_13 : decode cX9_rigNow 13 = .ok (.astore_n 3, 1) := by decide +kernel
theorem dX9_rigNow_14 : decode cX9_rigNow 14 = .ok (.iconst 5, 1) := by decide +kernel
theorem dX9_rigNow_15 : decode cX9_rigNow 15 = .ok (.newarray .int, 2) := by decide +kernel
theorem dX9_rigNow_17 : decode cX9_rigNow 17 = .ok (.dup, 1) := by decide +kernel
theorem dX9_rigNow_18 : decode cX9_rigNow 18 = .ok (.iconst 0, 1) := by decide +kernel
theorem dX9_rigNow_19 : decode cX9_rigNow 19 = .ok (.aload_n 3, 1) := by decide +kernel
theorem dX9_rigNow_20 : decode cX9_rigNow 20 = .ok (.getfield 49, 3) := by decide +kernel
theorem dX9_rigNow_23 : decode cX9_rigNow 23 = .ok (.iastore, 1) := by decide +kernel
theorem dX9_rigNow_24 : decode cX9_rigNow 24 = .ok (.dup, 1) := by decide +kernel
theorem dX9_rigNow_25 : decode cX9_rigNow 25 = .ok (.iconst 1, 1) := by decide +kernel
theorem dX9_rigNow_26 : decode cX9_rigNow 26 = .ok (.aload_n 3, 1) := by decide +kernel
theorem dX9_rigNow_27 : decode cX9_rigNow 27 = .ok (.getfield 162, 3) := by decide +kernel
theorem dX9_rigNow_30 : decode cX9_rigNow 30 = .ok (.iastore, 1) := by decide +kernel
theorem dX9_rigNow_31 : decode cX9_rigNow 31 = .ok (.dup, 1) := by decide +kernel
theorem dX9_rigNow_32 : decode cX9_rigNow 32 = .ok (.iconst 2, 1) := by decide +kernel
theorem dX9_rigNow_33 : decode cX9_rigNow 33 = .ok (.aload_n 3, 1) := by decide +kernel
theorem dX9_rigNow_34 : decode cX9_rigNow 34 = .ok (.getfield 159, 3) := by decide +kernel
theorem dX9_rigNow_37 : decode cX9_rigNow 37 = .ok (.iastore, 1) := by decide +kernel
theorem dX9_rigNow_38 : decode cX9_rigNow 38 = .ok (.dup, 1) := by decide +kernel
theorem dX9_rigNow_39 : decode cX9_rigNow 39 = .ok (.iconst 3, 1) := by decide +kernel
theorem dX9_rigNow_40 : decode cX9_rigNow 40 = .ok (.aload_n 3, 1) := by decide +kernel
theorem dX9_rigNow_41 : decode cX9_rigNow 41 = .ok (.getfield 148, 3) := by decide +kernel
theorem dX9_rigNow_44 : decode cX9_rigNow 44 = .ok (.ifCond .eq 7, 3) := by decide +kernel
theorem dX9_rigNow_47 : decode cX9_rigNow 47 = .ok (.iconst 1, 1) := by decide +kernel
theorem dX9_rigNow_48 : decode cX9_rigNow 48 = .ok (.goto 4, 3) := by decide +kernel
theorem dX9_rigNow_51 : decode cX9_rigNow 51 = .ok (.iconst 0, 1) := by decide +kernel
theorem dX9_rigNow_52 : decode cX9_rigNow 52 = .ok (.iastore, 1) := by decide +kernel
theorem dX9_rigNow_53 : decode cX9_rigNow 53 = .ok (.dup, 1) := by decide +kernel
theorem dX9_rigNow_54 : decode cX9_rigNow 54 = .ok (.iconst 4, 1) := by decide +kernel
theorem dX9_rigNow_55 : decode cX9_rigNow 55 = .ok (.aload_n 0, 1) := by decide +kernel
theorem dX9_rigNow_56 : decode cX9_rigNow 56 = .ok (.iload_n 1, 1) := by decide +kernel
theorem dX9_rigNow_57 : decode cX9_rigNow 57 = .ok (.invokevirtual 145, 3) := by decide +kernel
theorem dX9_rigNow_60 : decode cX9_rigNow 60 = .ok (.iastore, 1) := by decide +kernel
theorem dX9_rigNow_61 : decode cX9_rigNow 61 = .ok (.astore 4, 2) := by decide +kernel
theorem dX9_rigNow_63 : decode cX9_rigNow 63 = .ok (.aload 4, 2) := by decide +kernel
theorem dX9_rigNow_65 : decode cX9_rigNow 65 = .ok (.iload_n 2, 1) := by decide +kernel
theorem dX9_rigNow_66 : decode cX9_rigNow 66 = .ok (.iaload, 1) := by decide +kernel
theorem dX9_rigNow_67 : decode cX9_rigNow 67 = .ok (.ireturn, 1) := by decide +kernel
theorem dX9_ofRig_0 : decode cX9_ofRig 0 = .ok (.aload_n 0, 1) := by decide +kernel
theorem dX9_ofRig_1 : decode cX9_ofRig 1 = .ok (.iconst 0, 1) := by decide +kernel
theorem dX9_ofRig_2 : decode cX9_ofRig 2 = .ok (.putfield 30, 3) := by decide +kernel
theorem dX9_ofRig_5 : decode cX9_ofRig 5 = .ok (.aload_n 0, 1) := by decide +kernel
theorem dX9_ofRig_6 : decode cX9_ofRig 6 = .ok (.iload_n 1, 1) := by decide +kernel
theorem dX9_ofRig_7 : decode cX9_ofRig 7 = .ok (.invokevirtual 138, 3) := by decide +kernel
theorem dX9_ofRig_10 : decode cX9_ofRig 10 = .ok (.ifCond .ne 9, 3) := by decide +kernel
theorem dX9_ofRig_13 : decode cX9_ofRig 13 = .ok (.aload_n 0, 1) := by decide +kernel
theorem dX9_ofRig_14 : decode cX9_ofRig 14 = .ok (.iconst 1, 1) := by decide +kernel
theorem dX9_ofRig_15 : decode cX9_ofRig 15 = .ok (.invokevirtual 126, 3) := by decide +kernel
theorem dX9_ofRig_18 : decode cX9_ofRig 18 = .ok (.ireturn, 1) := by decide +kernel
theorem dX9_ofRig_19 : decode cX9_ofRig 19 = .ok (.iload_n 2, 1) := by decide +kernel
theorem dX9_ofRig_20 : decode cX9_ofRig 20 = .ok (.iconst 0, 1) := by decide +kernel
theorem dX9_ofRig_21 : decode cX9_ofRig 21 = .ok (.iconst 4, 1) := by decide +kernel
theorem dX9_ofRig_22 : decode cX9_ofRig 22 = .ok (.invokestatic 39, 3) := by decide +kernel
theorem dX9_ofRig_25 : decode cX9_ofRig 25 = .ok (.ifCond .ne 9, 3) := by decide +kernel
theorem dX9_ofRig_28 : decode cX9_ofRig 28 = .ok (.aload_n 0, 1) := by decide +kernel
theorem dX9_ofRig_29 : decode cX9_ofRig 29 = .ok (.iconst 2, 1) := by decide +kernel
theorem dX9_ofRig_30 : decode cX9_ofRig 30 = .ok (.invokevirtual 126, 3) := by decide +kernel
theorem dX9_ofRig_33 : decode cX9_ofRig 33 = .ok (.ireturn, 1) := by decide +kernel
theorem dX9_ofRig_34 : decode cX9_ofRig 34 = .ok (.aload_n 0, 1) := by decide +kernel
theorem dX9_ofRig_35 : decode cX9_ofRig 35 = .ok (.iload_n 1, 1) := by decide +kernel
theorem dX9_ofRig_36 : decode cX9_ofRig 36 = .ok (.iload_n 2, 1) := by decide +kernel
theorem dX9_ofRig_37 : decode cX9_ofRig 37 = .ok (.invokevirtual 252, 3) := by decide +kernel
theorem dX9_ofRig_40 : decode cX9_ofRig 40 = .ok (.ireturn, 1) := by decide +kernel
theorem dX9_wear_0 : decode cX9_wear 0 = .ok (.aload_n 0, 1) := by decide +kernel
theorem dX9_wear_1 : decode cX9_wear 1 = .ok (.iconst 0, 1) := by decide +kernel
theorem dX9_wear_2 : decode cX9_wear 2 = .ok (.putfield 30, 3) := by decide +kernel
theorem dX9_wear_5 : decode cX9_wear 5 = .ok (.aload_n 0, 1) := by decide +kernel
theorem dX9_wear_6 : decode cX9_wear 6 = .ok (.iload_n 1, 1) := by decide +kernel
theorem dX9_wear_7 : decode cX9_wear 7 = .ok (.invokevirtual 138, 3) := by decide +kernel
theorem dX9_wear_10 : decode cX9_wear 10 = .ok (.ifCond .ne 10, 3) := by decide +kernel
theorem dX9_wear_13 : decode cX9_wear 13 = .ok (.aload_n 0, 1) := by decide +kernel
theorem dX9_wear_14 : decode cX9_wear 14 = .ok (.iconst 1, 1) := by decide +kernel
theorem dX9_wear_15 : decode cX9_wear 15 = .ok (.invokevirtual 126, 3) := by decide +kernel
theorem dX9_wear_18 : decode cX9_wear 18 = .ok (.i2d, 1) := by decide +kernel
theorem dX9_wear_19 : decode cX9_wear 19 = .ok (.dreturn, 1) := by decide +kernel
theorem dX9_wear_20 : decode cX9_wear 20 = .ok (.aload_n 0, 1) := by decide +kernel
theorem dX9_wear_21 : decode cX9_wear 21 = .ok (.getfield 16, 3) := by decide +kernel
theorem dX9_wear_24 : decode cX9_wear 24 = .ok (.iload_n 1, 1) := by decide +kernel
theorem dX9_wear_25 : decode cX9_wear 25 = .ok (.invokeinterface 57 2, 5) := by decide +kernel
theorem dX9_wear_30 : decode cX9_wear 30 = .ok (.checkcast 50, 3) := by decide +kernel
theorem dX9_wear_33 : decode cX9_wear 33 = .ok (.getfield 193, 3) := by decide +kernel
theorem dX9_wear_36 : decode cX9_wear 36 = .ok (.f2d, 1) := by decide +kernel
theorem dX9_wear_37 : decode cX9_wear 37 = .ok (.dreturn, 1) := by decide +kernel
theorem dX9_ofWind_0 : decode cX9_ofWind 0 = .ok (.aload_n 0, 1) := by decide +kernel
theorem dX9_ofWind_1 : decode cX9_ofWind 1 = .ok (.iconst 0, 1) := by decide +kernel
theorem dX9_ofWind_2 : decode cX9_ofWind 2 = .ok (.putfield 30, 3) := by decide +kernel
theorem dX9_ofWind_5 : decode cX9_ofWind 5 = .ok (.iload_n 1, 1) := by decide +kernel
theorem dX9_ofWind_6 : decode cX9_ofWind 6 = .ok (.iconst 0, 1) := by decide +kernel
theorem dX9_ofWind_7 : decode cX9_ofWind 7 = .ok (.bipush 9, 2) := by decide +kernel
theorem dX9_ofWind_9 : decode cX9_ofWind 9 = .ok (.invokestatic 39, 3) := by decide +kernel
theorem dX9_ofWind_12 : decode cX9_ofWind 12 = .ok (.ifCond .ne 9, 3) := by decide +kernel
theorem dX9_ofWind_15 : decode cX9_ofWind 15 = .ok (.aload_n 0, 1) := by decide +kernel
theorem dX9_ofWind_16 : decode cX9_ofWind 16 = .ok (.iconst 1, 1) := by decide +kernel
theorem dX9_ofWind_17 : decode cX9_ofWind 17 = .ok (.invokevirtual 126, 3) := by decide +kernel
theorem dX9_ofWind_20 : decode cX9_ofWind 20 = .ok (.ireturn, 1) := by decide +kernel
theorem dX9_ofWind_21 : decode cX9_ofWind 21 = .ok (.iload_n 2, 1) := by decide +kernel
theorem dX9_ofWind_22 : decode cX9_ofWind 22 = .ok (.ifCond .eq 12, 3) := by decide +kernel
theorem dX9_ofWind_25 : decode cX9_ofWind 25 = .ok (.aload_n 0, 1) := by decide +kernel
theorem dX9_ofWind_26 : decode cX9_ofWind 26 = .ok (.getfield 23, 3) := by decide +kernel
theorem dX9_ofWind_29 : decode cX9_ofWind 29 = .ok (.iload_n 1, 1) := by decide +kernel
theorem dX9_ofWind_30 : decode cX9_ofWind 30 = .ok (.iaload, 1) := by decide +kernel
theorem dX9_ofWind_31 : decode cX9_ofWind 31 = .ok (.goto 9, 3) := by decide +kernel
theorem dX9_ofWind_34 : decode cX9_ofWind 34 = .ok (.aload_n 0, 1) := by decide +kernel
theorem dX9_ofWind_35 : decode cX9_ofWind 35 = .ok (.getfield 19, 3) := by decide +kernel
theorem dX9_ofWind_38 : decode cX9_ofWind 38 = .ok (.iload_n 1, 1) := by decide +kernel
theorem dX9_ofWind_39 : decode cX9_ofWind 39 = .ok (.iaload, 1) := by decide +kernel
theorem dX9_ofWind_40 : decode cX9_ofWind 40 = .ok (.ireturn, 1) := by decide +kernel
theorem dX9_manyNow_0 : decode cX9_manyNow 0 = .ok (.bipush 13, 2) := by decide +kernel
theorem dX9_manyNow_2 : decode cX9_manyNow 2 = .ok (.newarray .int, 2) := by decide +kernel
theorem dX9_manyNow_4 : decode cX9_manyNow 4 = .ok (.dup, 1) := by decide +kernel
theorem dX9_manyNow_5 : decode cX9_manyNow 5 = .ok (.iconst 0, 1) := by decide +kernel
theorem dX9_manyNow_6 : decode cX9_manyNow 6 = .ok (.aload_n 0, 1) := by decide +kernel
theorem dX9_manyNow_7 : decode cX9_manyNow 7 = .ok (.getfield 129, 3) := by decide +kernel
theorem dX9_manyNow_10 : decode cX9_manyNow 10 = .ok (.iastore, 1) := by decide +kernel
theorem dX9_manyNow_11 : decode cX9_manyNow 11 = .ok (.dup, 1) := by decide +kernel
theorem dX9_manyNow_12 : decode cX9_manyNow 12 = .ok (.iconst 1, 1) := by decide +kernel
theorem dX9_manyNow_13 : decode cX9_manyNow 13 = .ok (.aload_n 0, 1) := by decide +kernel
theorem dX9_manyNow_14 : decode cX9_manyNow 14 = .ok (.getfield 10, 3) := by decide +kernel
theorem dX9_manyNow_17 : decode cX9_manyNow 17 = .ok (.invokeinterface 33 1, 5) := by decide +kernel
theorem dX9_manyNow_22 : decode cX9_manyNow 22 = .ok (.iastore, 1) := by decide +kernel
theorem dX9_manyNow_23 : decode cX9_manyNow 23 = .ok (.dup, 1) := by decide +kernel
theorem dX9_manyNow_24 : decode cX9_manyNow 24 = .ok (.iconst 2, 1) := by decide +kernel
theorem dX9_manyNow_25 : decode cX9_manyNow 25 = .ok (.aload_n 0, 1) := by decide +kernel
theorem dX9_manyNow_26 : decode cX9_manyNow 26 = .ok (.getfield 16, 3) := by decide +kernel
theorem dX9_manyNow_29 : decode cX9_manyNow 29 = .ok (.invokeinterface 33 1, 5) := by decide +kernel
theorem dX9_manyNow_34 : decode cX9_manyNow 34 = .ok (.iastore, 1) := by decide +kernel
theorem dX9_manyNow_35 : decode cX9_manyNow 35 = .ok (.dup, 1) := by decide +kernel
theorem dX9_manyNow_36 : decode cX9_manyNow 36 = .ok (.iconst 3, 1) := by decide +kernel
theorem dX9_manyNow_37 : decode cX9_manyNow 37 = .ok (.aload_n 0, 1) := by decide +kernel
theorem dX9_manyNow_38 : decode cX9_manyNow 38 = .ok (.invokevirtual 165, 3) := by decide +kernel
theorem dX9_manyNow_41 : decode cX9_manyNow 41 = .ok (.iastore, 1) := by decide +kernel
theorem dX9_manyNow_42 : decode cX9_manyNow 42 = .ok (.dup, 1) := by decide +kernel
theorem dX9_manyNow_43 : decode cX9_manyNow 43 = .ok (.iconst 4, 1) := by decide +kernel
theorem dX9_manyNow_44 : decode cX9_manyNow 44 = .ok (.aload_n 0, 1) := by decide +kernel
theorem dX9_manyNow_45 : decode cX9_manyNow 45 = .ok (.invokevirtual 87, 3) := by decide +kernel
theorem dX9_manyNow_48 : decode cX9_manyNow 48 = .ok (.iastore, 1) := by decide +kernel
theorem dX9_manyNow_49 : decode cX9_manyNow 49 = .ok (.dup, 1) := by decide +kernel
theorem dX9_manyNow_50 : decode cX9_manyNow 50 = .ok (.iconst 5, 1) := by decide +kernel
theorem dX9_manyNow_51 : decode cX9_manyNow 51 = .ok (.aload_n 0, 1) := by decide +kernel
theorem dX9_manyNow_52 : decode cX9_manyNow 52 = .ok (.getfield 26, 3) := by decide +kernel
theorem dX9_manyNow_55 : decode cX9_manyNow 55 = .ok (.iastore, 1) := by decide +kernel
theorem dX9_manyNow_56 : decode cX9_manyNow 56 = .ok (.dup, 1) := by decide +kernel
theorem dX9_manyNow_57 : decode cX9_manyNow 57 = .ok (.bipush 6, 2) := by decide +kernel
theorem dX9_manyNow_59 : decode cX9_manyNow 59 = .ok (.aload_n 0, 1) := by decide +kernel
theorem dX9_manyNow_60 : decode cX9_manyNow 60 = .ok (.getfield 211, 3) := by decide +kernel
theorem dX9_manyNow_63 : decode cX9_manyNow 63 = .ok (.iastore, 1) := by decide +kernel
theorem dX9_manyNow_64 : decode cX9_manyNow 64 = .ok (.dup, 1) := by decide +kernel
theorem dX9_manyNow_65 : decode cX9_manyNow 65 = .ok (.bipush 7, 2) := by decide +kernel
theorem dX9_manyNow_67 : decode cX9_manyNow 67 = .ok (.aload_n 0, 1) := by decide +kernel
theorem dX9_manyNow_68 : decode cX9_manyNow 68 = .ok (.getfield 234, 3) := by decide +kernel
theorem dX9_manyNow_71 : decode cX9_manyNow 71 = .ok (.iastore, 1) := by decide +kernel
theorem dX9_manyNow_72 : decode cX9_manyNow 72 = .ok (.dup, 1) := by decide +kernel
theorem dX9_manyNow_73 : decode cX9_manyNow 73 = .ok (.bipush 8, 2) := by decide +kernel
theorem dX9_manyNow_75 : decode cX9_manyNow 75 = .ok (.aload_n 0, 1) := by decide +kernel
theorem dX9_manyNow_76 : decode cX9_manyNow 76 = .ok (.getfield 221, 3) := by decide +kernel
theorem dX9_manyNow_79 : decode cX9_manyNow 79 = .ok (.iastore, 1) := by decide +kernel
theorem dX9_manyNow_80 : decode cX9_manyNow 80 = .ok (.dup, 1) := by decide +kernel
theorem dX9_manyNow_81 : decode cX9_manyNow 81 = .ok (.bipush 9, 2) := by decide +kernel
theorem dX9_manyNow_83 : decode cX9_manyNow 83 = .ok (.aload_n 0, 1) := by decide +kernel
theorem dX9_manyNow_84 : decode cX9_manyNow 84 = .ok (.getfield 222, 3) := by decide +kernel
theorem dX9_manyNow_87 : decode cX9_manyNow 87 = .ok (.iastore, 1) := by decide +kernel
theorem dX9_manyNow_88 : decode cX9_manyNow 88 = .ok (.dup, 1) := by decide +kernel
theorem dX9_manyNow_89 : decode cX9_manyNow 89 = .ok (.bipush 10, 2) := by decide +kernel
theorem dX9_manyNow_91 : decode cX9_manyNow 91 = .ok (.aload_n 0, 1) := by decide +kernel
theorem dX9_manyNow_92 : decode cX9_manyNow 92 = .ok (.getfield 200, 3) := by decide +kernel
theorem dX9_manyNow_95 : decode cX9_manyNow 95 = .ok (.iastore, 1) := by decide +kernel
theorem dX9_manyNow_96 : decode cX9_manyNow 96 = .ok (.dup, 1) := by decide +kernel
theorem dX9_manyNow_97 : decode cX9_manyNow 97 = .ok (.bipush 11, 2) := by decide +kernel
theorem dX9_manyNow_99 : decode cX9_manyNow 99 = .ok (.aload_n 0, 1) := by decide +kernel
theorem dX9_manyNow_100 : decode cX9_manyNow 100 = .ok (.getfield 178, 3) := by decide +kernel
theorem dX9_manyNow_103 : decode cX9_manyNow 103 = .ok (.ifCond .eq 7, 3) := by decide +kernel
theorem dX9_manyNow_106 : decode cX9_manyNow 106 = .ok (.iconst 1, 1) := by decide +kernel
theorem dX9_manyNow_107 : decode cX9_manyNow 107 = .ok (.goto 4, 3) := by decide +kernel
theorem dX9_manyNow_110 : decode cX9_manyNow 110 = .ok (.iconst 0, 1) := by decide +kernel
theorem dX9_manyNow_111 : decode cX9_manyNow 111 = .ok (.iastore, 1) := by decide +kernel
theorem dX9_manyNow_112 : decode cX9_manyNow 112 = .ok (.dup, 1) := by decide +kernel
theorem dX9_manyNow_113 : decode cX9_manyNow 113 = .ok (.bipush 12, 2) := by decide +kernel
theorem dX9_manyNow_115 : decode cX9_manyNow 115 = .ok (.aload_n 0, 1) := by decide +kernel
theorem dX9_manyNow_116 : decode cX9_manyNow 116 = .ok (.getfield 246, 3) := by decide +kernel
theorem dX9_manyNow_119 : decode cX9_manyNow 119 = .ok (.iastore, 1) := by decide +kernel
theorem dX9_manyNow_120 : decode cX9_manyNow 120 = .ok (.astore_n 2, 1) := by decide +kernel
theorem dX9_manyNow_121 : decode cX9_manyNow 121 = .ok (.aload_n 2, 1) := by decide +kernel
theorem dX9_manyNow_122 : decode cX9_manyNow 122 = .ok (.iload_n 1, 1) := by decide +kernel
theorem dX9_manyNow_123 : decode cX9_manyNow 123 = .ok (.iaload, 1) := by decide +kernel
theorem dX9_manyNow_124 : decode cX9_manyNow 124 = .ok (.ireturn, 1) := by decide +kernel
theorem dX9_many_0 : decode cX9_many 0 = .ok (.aload_n 0, 1) := by decide +kernel
theorem dX9_many_1 : decode cX9_many 1 = .ok (.iconst 0, 1) := by decide +kernel
theorem dX9_many_2 : decode cX9_many 2 = .ok (.putfield 30, 3) := by decide +kernel
theorem dX9_many_5 : decode cX9_many 5 = .ok (.iload_n 1, 1) := by decide +kernel
theorem dX9_many_6 : decode cX9_many 6 = .ok (.iconst 0, 1) := by decide +kernel
theorem dX9_many_7 : decode cX9_many 7 = .ok (.bipush 12, 2) := by decide +kernel
theorem dX9_many_9 : decode cX9_many 9 = .ok (.invokestatic 39, 3) := by decide +kernel
theorem dX9_many_12 : decode cX9_many 12 = .ok (.ifCond .ne 9, 3) := by decide +kernel
theorem dX9_many_15 : decode cX9_many 15 = .ok (.aload_n 0, 1) := by decide +kernel
theorem dX9_many_16 : decode cX9_many 16 = .ok (.iconst 1, 1) := by decide +kernel
theorem dX9_many_17 : decode cX9_many 17 = .ok (.invokevirtual 126, 3) := by decide +kernel
theorem dX9_many_20 : decode cX9_many 20 = .ok (.ireturn, 1) := by decide +kernel
theorem dX9_many_21 : decode cX9_many 21 = .ok (.aload_n 0, 1) := by decide +kernel
theorem dX9_many_22 : decode cX9_many 22 = .ok (.iload_n 1, 1) := by decide +kernel
theorem dX9_many_23 : decode cX9_many 23 = .ok (.invokevirtual 255, 3) := by decide +kernel
theorem dX9_many_26 : decode cX9_many 26 = .ok (.ireturn, 1) := by decide +kernel
theorem dX9_order_0 : decode cX9_order 0 = .ok (.aload_n 0, 1) := by decide +kernel
theorem dX9_order_1 : decode cX9_order 1 = .ok (.iconst 0, 1) := by decide +kernel
theorem dX9_order_2 : decode cX9_order 2 = .ok (.putfield 30, 3) := by decide +kernel
theorem dX9_order_5 : decode cX9_order 5 = .ok (.iload_n 1, 1) := by decide +kernel
theorem dX9_order_6 : decode cX9_order 6 = .ok (.iconst 0, 1) := by decide +kernel
theorem dX9_order_7 : decode cX9_order 7 = .ok (.aload_n 0, 1) := by decide +kernel
theorem dX9_order_8 : decode cX9_order 8 = .ok (.invokevirtual 87, 3) := by decide +kernel
theorem dX9_order_11 : decode cX9_order 11 = .ok (.iconst 1, 1) := by decide +kernel
theorem dX9_order_12 : decode cX9_order 12 = .ok (.isub, 1) := by decide +kernel
theorem dX9_order_13 : decode cX9_order 13 = .ok (.invokestatic 39, 3) := by decide +kernel
theorem dX9_order_16 : decode cX9_order 16 = .ok (.ifCond .ne 9, 3) := by decide +kernel
theorem dX9_order_19 : decode cX9_order 19 = .ok (.aload_n 0, 1) := by decide +kernel
theorem dX9_order_20 : decode cX9_order 20 = .ok (.iconst 1, 1) := by decide +kernel
theorem dX9_order_21 : decode cX9_order 21 = .ok (.invokevirtual 126, 3) := by decide +kernel
theorem dX9_order_24 : decode cX9_order 24 = .ok (.ireturn, 1) := by decide +kernel
theorem dX9_order_25 : decode cX9_order 25 = .ok (.aload_n 0, 1) := by decide +kernel
theorem dX9_order_26 : decode cX9_order 26 = .ok (.iload_n 1, 1) := by decide +kernel
theorem dX9_order_27 : decode cX9_order 27 = .ok (.invokevirtual 90, 3) := by decide +kernel
theorem dX9_order_30 : decode cX9_order 30 = .ok (.ireturn, 1) := by decide +kernel
theorem dX9_refusal_0 : decode cX9_refusal 0 = .ok (.aload_n 0, 1) := by decide +kernel
theorem dX9_refusal_1 : decode cX9_refusal 1 = .ok (.iload_n 1, 1) := by decide +kernel
theorem dX9_refusal_2 : decode cX9_refusal 2 = .ok (.invokevirtual 142, 3) := by decide +kernel
theorem dX9_refusal_5 : decode cX9_refusal 5 = .ok (.ifCond .ne 5, 3) := by decide +kernel
theorem dX9_refusal_8 : decode cX9_refusal 8 = .ok (.iconst 1, 1) := by decide +kernel
theorem dX9_refusal_9 : decode cX9_refusal 9 = .ok (.ireturn, 1) := by decide +kernel
theorem dX9_refusal_10 : decode cX9_refusal 10 = .ok (.iload_n 2, 1) := by decide +kernel
theorem dX9_refusal_11 : decode cX9_refusal 11 = .ok (.iconst 0, 1) := by decide +kernel
theorem dX9_refusal_12 : decode cX9_refusal 12 = .ok (.iconst 1, 1) := by decide +kernel
theorem dX9_refusal_13 : decode cX9_refusal 13 = .ok (.invokestatic 39, 3) := by decide +kernel
theorem dX9_refusal_16 : decode cX9_refusal 16 = .ok (.ifCond .eq 27, 3) := by decide +kernel
theorem dX9_refusal_19 : decode cX9_refusal 19 = .ok (.iload_n 3, 1) := by decide +kernel
theorem dX9_refusal_20 : decode cX9_refusal 20 = .ok (.iconst 2, 1) := by decide +kernel
theorem dX9_refusal_21 : decode cX9_refusal 21 = .ok (.bipush 6, 2) := by decide +kernel
theorem dX9_refusal_23 : decode cX9_refusal 23 = .ok (.invokestatic 39, 3) := by decide +kernel
theorem dX9_refusal_26 : decode cX9_refusal 26 = .ok (.ifCond .eq 17, 3) := by decide +kernel
theorem dX9_refusal_29 : decode cX9_refusal 29 = .ok (.iload 4, 2) := by decide +kernel
theorem dX9_refusal_31 : decode cX9_refusal 31 = .ok (.sipush (-200), 3) := by decide +kernel
theorem dX9_refusal_34 : decode cX9_refusal 34 = .ok (.sipush 200, 3) := by decide +kernel
theorem dX9_refusal_37 : decode cX9_refusal 37 = .ok (.invokestatic 39, 3) := by decide +kernel
theorem dX9_refusal_40 : decode cX9_refusal 40 = .ok (.ifCond .ne 5, 3) := by decide +kernel
theorem dX9_refusal_43 : decode cX9_refusal 43 = .ok (.iconst 2, 1) := by decide +kernel
theorem dX9_refusal_44 : decode cX9_refusal 44 = .ok (.ireturn, 1) := by decide +kernel
theorem dX9_refusal_45 : decode cX9_refusal 45 = .ok (.aload_n 0, 1) := by decide +kernel
theorem dX9_refusal_46 : decode cX9_refusal 46 = .ok (.getfield 10, 3) := by decide +kernel
theorem dX9_refusal_49 : decode cX9_refusal 49 = .ok (.iload_n 1, 1) := by decide +kernel
theorem dX9_refusal_50 : decode cX9_refusal 50 = .ok (.invokeinterface 57 2, 5) := by decide +kernel
theorem dX9_refusal_55 : decode cX9_refusal 55 = .ok (.checkcast 44, 3) := by decide +kernel
theorem dX9_refusal_58 : decode cX9_refusal 58 = .ok (.getfield 54, 3) := by decide +kernel
theorem dX9_refusal_61 : decode cX9_refusal 61 = .ok (.iconst (-1), 1) := by decide +kernel
theorem dX9_refusal_62 : decode cX9_refusal 62 = .ok (.if_icmp .ne 7, 3) := by decide +kernel
theorem dX9_refusal_65 : decode cX9_refusal 65 = .ok (.iconst 3, 1) := by decide +kernel
theorem dX9_refusal_66 : decode cX9_refusal 66 = .ok (.goto 4, 3) := by decide +kernel
theorem dX9_refusal_69 : decode cX9_refusal 69 = .ok (.iconst 0, 1) := by decide +kernel
theorem dX9_refusal_70 : decode cX9_refusal 70 = .ok (.ireturn, 1) := by decide +kernel
theorem dX9_wouldLand_0 : decode cX9_wouldLand 0 = .ok (.aload_n 0, 1) := by decide +kernel
theorem dX9_wouldLand_1 : decode cX9_wouldLand 1 = .ok (.aload_n 0, 1) := by decide +kernel
theorem dX9_wouldLand_2 : decode cX9_wouldLand 2 = .ok (.iload_n 1, 1) := by decide +kernel
theorem dX9_wouldLand_3 : decode cX9_wouldLand 3 = .ok (.iload_n 2, 1) := by decide +kernel
theorem dX9_wouldLand_4 : decode cX9_wouldLand 4 = .ok (.iload_n 3, 1) := by decide +kernel
theorem dX9_wouldLand_5 : decode cX9_wouldLand 5 = .ok (.iload 4, 2) := by decide +kernel
theorem dX9_wouldLand_7 : decode cX9_wouldLand 7 = .ok (.invokevirtual 258, 3) := by decide +kernel
theorem dX9_wouldLand_10 : decode cX9_wouldLand 10 = .ok (.putfield 30, 3) := by decide +kernel
theorem dX9_wouldLand_13 : decode cX9_wouldLand 13 = .ok (.aload_n 0, 1) := by decide +kernel
theorem dX9_wouldLand_14 : decode cX9_wouldLand 14 = .ok (.getfield 30, 3) := by decide +kernel
theorem dX9_wouldLand_17 : decode cX9_wouldLand 17 = .ok (.ifCond .le 5, 3) := by decide +kernel
theorem dX9_wouldLand_20 : decode cX9_wouldLand 20 = .ok (.dconst 0, 1) := by decide +kernel
theorem dX9_wouldLand_21 : decode cX9_wouldLand 21 = .ok (.dreturn, 1) := by decide +kernel
theorem dX9_wouldLand_22 : decode cX9_wouldLand 22 = .ok (.new 93, 3) := by decide +kernel
theorem dX9_wouldLand_25 : decode cX9_wouldLand 25 = .ok (.dup, 1) := by decide +kernel
theorem dX9_wouldLand_26 : decode cX9_wouldLand 26 = .ok (.aload_n 0, 1) := by decide +kernel
theorem dX9_wouldLand_27 : decode cX9_wouldLand 27 = .ok (.aload_n 0, 1) := by decide +kernel
theorem dX9_wouldLand_28 : decode cX9_wouldLand 28 = .ok (.getfield 10, 3) := by decide +kernel
theorem dX9_wouldLand_31 : decode cX9_wouldLand 31 = .ok (.iload_n 1, 1) := by decide +kernel
theorem dX9_wouldLand_32 : decode cX9_wouldLand 32 = .ok (.invokeinterface 57 2, 5) := by decide +kernel
theorem dX9_wouldLand_37 : decode cX9_wouldLand 37 = .ok (.checkcast 44, 3) := by decide +kernel
theorem dX9_wouldLand_40 : decode cX9_wouldLand 40 = .ok (.iload_n 2, 1) := by decide +kernel
theorem dX9_wouldLand_41 : decode cX9_wouldLand 41 = .ok (.iload_n 3, 1) := by decide +kernel
theorem dX9_wouldLand_42 : decode cX9_wouldLand 42 = .ok (.iconst 0, 1) := by decide +kernel
theorem dX9_wouldLand_43 : decode cX9_wouldLand 43 = .ok (.iload 4, 2) := by decide +kernel
theorem dX9_wouldLand_45 : decode cX9_wouldLand 45 = .ok (.i2d, 1) := by decide +kernel
theorem dX9_wouldLand_46 : decode cX9_wouldLand 46 = .ok (.invokespecial 100, 3) := by decide +kernel
theorem dX9_wouldLand_49 : decode cX9_wouldLand 49 = .ok (.astore 6, 2) := by decide +kernel
theorem dX9_wouldLand_51 : decode cX9_wouldLand 51 = .ok (.aload 6, 2) := by decide +kernel
theorem dX9_wouldLand_53 : decode cX9_wouldLand 53 = .ok (.invokevirtual 112, 3) := by decide +kernel
theorem dX9_wouldLand_56 : decode cX9_wouldLand 56 = .ok (.ifCond .ne 11, 3) := by decide +kernel
theorem dX9_wouldLand_59 : decode cX9_wouldLand 59 = .ok (.aload 6, 2) := by decide +kernel
theorem dX9_wouldLand_61 : decode cX9_wouldLand 61 = .ok (.invokevirtual 116, 3) := by decide +kernel
theorem dX9_wouldLand_64 : decode cX9_wouldLand 64 = .ok (.goto (-13), 3) := by decide +kernel
theorem dX9_wouldLand_67 : decode cX9_wouldLand 67 = .ok (.iload 5, 2) := by decide +kernel
theorem dX9_wouldLand_69 : decode cX9_wouldLand 69 = .ok (.ifCond .eq 11, 3) := by decide +kernel
theorem dX9_wouldLand_72 : decode cX9_wouldLand 72 = .ok (.aload 6, 2) := by decide +kernel
theorem dX9_wouldLand_74 : decode cX9_wouldLand 74 = .ok (.getfield 242, 3) := by decide +kernel
theorem dX9_wouldLand_77 : decode cX9_wouldLand 77 = .ok (.goto 8, 3) := by decide +kernel
theorem dX9_wouldLand_80 : decode cX9_wouldLand 80 = .ok (.aload 6, 2) := by decide +kernel
theorem dX9_wouldLand_82 : decode cX9_wouldLand 82 = .ok (.getfield 237, 3) := by decide +kernel
theorem dX9_wouldLand_85 : decode cX9_wouldLand 85 = .ok (.dreturn, 1) := by decide +kernel
theorem dX9_takes_0 : decode cX9_takes 0 = .ok (.aload_n 0, 1) := by decide +kernel
theorem dX9_takes_1 : decode cX9_takes 1 = .ok (.aload_n 0, 1) := by decide +kernel
theorem dX9_takes_2 : decode cX9_takes 2 = .ok (.iload_n 1, 1) := by decide +kernel
theorem dX9_takes_3 : decode cX9_takes 3 = .ok (.iload_n 2, 1) := by decide +kernel
theorem dX9_takes_4 : decode cX9_takes 4 = .ok (.iload_n 3, 1) := by decide +kernel
theorem dX9_takes_5 : decode cX9_takes 5 = .ok (.iconst 0, 1) := by decide +kernel
theorem dX9_takes_6 : decode cX9_takes 6 = .ok (.invokevirtual 258, 3) := by decide +kernel
theorem dX9_takes_9 : decode cX9_takes 9 = .ok (.putfield 30, 3) := by decide +kernel
theorem dX9_takes_12 : decode cX9_takes 12 = .ok (.aload_n 0, 1) := by decide +kernel
theorem dX9_takes_13 : decode cX9_takes 13 = .ok (.getfield 30, 3) := by decide +kernel
theorem dX9_takes_16 : decode cX9_takes 16 = .ok (.ifCond .le 5, 3) := by decide +kernel
theorem dX9_takes_19 : decode cX9_takes 19 = .ok (.iconst 0, 1) := by decide +kernel
theorem dX9_takes_20 : decode cX9_takes 20 = .ok (.ireturn, 1) := by decide +kernel
theorem dX9_takes_21 : decode cX9_takes 21 = .ok (.new 93, 3) := by decide +kernel
theorem dX9_takes_24 : decode cX9_takes 24 = .ok (.dup, 1) := by decide +kernel
theorem dX9_takes_25 : decode cX9_takes 25 = .ok (.aload_n 0, 1) := by decide +kernel
theorem dX9_takes_26 : decode cX9_takes 26 = .ok (.aload_n 0, 1) := by decide +kernel
theorem dX9_takes_27 : decode cX9_takes 27 = .ok (.getfield 10, 3) := by decide +kernel
theorem dX9_takes_30 : decode cX9_takes 30 = .ok (.iload_n 1, 1) := by decide +kernel
theorem dX9_takes_31 : decode cX9_takes 31 = .ok (.invokeinterface 57 2, 5) := by decide +kernel
theorem dX9_takes_36 : decode cX9_takes 36 = .ok (.checkcast 44, 3) := by decide +kernel
theorem dX9_takes_39 : decode cX9_takes 39 = .ok (.iload_n 2, 1) := by decide +kernel
theorem dX9_takes_40 : decode cX9_takes 40 = .ok (.iload_n 3, 1) := by decide +kernel
theorem dX9_takes_41 : decode cX9_takes 41 = .ok (.iconst 0, 1) := by decide +kernel
theorem dX9_takes_42 : decode cX9_takes 42 = .ok (.dconst 0, 1) := by decide +kernel
theorem dX9_takes_43 : decode cX9_takes 43 = .ok (.invokespecial 100, 3) := by decide +kernel
theorem dX9_takes_46 : decode cX9_takes 46 = .ok (.astore 4, 2) := by decide +kernel
theorem dX9_takes_48 : decode cX9_takes 48 = .ok (.iconst 0, 1) := by decide +kernel
theorem dX9_takes_49 : decode cX9_takes 49 = .ok (.istore 5, 2) := by decide +kernel
theorem dX9_takes_51 : decode cX9_takes 51 = .ok (.aload 4, 2) := by decide +kernel
theorem dX9_takes_53 : decode cX9_takes 53 = .ok (.invokevirtual 112, 3) := by decide +kernel
theorem dX9_takes_56 : decode cX9_takes 56 = .ok (.ifCond .ne 14, 3) := by decide +kernel
theorem dX9_takes_59 : decode cX9_takes 59 = .ok (.aload 4, 2) := by decide +kernel
theorem dX9_takes_61 : decode cX9_takes 61 = .ok (.invokevirtual 116, 3) := by decide +kernel
theorem dX9_takes_64 : decode cX9_takes 64 = .ok (.iinc 5 1, 3) := by decide +kernel
theorem dX9_takes_67 : decode cX9_takes 67 = .ok (.goto (-16), 3) := by decide +kernel
theorem dX9_takes_70 : decode cX9_takes 70 = .ok (.iload 5, 2) := by decide +kernel
theorem dX9_takes_72 : decode cX9_takes 72 = .ok (.ireturn, 1) := by decide +kernel
theorem dX9_spotNow_0 : decode cX9_spotNow 0 = .ok (.aload_n 0, 1) := by decide +kernel
theorem dX9_spotNow_1 : decode cX9_spotNow 1 = .ok (.invokevirtual 87, 3) := by decide +kernel
theorem dX9_spotNow_4 : decode cX9_spotNow 4 = .ok (.ifCond .ne 5, 3) := by decide +kernel
theorem dX9_spotNow_7 : decode cX9_spotNow 7 = .ok (.iconst 0, 1) := by decide +kernel
theorem dX9_spotNow_8 : decode cX9_spotNow 8 = .ok (.ireturn, 1) := by decide +kernel
theorem dX9_spotNow_9 : decode cX9_spotNow 9 = .ok (.iconst 0, 1) := by decide +kernel
theorem dX9_spotNow_10 : decode cX9_spotNow 10 = .ok (.istore_n 2, 1) := by decide +kernel
theorem dX9_spotNow_11 : decode cX9_spotNow 11 = .ok (.iconst (-1), 1) := by decide +kernel
theorem dX9_spotNow_12 : decode cX9_spotNow 12 = .ok (.istore_n 3, 1) := by decide +kernel
theorem dX9_spotNow_13 : decode cX9_spotNow 13 = .ok (.iconst 0, 1) := by decide +kernel
theorem dX9_spotNow_14 : decode cX9_spotNow 14 = .ok (.istore 4, 2) := by decide +kernel
theorem dX9_spotNow_16 : decode cX9_spotNow 16 = .ok (.iload 4, 2) := by decide +kernel
theorem dX9_spotNow_18 : decode cX9_spotNow 18 = .ok (.sipush 200, 3) := by decide +kernel
theorem dX9_spotNow_21 : decode cX9_spotNow 21 = .ok (.if_icmp .gt 66, 3) := by decide +kernel
theorem dX9_spotNow_24 : decode cX9_spotNow 24 = .ok (.iconst (-1), 1) := by decide +kernel
theorem dX9_spotNow_25 : decode cX9_spotNow 25 = .ok (.istore 5, 2) := by decide +kernel
theorem dX9_spotNow_27 : decode cX9_spotNow 27 = .ok (.iload 5, 2) := by decide +kernel
theorem dX9_spotNow_29 : decode cX9_spotNow 29 = .ok (.iconst 2, 1) := by decide +kernel
theorem dX9_spotNow_30 : decode cX9_spotNow 30 = .ok (.if_icmp .ge 51, 3) := by decide +kernel
theorem dX9_spotNow_33 : decode cX9_spotNow 33 = .ok (.aload_n 0, 1) := by decide +kernel
theorem dX9_spotNow_34 : decode cX9_spotNow 34 = .ok (.iload 5, 2) := by decide +kernel
theorem dX9_spotNow_36 : decode cX9_spotNow 36 = .ok (.iload 4, 2) := by decide +kernel
theorem dX9_spotNow_38 : decode cX9_spotNow 38 = .ok (.imul, 1) := by decide +kernel
theorem dX9_spotNow_39 : decode cX9_spotNow 39 = .ok (.iload_n 1, 1) := by decide +kernel
theorem dX9_spotNow_40 : decode cX9_spotNow 40 = .ok (.invokevirtual 185, 3) := by decide +kernel
theorem dX9_spotNow_43 : decode cX9_spotNow 43 = .ok (.astore 6, 2) := by decide +kernel
theorem dX9_spotNow_45 : decode cX9_spotNow 45 = .ok (.aload 6, 2) := by decide +kernel
theorem dX9_spotNow_47 : decode cX9_spotNow 47 = .ok (.invokestatic 203, 3) := by decide +kernel
theorem dX9_spotNow_50 : decode cX9_spotNow 50 = .ok (.pop, 1) := by decide +kernel
theorem dX9_spotNow_51 : decode cX9_spotNow 51 = .ok (.aload 6, 2) := by decide +kernel
theorem dX9_spotNow_53 : decode cX9_spotNow 53 = .ok (.invokestatic 214, 3) := by decide +kernel
theorem dX9_spotNow_56 : decode cX9_spotNow 56 = .ok (.iload_n 3, 1) := by decide +kernel
theorem dX9_spotNow_57 : decode cX9_spotNow 57 = .ok (.if_icmp .gt 6, 3) := by decide +kernel
theorem dX9_spotNow_60 : decode cX9_spotNow 60 = .ok (.goto 15, 3) := by decide +kernel
theorem dX9_spotNow_63 : decode cX9_spotNow 63 = .ok (.aload 6, 2) := by decide +kernel
theorem dX9_spotNow_65 : decode cX9_spotNow 65 = .ok (.invokestatic 214, 3) := by decide +kernel
theorem dX9_spotNow_68 : decode cX9_spotNow 68 = .ok (.istore_n 3, 1) := by decide +kernel
theorem dX9_spotNow_69 : decode cX9_spotNow 69 = .ok (.iload 5, 2) := by decide +kernel
theorem dX9_spotNow_71 : decode cX9_spotNow 71 = .ok (.iload 4, 2) := by decide +kernel
theorem dX9_spotNow_73 : decode cX9_spotNow 73 = .ok (.imul, 1) := by decide +kernel
theorem dX9_spotNow_74 : decode cX9_spotNow 74 = .ok (.istore_n 2, 1) := by decide +kernel
theorem dX9_spotNow_75 : decode cX9_spotNow 75 = .ok (.iinc 5 2, 3) := by decide +kernel
theorem dX9_spotNow_78 : decode cX9_spotNow 78 = .ok (.goto (-51), 3) := by decide +kernel
theorem dX9_spotNow_81 : decode cX9_spotNow 81 = .ok (.iinc 4 20, 3) := by decide +kernel
theorem dX9_spotNow_84 : decode cX9_spotNow 84 = .ok (.goto (-68), 3) := by decide +kernel
theorem dX9_spotNow_87 : decode cX9_spotNow 87 = .ok (.iload_n 2, 1) := by decide +kernel
theorem dX9_spotNow_88 : decode cX9_spotNow 88 = .ok (.ireturn, 1) := by decide +kernel
theorem dX9_spot_0 : decode cX9_spot 0 = .ok (.aload_n 0, 1) := by decide +kernel
theorem dX9_spot_1 : decode cX9_spot 1 = .ok (.iconst 0, 1) := by decide +kernel
theorem dX9_spot_2 : decode cX9_spot 2 = .ok (.putfield 30, 3) := by decide +kernel
theorem dX9_spot_5 : decode cX9_spot 5 = .ok (.iload_n 1, 1) := by decide +kernel
theorem dX9_spot_6 : decode cX9_spot 6 = .ok (.iconst 1, 1) := by decide +kernel
theorem dX9_spot_7 : decode cX9_spot 7 = .ok (.bipush 9, 2) := by decide +kernel
theorem dX9_spot_9 : decode cX9_spot 9 = .ok (.invokestatic 39, 3) := by decide +kernel
theorem dX9_spot_12 : decode cX9_spot 12 = .ok (.ifCond .ne 9, 3) := by decide +kernel
theorem dX9_spot_15 : decode cX9_spot 15 = .ok (.aload_n 0, 1) := by decide +kernel
theorem dX9_spot_16 : decode cX9_spot 16 = .ok (.iconst 1, 1) := by decide +kernel
theorem dX9_spot_17 : decode cX9_spot 17 = .ok (.invokevirtual 126, 3) := by decide +kernel
theorem dX9_spot_20 : decode cX9_spot 20 = .ok (.ireturn, 1) := by decide +kernel
theorem dX9_spot_21 : decode cX9_spot 21 = .ok (.aload_n 0, 1) := by decide +kernel
theorem dX9_spot_22 : decode cX9_spot 22 = .ok (.iload_n 1, 1) := by decide +kernel
theorem dX9_spot_23 : decode cX9_spot 23 = .ok (.invokevirtual 262, 3) := by decide +kernel
theorem dX9_spot_26 : decode cX9_spot 26 = .ok (.ireturn, 1) := by decide +kernel
theorem dX9_wouldMeet_0 : decode cX9_wouldMeet 0 = .ok (.aload_n 0, 1) := by decide +kernel
theorem dX9_wouldMeet_1 : decode cX9_wouldMeet 1 = .ok (.iconst 0, 1) := by decide +kernel
theorem dX9_wouldMeet_2 : decode cX9_wouldMeet 2 = .ok (.putfield 30, 3) := by decide +kernel
theorem dX9_wouldMeet_5 : decode cX9_wouldMeet 5 = .ok (.iload_n 1, 1) := by decide +kernel
theorem dX9_wouldMeet_6 : decode cX9_wouldMeet 6 = .ok (.iconst 1, 1) := by decide +kernel
theorem dX9_wouldMeet_7 : decode cX9_wouldMeet 7 = .ok (.bipush 9, 2) := by decide +kernel
theorem dX9_wouldMeet_9 : decode cX9_wouldMeet 9 = .ok (.invokestatic 39, 3) := by decide +kernel
theorem dX9_wouldMeet_12 : decode cX9_wouldMeet 12 = .ok (.ifCond .eq 16, 3) := by decide +kernel
theorem dX9_wouldMeet_15 : decode cX9_wouldMeet 15 = .ok (.iload_n 2, 1) := by decide +kernel
theorem dX9_wouldMeet_16 : decode cX9_wouldMeet 16 = .ok (.sipush (-200), 3) := by decide +kernel
theorem dX9_wouldMeet_19 : decode cX9_wouldMeet 19 = .ok (.sipush 200, 3) := by decide +kernel
theorem dX9_wouldMeet_22 : decode cX9_wouldMeet 22 = .ok (.invokestatic 39, 3) := by decide +kernel
theorem dX9_wouldMeet_25 : decode cX9_wouldMeet 25 = .ok (.ifCond .ne 9, 3) := by decide +kernel
theorem dX9_wouldMeet_28 : decode cX9_wouldMeet 28 = .ok (.aload_n 0, 1) := by decide +kernel
theorem dX9_wouldMeet_29 : decode cX9_wouldMeet 29 = .ok (.iconst 1, 1) := by decide +kernel
theorem dX9_wouldMeet_30 : decode cX9_wouldMeet 30 = .ok (.invokevirtual 126, 3) := by decide +kernel
theorem dX9_wouldMeet_33 : decode cX9_wouldMeet 33 = .ok (.ireturn, 1) := by decide +kernel
theorem dX9_wouldMeet_34 : decode cX9_wouldMeet 34 = .ok (.aload_n 0, 1) := by decide +kernel
theorem dX9_wouldMeet_35 : decode cX9_wouldMeet 35 = .ok (.iload_n 2, 1) := by decide +kernel
theorem dX9_wouldMeet_36 : decode cX9_wouldMeet 36 = .ok (.iload_n 1, 1) := by decide +kernel
theorem dX9_wouldMeet_37 : decode cX9_wouldMeet 37 = .ok (.invokevirtual 185, 3) := by decide +kernel
theorem dX9_wouldMeet_40 : decode cX9_wouldMeet 40 = .ok (.invokestatic 203, 3) := by decide +kernel
theorem dX9_wouldMeet_43 : decode cX9_wouldMeet 43 = .ok (.ireturn, 1) := by decide +kernel
theorem dX9_bestNow_0 : decode cX9_bestNow 0 = .ok (.aload_n 0, 1) := by decide +kernel
theorem dX9_bestNow_1 : decode cX9_bestNow 1 = .ok (.getfield 10, 3) := by decide +kernel
theorem dX9_bestNow_4 : decode cX9_bestNow 4 = .ok (.iload_n 1, 1) := by decide +kernel
theorem dX9_bestNow_5 : decode cX9_bestNow 5 = .ok (.invokeinterface 57 2, 5) := by decide +kernel
theorem dX9_bestNow_10 : decode cX9_bestNow 10 = .ok (.checkcast 44, 3) := by decide +kernel
theorem dX9_bestNow_13 : decode cX9_bestNow 13 = .ok (.astore_n 2, 1) := by decide +kernel
theorem dX9_bestNow_14 : decode cX9_bestNow 14 = .ok (.iconst (-1), 1) := by decide +kernel
theorem dX9_bestNow_15 : decode cX9_bestNow 15 = .ok (.istore_n 3, 1) := by decide +kernel
theorem dX9_bestNow_16 : decode cX9_bestNow 16 = .ok (.iconst 0, 1) := by decide +kernel
theorem dX9_bestNow_17 : decode cX9_bestNow 17 = .ok (.istore 4, 2) := by decide +kernel
theorem dX9_bestNow_19 : decode cX9_bestNow 19 = .ok (.iload 4, 2) := by decide +kernel
theorem dX9_bestNow_21 : decode cX9_bestNow 21 = .ok (.aload_n 0, 1) := by decide +kernel
theorem dX9_bestNow_22 : decode cX9_bestNow 22 = .ok (.getfield 16, 3) := by decide +kernel
theorem dX9_bestNow_25 : decode cX9_bestNow 25 = .ok (.invokeinterface 33 1, 5) := by decide +kernel
theorem dX9_bestNow_30 : decode cX9_bestNow 30 = .ok (.if_icmp .ge 106, 3) := by decide +kernel
theorem dX9_bestNow_33 : decode cX9_bestNow 33 = .ok (.aload_n 0, 1) := by decide +kernel
theorem dX9_bestNow_34 : decode cX9_bestNow 34 = .ok (.iload 4, 2) := by decide +kernel
theorem dX9_bestNow_36 : decode cX9_bestNow 36 = .ok (.invokevirtual 145, 3) := by decide +kernel
theorem dX9_bestNow_39 : decode cX9_bestNow 39 = .ok (.iconst (-1), 1) := by decide +kernel
theorem dX9_bestNow_40 : decode cX9_bestNow 40 = .ok (.if_icmp .eq 13, 3) := by decide +kernel
theorem dX9_bestNow_43 : decode cX9_bestNow 43 = .ok (.aload_n 0, 1) := by decide +kernel
theorem dX9_bestNow_44 : decode cX9_bestNow 44 = .ok (.iload 4, 2) := by decide +kernel
theorem dX9_bestNow_46 : decode cX9_bestNow 46 = .ok (.invokevirtual 145, 3) := by decide +kernel
theorem dX9_bestNow_49 : decode cX9_bestNow 49 = .ok (.iload_n 1, 1) := by decide +kernel
theorem dX9_bestNow_50 : decode cX9_bestNow 50 = .ok (.if_icmp .ne 80, 3) := by decide +kernel
theorem dX9_bestNow_53 : decode cX9_bestNow 53 = .ok (.aload_n 2, 1) := by decide +kernel
theorem dX9_bestNow_54 : decode cX9_bestNow 54 = .ok (.aload_n 0, 1) := by decide +kernel
theorem dX9_bestNow_55 : decode cX9_bestNow 55 = .ok (.getfield 16, 3) := by decide +kernel
theorem dX9_bestNow_58 : decode cX9_bestNow 58 = .ok (.iload 4, 2) := by decide +kernel
theorem dX9_bestNow_60 : decode cX9_bestNow 60 = .ok (.invokeinterface 57 2, 5) := by decide +kernel
theorem dX9_bestNow_65 : decode cX9_bestNow 65 = .ok (.checkcast 50, 3) := by decide +kernel
theorem dX9_bestNow_68 : decode cX9_bestNow 68 = .ok (.invokestatic 61, 3) := by decide +kernel
theorem dX9_bestNow_71 : decode cX9_bestNow 71 = .ok (.aload_n 0, 1) := by decide +kernel
theorem dX9_bestNow_72 : decode cX9_bestNow 72 = .ok (.aload_n 2, 1) := by decide +kernel
theorem dX9_bestNow_73 : decode cX9_bestNow 73 = .ok (.invokevirtual 175, 3) := by decide +kernel
theorem dX9_bestNow_76 : decode cX9_bestNow 76 = .ok (.fcmp .l, 1) := by decide +kernel
theorem dX9_bestNow_77 : decode cX9_bestNow 77 = .ok (.ifCond .le 6, 3) := by decide +kernel
theorem dX9_bestNow_80 : decode cX9_bestNow 80 = .ok (.goto 50, 3) := by decide +kernel
theorem dX9_bestNow_83 : decode cX9_bestNow 83 = .ok (.iload_n 3, 1) := by decide +kernel
theorem dX9_bestNow_84 : decode cX9_bestNow 84 = .ok (.iconst (-1), 1) := by decide +kernel
theorem dX9_bestNow_85 : decode cX9_bestNow 85 = .ok (.if_icmp .eq 42, 3) := by decide +kernel
theorem dX9_bestNow_88 : decode cX9_bestNow 88 = .ok (.aload_n 2, 1) := by decide +kernel
theorem dX9_bestNow_89 : decode cX9_bestNow 89 = .ok (.aload_n 0, 1) := by decide +kernel
theorem dX9_bestNow_90 : decode cX9_bestNow 90 = .ok (.getfield 16, 3) := by decide +kernel
theorem dX9_bestNow_93 : decode cX9_bestNow 93 = .ok (.iload 4, 2) := by decide +kernel
theorem dX9_bestNow_95 : decode cX9_bestNow 95 = .ok (.invokeinterface 57 2, 5) := by decide +kernel
theorem dX9_bestNow_100 : decode cX9_bestNow 100 = .ok (.checkcast 50, 3) := by decide +kernel
theorem dX9_bestNow_103 : decode cX9_bestNow 103 = .ok (.invokestatic 61, 3) := by decide +kernel
theorem dX9_bestNow_106 : decode cX9_bestNow 106 = .ok (.aload_n 2, 1) := by decide +kernel
theorem dX9_bestNow_107 : decode cX9_bestNow 107 = .ok (.aload_n 0, 1) := by decide +kernel
theorem dX9_bestNow_108 : decode cX9_bestNow 108 = .ok (.getfield 16, 3) := by decide +kernel
theorem dX9_bestNow_111 : decode cX9_bestNow 111 = .ok (.iload_n 3, 1) := by decide +kernel
theorem dX9_bestNow_112 : decode cX9_bestNow 112 = .ok (.invokeinterface 57 2, 5) := by decide +kernel
theorem dX9_bestNow_117 : decode cX9_bestNow 117 = .ok (.checkcast 50, 3) := by decide +kernel
theorem dX9_bestNow_120 : decode cX9_bestNow 120 = .ok (.invokestatic 61, 3) := by decide +kernel
theorem dX9_bestNow_123 : decode cX9_bestNow 123 = .ok (.fcmp .l, 1) := by decide +kernel
theorem dX9_bestNow_124 : decode cX9_bestNow 124 = .ok (.ifCond .le 6, 3) := by decide +kernel
theorem dX9_bestNow_127 : decode cX9_bestNow 127 = .ok (.iload 4, 2) := by decide +kernel
theorem dX9_bestNow_129 : decode cX9_bestNow 129 = .ok (.istore_n 3, 1) := by decide +kernel
theorem dX9_bestNow_130 : decode cX9_bestNow 130 = .ok (.iinc 4 1, 3) := by decide +kernel
theorem dX9_bestNow_133 : decode cX9_bestNow 133 = .ok (.goto (-114), 3) := by decide +kernel
theorem dX9_bestNow_136 : decode cX9_bestNow 136 = .ok (.iload_n 3, 1) := by decide +kernel
theorem dX9_bestNow_137 : decode cX9_bestNow 137 = .ok (.ireturn, 1) := by decide +kernel
theorem dX9_best_0 : decode cX9_best 0 = .ok (.aload_n 0, 1) := by decide +kernel
theorem dX9_best_1 : decode cX9_best 1 = .ok (.iconst 0, 1) := by decide +kernel
theorem dX9_best_2 : decode cX9_best 2 = .ok (.putfield 30, 3) := by decide +kernel
theorem dX9_best_5 : decode cX9_best 5 = .ok (.aload_n 0, 1) := by decide +kernel
theorem dX9_best_6 : decode cX9_best 6 = .ok (.iload_n 1, 1) := by decide +kernel
theorem dX9_best_7 : decode cX9_best 7 = .ok (.invokevirtual 142, 3) := by decide +kernel
theorem dX9_best_10 : decode cX9_best 10 = .ok (.ifCond .ne 9, 3) := by decide +kernel
theorem dX9_best_13 : decode cX9_best 13 = .ok (.aload_n 0, 1) := by decide +kernel
theorem dX9_best_14 : decode cX9_best 14 = .ok (.iconst 1, 1) := by decide +kernel
theorem dX9_best_15 : decode cX9_best 15 = .ok (.invokevirtual 126, 3) := by decide +kernel
theorem dX9_best_18 : decode cX9_best 18 = .ok (.ireturn, 1) := by decide +kernel
theorem dX9_best_19 : decode cX9_best 19 = .ok (.aload_n 0, 1) := by decide +kernel
theorem dX9_best_20 : decode cX9_best 20 = .ok (.iload_n 1, 1) := by decide +kernel
theorem dX9_best_21 : decode cX9_best 21 = .ok (.invokevirtual 265, 3) := by decide +kernel
theorem dX9_best_24 : decode cX9_best 24 = .ok (.ireturn, 1) := by decide +kernel
theorem dX9_digest_0 : decode cX9_digest 0 = .ok (.aload_n 0, 1) := by decide +kernel
theorem dX9_digest_1 : decode cX9_digest 1 = .ok (.iconst 0, 1) := by decide +kernel
theorem dX9_digest_2 : decode cX9_digest 2 = .ok (.putfield 30, 3) := by decide +kernel
theorem dX9_digest_5 : decode cX9_digest 5 = .ok (.ldc2_w 268, 3) := by decide +kernel
theorem dX9_digest_8 : decode cX9_digest 8 = .ok (.lstore_n 1, 1) := by decide +kernel
theorem dX9_digest_9 : decode cX9_digest 9 = .ok (.iconst 0, 1) := by decide +kernel
theorem dX9_digest_10 : decode cX9_digest 10 = .ok (.istore_n 3, 1) := by decide +kernel
theorem dX9_digest_11 : decode cX9_digest 11 = .ok (.iload_n 3, 1) := by decide +kernel
theorem dX9_digest_12 : decode cX9_digest 12 = .ok (.bipush 12, 2) := by decide +kernel
theorem dX9_digest_14 : decode cX9_digest 14 = .ok (.if_icmp .gt 22, 3) := by decide +kernel
theorem dX9_digest_17 : decode cX9_digest 17 = .ok (.lload_n 1, 1) := by decide +kernel
theorem dX9_digest_18 : decode cX9_digest 18 = .ok (.ldc2_w 270, 3) := by decide +kernel
theorem dX9_digest_21 : decode cX9_digest 21 = .ok (.lmul, 1) := by decide +kernel
theorem dX9_digest_22 : decode cX9_digest 22 = .ok (.aload_n 0, 1) := by decide +kernel
theorem dX9_digest_23 : decode cX9_digest 23 = .ok (.iload_n 3, 1) := by decide +kernel
theorem dX9_digest_24 : decode cX9_digest 24 = .ok (.invokevirtual 255, 3) := by decide +kernel
theorem dX9_digest_27 : decode cX9_digest 27 = .ok (.i2l, 1) := by decide +kernel
theorem dX9_digest_28 : decode cX9_digest 28 = .ok (.ladd, 1) := by decide +kernel
theorem dX9_digest_29 : decode cX9_digest 29 = .ok (.lstore_n 1, 1) := by decide +kernel
theorem dX9_digest_30 : decode cX9_digest 30 = .ok (.iinc 3 1, 3) := by decide +kernel
theorem dX9_digest_33 : decode cX9_digest 33 = .ok (.goto (-22), 3) := by decide +kernel
theorem dX9_digest_36 : decode cX9_digest 36 = .ok (.iconst 0, 1) := by decide +kernel
theorem dX9_digest_37 : decode cX9_digest 37 = .ok (.istore_n 3, 1) := by decide +kernel
theorem dX9_digest_38 : decode cX9_digest 38 = .ok (.iload_n 3, 1) := by decide +kernel
theorem dX9_digest_39 : decode cX9_digest 39 = .ok (.aload_n 0, 1) := by decide +kernel
theorem dX9_digest_40 : decode cX9_digest 40 = .ok (.getfield 10, 3) := by decide +kernel
theorem dX9_digest_43 : decode cX9_digest 43 = .ok (.invokeinterface 33 1, 5) := by decide +kernel
theorem dX9_digest_48 : decode cX9_digest 48 = .ok (.if_icmp .ge 134, 3) := by decide +kernel
theorem dX9_digest_51 : decode cX9_digest 51 = .ok (.iconst 0, 1) := by decide +kernel
theorem dX9_digest_52 : decode cX9_digest 52 = .ok (.istore 4, 2) := by decide +kernel
theorem dX9_digest_54 : decode cX9_digest 54 = .ok (.iload 4, 2) := by decide +kernel
theorem dX9_digest_56 : decode cX9_digest 56 = .ok (.bipush 8, 2) := by decide +kernel
theorem dX9_digest_58 : decode cX9_digest 58 = .ok (.if_icmp .gt 24, 3) := by decide +kernel
theorem dX9_digest_61 : decode cX9_digest 61 = .ok (.lload_n 1, 1) := by decide +kernel
theorem dX9_digest_62 : decode cX9_digest 62 = .ok (.ldc2_w 270, 3) := by decide +kernel
theorem dX9_digest_65 : decode cX9_digest 65 = .ok (.lmul, 1) := by decide +kernel
theorem dX9_digest_66 : decode cX9_digest 66 = .ok (.aload_n 0, 1) := by decide +kernel
theorem dX9_digest_67 : decode cX9_digest 67 = .ok (.iload_n 3, 1) := by decide +kernel
theorem dX9_digest_68 : decode cX9_digest 68 = .ok (.iload 4, 2) := by decide +kernel
theorem dX9_digest_70 : decode cX9_digest 70 = .ok (.invokevirtual 249, 3) := by decide +kernel
theorem dX9_digest_73 : decode cX9_digest 73 = .ok (.i2l, 1) := by decide +kernel
theorem dX9_digest_74 : decode cX9_digest 74 = .ok (.ladd, 1) := by decide +kernel
theorem dX9_digest_75 : decode cX9_digest 75 = .ok (.lstore_n 1, 1) := by decide +kernel
theorem dX9_digest_76 : decode cX9_digest 76 = .ok (.iinc 4 1, 3) := by decide +kernel
theorem dX9_digest_79 : decode cX9_digest 79 = .ok (.goto (-25), 3) := by decide +kernel
theorem dX9_digest_82 : decode cX9_digest 82 = .ok (.lload_n 1, 1) := by decide +kernel
theorem dX9_digest_83 : decode cX9_digest 83 = .ok (.ldc2_w 270, 3) := by decide +kernel
theorem dX9_digest_86 : decode cX9_digest 86 = .ok (.lmul, 1) := by decide +kernel
theorem dX9_digest_87 : decode cX9_digest 87 = .ok (.ldc2_w 272, 3) := by decide +kernel
theorem dX9_digest_90 : decode cX9_digest 90 = .ok (.aload_n 0, 1) := by decide +kernel
theorem dX9_digest_91 : decode cX9_digest 91 = .ok (.getfield 10, 3) := by decide +kernel
theorem dX9_digest_94 : decode cX9_digest 94 = .ok (.iload_n 3, 1) := by decide +kernel
theorem dX9_digest_95 : decode cX9_digest 95 = .ok (.invokeinterface 57 2, 5) := by decide +kernel
theorem dX9_digest_100 : decode cX9_digest 100 = .ok (.checkcast 44, 3) := by decide +kernel
theorem dX9_digest_103 : decode cX9_digest 103 = .ok (.getfield 241, 3) := by decide +kernel
theorem dX9_digest_106 : decode cX9_digest 106 = .ok (.dmul, 1) := by decide +kernel
theorem dX9_digest_107 : decode cX9_digest 107 = .ok (.d2l, 1) := by decide +kernel
theorem dX9_digest_108 : decode cX9_digest 108 = .ok (.ladd, 1) := by decide +kernel
theorem dX9_digest_109 : decode cX9_digest 109 = .ok (.lstore_n 1, 1) := by decide +kernel
theorem dX9_digest_110 : decode cX9_digest 110 = .ok (.lload_n 1, 1) := by decide +kernel
theorem dX9_digest_111 : decode cX9_digest 111 = .ok (.ldc2_w 270, 3) := by decide +kernel
theorem dX9_digest_114 : decode cX9_digest 114 = .ok (.lmul, 1) := by decide +kernel
theorem dX9_digest_115 : decode cX9_digest 115 = .ok (.ldc2_w 272, 3) := by decide +kernel
theorem dX9_digest_118 : decode cX9_digest 118 = .ok (.aload_n 0, 1) := by decide +kernel
theorem dX9_digest_119 : decode cX9_digest 119 = .ok (.getfield 10, 3) := by decide +kernel
theorem dX9_digest_122 : decode cX9_digest 122 = .ok (.iload_n 3, 1) := by decide +kernel
theorem dX9_digest_123 : decode cX9_digest 123 = .ok (.invokeinterface 57 2, 5) := by decide +kernel
theorem dX9_digest_128 : decode cX9_digest 128 = .ok (.checkcast 44, 3) := by decide +kernel
theorem dX9_digest_131 : decode cX9_digest 131 = .ok (.getfield 245, 3) := by decide +kernel
theorem dX9_digest_134 : decode cX9_digest 134 = .ok (.dmul, 1) := by decide +kernel
theorem dX9_digest_135 : decode cX9_digest 135 = .ok (.d2l, 1) := by decide +kernel
theorem dX9_digest_136 : decode cX9_digest 136 = .ok (.ladd, 1) := by decide +kernel
theorem dX9_digest_137 : decode cX9_digest 137 = .ok (.lstore_n 1, 1) := by decide +kernel
theorem dX9_digest_138 : decode cX9_digest 138 = .ok (.lload_n 1, 1) := by decide +kernel
theorem dX9_digest_139 : decode cX9_digest 139 = .ok (.ldc2_w 270, 3) := by decide +kernel
theorem dX9_digest_142 : decode cX9_digest 142 = .ok (.lmul, 1) := by decide +kernel
theorem dX9_digest_143 : decode cX9_digest 143 = .ok (.aload_n 0, 1) := by decide +kernel
theorem dX9_digest_144 : decode cX9_digest 144 = .ok (.aload_n 0, 1) := by decide +kernel
theorem dX9_digest_145 : decode cX9_digest 145 = .ok (.getfield 10, 3) := by decide +kernel
theorem dX9_digest_148 : decode cX9_digest 148 = .ok (.iload_n 3, 1) := by decide +kernel
theorem dX9_digest_149 : decode cX9_digest 149 = .ok (.invokeinterface 57 2, 5) := by decide +kernel
theorem dX9_digest_154 : decode cX9_digest 154 = .ok (.checkcast 44, 3) := by decide +kernel
theorem dX9_digest_157 : decode cX9_digest 157 = .ok (.invokevirtual 181, 3) := by decide +kernel
theorem dX9_digest_160 : decode cX9_digest 160 = .ok (.i2l, 1) := by decide +kernel
theorem dX9_digest_161 : decode cX9_digest 161 = .ok (.ladd, 1) := by decide +kernel
theorem dX9_digest_162 : decode cX9_digest 162 = .ok (.lstore_n 1, 1) := by decide +kernel
theorem dX9_digest_163 : decode cX9_digest 163 = .ok (.lload_n 1, 1) := by decide +kernel
theorem dX9_digest_164 : decode cX9_digest 164 = .ok (.ldc2_w 270, 3) := by decide +kernel
theorem dX9_digest_167 : decode cX9_digest 167 = .ok (.lmul, 1) := by decide +kernel
theorem dX9_digest_168 : decode cX9_digest 168 = .ok (.aload_n 0, 1) := by decide +kernel
theorem dX9_digest_169 : decode cX9_digest 169 = .ok (.iload_n 3, 1) := by decide +kernel
theorem dX9_digest_170 : decode cX9_digest 170 = .ok (.invokevirtual 265, 3) := by decide +kernel
theorem dX9_digest_173 : decode cX9_digest 173 = .ok (.i2l, 1) := by decide +kernel
theorem dX9_digest_174 : decode cX9_digest 174 = .ok (.ladd, 1) := by decide +kernel
theorem dX9_digest_175 : decode cX9_digest 175 = .ok (.lstore_n 1, 1) := by decide +kernel
theorem dX9_digest_176 : decode cX9_digest 176 = .ok (.iinc 3 1, 3) := by decide +kernel
theorem dX9_digest_179 : decode cX9_digest 179 = .ok (.goto (-141), 3) := by decide +kernel
theorem dX9_digest_182 : decode cX9_digest 182 = .ok (.iconst 0, 1) := by decide +kernel
theorem dX9_digest_183 : decode cX9_digest 183 = .ok (.istore_n 3, 1) := by decide +kernel
theorem dX9_digest_184 : decode cX9_digest 184 = .ok (.iload_n 3, 1) := by decide +kernel
theorem dX9_digest_185 : decode cX9_digest 185 = .ok (.aload_n 0, 1) := by decide +kernel
theorem dX9_digest_186 : decode cX9_digest 186 = .ok (.getfield 16, 3) := by decide +kernel
theorem dX9_digest_189 : decode cX9_digest 189 = .ok (.invokeinterface 33 1, 5) := by decide +kernel
theorem dX9_digest_194 : decode cX9_digest 194 = .ok (.if_icmp .ge 67, 3) := by decide +kernel
theorem dX9_digest_197 : decode cX9_digest 197 = .ok (.iconst 0, 1) := by decide +kernel
theorem dX9_digest_198 : decode cX9_digest 198 = .ok (.istore 4, 2) := by decide +kernel
theorem dX9_digest_200 : decode cX9_digest 200 = .ok (.iload 4, 2) := by decide +kernel
theorem dX9_digest_202 : decode cX9_digest 202 = .ok (.iconst 4, 1) := by decide +kernel
theorem dX9_digest_203 : decode cX9_digest 203 = .ok (.if_icmp .gt 24, 3) := by decide +kernel
theorem dX9_digest_206 : decode cX9_digest 206 = .ok (.lload_n 1, 1) := by decide +kernel
theorem dX9_digest_207 : decode cX9_digest 207 = .ok (.ldc2_w 270, 3) := by decide +kernel
theorem dX9_digest_210 : decode cX9_digest 210 = .ok (.lmul, 1) := by decide +kernel
theorem dX9_digest_211 : decode cX9_digest 211 = .ok (.aload_n 0, 1) := by decide +kernel
theorem dX9_digest_212 : decode cX9_digest 212 = .ok (.iload_n 3, 1) := by decide +kernel
theorem dX9_digest_213 : decode cX9_digest 213 = .ok (.iload 4, 2) := by decide +kernel
theorem dX9_digest_215 : decode cX9_digest 215 = .ok (.invokevirtual 252, 3) := by decide +kernel
theorem dX9_digest_218 : decode cX9_digest 218 = .ok (.i2l, 1) := by decide +kernel
theorem dX9_digest_219 : decode cX9_digest 219 = .ok (.ladd, 1) := by decide +kernel
theorem dX9_digest_220 : decode cX9_digest 220 = .ok (.lstore_n 1, 1) := by decide +kernel
theorem dX9_digest_221 : decode cX9_digest 221 = .ok (.iinc 4 1, 3) := by decide +kernel
theorem dX9_digest_224 : decode cX9_digest 224 = .ok (.goto (-24), 3) := by decide +kernel
theorem dX9_digest_227 : decode cX9_digest 227 = .ok (.lload_n 1, 1) := by decide +kernel
theorem dX9_digest_228 : decode cX9_digest 228 = .ok (.ldc2_w 270, 3) := by decide +kernel
theorem dX9_digest_231 : decode cX9_digest 231 = .ok (.lmul, 1) := by decide +kernel
theorem dX9_digest_232 : decode cX9_digest 232 = .ok (.ldc_w 274, 3) := by decide +kernel
theorem dX9_digest_235 : decode cX9_digest 235 = .ok (.aload_n 0, 1) := by decide +kernel
theorem dX9_digest_236 : decode cX9_digest 236 = .ok (.getfield 16, 3) := by decide +kernel
theorem dX9_digest_239 : decode cX9_digest 239 = .ok (.iload_n 3, 1) := by decide +kernel
theorem dX9_digest_240 : decode cX9_digest 240 = .ok (.invokeinterface 57 2, 5) := by decide +kernel
theorem dX9_digest_245 : decode cX9_digest 245 = .ok (.checkcast 50, 3) := by decide +kernel
theorem dX9_digest_248 : decode cX9_digest 248 = .ok (.getfield 193, 3) := by decide +kernel
theorem dX9_digest_251 : decode cX9_digest 251 = .ok (.fmul, 1) := by decide +kernel
theorem dX9_digest_252 : decode cX9_digest 252 = .ok (.f2l, 1) := by decide +kernel
theorem dX9_digest_253 : decode cX9_digest 253 = .ok (.ladd, 1) := by decide +kernel
theorem dX9_digest_254 : decode cX9_digest 254 = .ok (.lstore_n 1, 1) := by decide +kernel
theorem dX9_digest_255 : decode cX9_digest 255 = .ok (.iinc 3 1, 3) := by decide +kernel
theorem dX9_digest_258 : decode cX9_digest 258 = .ok (.goto (-74), 3) := by decide +kernel
theorem dX9_digest_261 : decode cX9_digest 261 = .ok (.iconst 0, 1) := by decide +kernel
theorem dX9_digest_262 : decode cX9_digest 262 = .ok (.istore_n 3, 1) := by decide +kernel
theorem dX9_digest_263 : decode cX9_digest 263 = .ok (.iload_n 3, 1) := by decide +kernel
theorem dX9_digest_264 : decode cX9_digest 264 = .ok (.bipush 10, 2) := by decide +kernel
theorem dX9_digest_266 : decode cX9_digest 266 = .ok (.if_icmp .ge 35, 3) := by decide +kernel
theorem dX9_digest_269 : decode cX9_digest 269 = .ok (.lload_n 1, 1) := by decide +kernel
theorem dX9_digest_270 : decode cX9_digest 270 = .ok (.ldc2_w 270, 3) := by decide +kernel
theorem dX9_digest_273 : decode cX9_digest 273 = .ok (.lmul, 1) := by decide +kernel
theorem dX9_digest_274 : decode cX9_digest 274 = .ok (.aload_n 0, 1) := by decide +kernel
theorem dX9_digest_275 : decode cX9_digest 275 = .ok (.getfield 19, 3) := by decide +kernel
theorem dX9_digest_278 : decode cX9_digest 278 = .ok (.iload_n 3, 1) := by decide +kernel
theorem dX9_digest_279 : decode cX9_digest 279 = .ok (.iaload, 1) := by decide +kernel
theorem dX9_digest_280 : decode cX9_digest 280 = .ok (.i2l, 1) := by decide +kernel
theorem dX9_digest_281 : decode cX9_digest 281 = .ok (.ladd, 1) := by decide +kernel
theorem dX9_digest_282 : decode cX9_digest 282 = .ok (.ldc2_w 270, 3) := by decide +kernel
theorem dX9_digest_285 : decode cX9_digest 285 = .ok (.lmul, 1) := by decide +kernel
theorem dX9_digest_286 : decode cX9_digest 286 = .ok (.aload_n 0, 1) := by decide +kernel
theorem dX9_digest_287 : decode cX9_digest 287 = .ok (.getfield 23, 3) := by decide +kernel
theorem dX9_digest_290 : decode cX9_digest 290 = .ok (.iload_n 3, 1) := by decide +kernel
theorem dX9_digest_291 : decode cX9_digest 291 = .ok (.iaload, 1) := by decide +kernel
theorem dX9_digest_292 : decode cX9_digest 292 = .ok (.i2l, 1) := by decide +kernel
theorem dX9_digest_293 : decode cX9_digest 293 = .ok (.ladd, 1) := by decide +kernel
theorem dX9_digest_294 : decode cX9_digest 294 = .ok (.lstore_n 1, 1) := by decide +kernel
theorem dX9_digest_295 : decode cX9_digest 295 = .ok (.iinc 3 1, 3) := by decide +kernel
theorem dX9_digest_298 : decode cX9_digest 298 = .ok (.goto (-35), 3) := by decide +kernel
theorem dX9_digest_301 : decode cX9_digest 301 = .ok (.lload_n 1, 1) := by decide +kernel
theorem dX9_digest_302 : decode cX9_digest 302 = .ok (.ldc2_w 270, 3) := by decide +kernel
theorem dX9_digest_305 : decode cX9_digest 305 = .ok (.lmul, 1) := by decide +kernel
theorem dX9_digest_306 : decode cX9_digest 306 = .ok (.aload_n 0, 1) := by decide +kernel
theorem dX9_digest_307 : decode cX9_digest 307 = .ok (.iconst 3, 1) := by decide +kernel
theorem dX9_digest_308 : decode cX9_digest 308 = .ok (.invokevirtual 262, 3) := by decide +kernel
theorem dX9_digest_311 : decode cX9_digest 311 = .ok (.i2l, 1) := by decide +kernel
theorem dX9_digest_312 : decode cX9_digest 312 = .ok (.ladd, 1) := by decide +kernel
theorem dX9_digest_313 : decode cX9_digest 313 = .ok (.lstore_n 1, 1) := by decide +kernel
theorem dX9_digest_314 : decode cX9_digest 314 = .ok (.lload_n 1, 1) := by decide +kernel
theorem dX9_digest_315 : decode cX9_digest 315 = .ok (.ldc2_w 270, 3) := by decide +kernel
theorem dX9_digest_318 : decode cX9_digest 318 = .ok (.lmul, 1) := by decide +kernel
theorem dX9_digest_319 : decode cX9_digest 319 = .ok (.aload_n 0, 1) := by decide +kernel
theorem dX9_digest_320 : decode cX9_digest 320 = .ok (.iconst 0, 1) := by decide +kernel
theorem dX9_digest_321 : decode cX9_digest 321 = .ok (.iconst 3, 1) := by decide +kernel
theorem dX9_digest_322 : decode cX9_digest 322 = .ok (.invokevirtual 185, 3) := by decide +kernel
theorem dX9_digest_325 : decode cX9_digest 325 = .ok (.invokestatic 203, 3) := by decide +kernel
theorem dX9_digest_328 : decode cX9_digest 328 = .ok (.i2l, 1) := by decide +kernel
theorem dX9_digest_329 : decode cX9_digest 329 = .ok (.ladd, 1) := by decide +kernel
theorem dX9_digest_330 : decode cX9_digest 330 = .ok (.lreturn, 1) := by decide +kernel
theorem dJ9_abs_0f7a4_0 : decode cJ9_abs_0f7a4 0 = .ok (.iload_n 0, 1) := by decide +kernel
theorem dJ9_abs_0f7a4_1 : decode cJ9_abs_0f7a4 1 = .ok (.ifCond .ge 8, 3) := by decide +kernel
theorem dJ9_abs_0f7a4_4 : decode cJ9_abs_0f7a4 4 = .ok (.iload_n 0, 1) := by decide +kernel
theorem dJ9_abs_0f7a4_5 : decode cJ9_abs_0f7a4 5 = .ok (.ineg, 1) := by decide +kernel
theorem dJ9_abs_0f7a4_6 : decode cJ9_abs_0f7a4 6 = .ok (.goto 4, 3) := by decide +kernel
theorem dJ9_abs_0f7a4_9 : decode cJ9_abs_0f7a4 9 = .ok (.iload_n 0, 1) := by decide +kernel
theorem dJ9_abs_0f7a4_10 : decode cJ9_abs_0f7a4 10 = .ok (.ireturn, 1) := by decide +kernel
theorem dJ9_abs_294c1_0 : decode cJ9_abs_294c1 0 = .ok (.dload_n 0, 1) := by decide +kernel
theorem dJ9_abs_294c1_1 : decode cJ9_abs_294c1 1 = .ok (.invokestatic 79, 3) := by decide +kernel
theorem dJ9_abs_294c1_4 : decode cJ9_abs_294c1 4 = .ok (.ldc2_w 135, 3) := by decide +kernel
theorem dJ9_abs_294c1_7 : decode cJ9_abs_294c1 7 = .ok (.land, 1) := by decide +kernel
theorem dJ9_abs_294c1_8 : decode cJ9_abs_294c1 8 = .ok (.invokestatic 166, 3) := by decide +kernel
theorem dJ9_abs_294c1_11 : decode cJ9_abs_294c1 11 = .ok (.dreturn, 1) := by decide +kernel
theorem dJ9_max_7cf53_0 : decode cJ9_max_7cf53 0 = .ok (.iload_n 0, 1) := by decide +kernel
theorem dJ9_max_7cf53_1 : decode cJ9_max_7cf53 1 = .ok (.iload_n 1, 1) := by decide +kernel
theorem dJ9_max_7cf53_2 : decode cJ9_max_7cf53 2 = .ok (.if_icmp .lt 7, 3) := by decide +kernel
theorem dJ9_max_7cf53_5 : decode cJ9_max_7cf53 5 = .ok (.iload_n 0, 1) := by decide +kernel
theorem dJ9_max_7cf53_6 : decode cJ9_max_7cf53 6 = .ok (.goto 4, 3) := by decide +kernel
theorem dJ9_max_7cf53_9 : decode cJ9_max_7cf53 9 = .ok (.iload_n 1, 1) := by decide +kernel
theorem dJ9_max_7cf53_10 : decode cJ9_max_7cf53 10 = .ok (.ireturn, 1) := by decide +kernel
theorem dJ9_max_eb370_0 : decode cJ9_max_eb370 0 = .ok (.dload_n 0, 1) := by decide +kernel
theorem dJ9_max_eb370_1 : decode cJ9_max_eb370 1 = .ok (.dload_n 0, 1) := by decide +kernel
theorem dJ9_max_eb370_2 : decode cJ9_max_eb370 2 = .ok (.dcmp .l, 1) := by decide +kernel
theorem dJ9_max_eb370_3 : decode cJ9_max_eb370 3 = .ok (.ifCond .eq 5, 3) := by decide +kernel
theorem dJ9_max_eb370_6 : decode cJ9_max_eb370 6 = .ok (.dload_n 0, 1) := by decide +kernel
theorem dJ9_max_eb370_7 : decode cJ9_max_eb370 7 = .ok (.dreturn, 1) := by decide +kernel
theorem dJ9_max_eb370_8 : decode cJ9_max_eb370 8 = .ok (.dload_n 0, 1) := by decide +kernel
theorem dJ9_max_eb370_9 : decode cJ9_max_eb370 9 = .ok (.dconst 0, 1) := by decide +kernel
theorem dJ9_max_eb370_10 : decode cJ9_max_eb370 10 = .ok (.dcmp .l, 1) := by decide +kernel
theorem dJ9_max_eb370_11 : decode cJ9_max_eb370 11 = .ok (.ifCond .ne 22, 3) := by decide +kernel
theorem dJ9_max_eb370_14 : decode cJ9_max_eb370 14 = .ok (.dload_n 2, 1) := by decide +kernel
theorem dJ9_max_eb370_15 : decode cJ9_max_eb370 15 = .ok (.dconst 0, 1) := by decide +kernel
theorem dJ9_max_eb370_16 : decode cJ9_max_eb370 16 = .ok (.dcmp .l, 1) := by decide +kernel
theorem dJ9_max_eb370_17 : decode cJ9_max_eb370 17 = .ok (.ifCond .ne 16, 3) := by decide +kernel
theorem dJ9_max_eb370_20 : decode cJ9_max_eb370 20 = .ok (.dload_n 0, 1) := by decide +kernel
theorem dJ9_max_eb370_21 : decode cJ9_max_eb370 21 = .ok (.invokestatic 79, 3) := by decide +kernel
theorem dJ9_max_eb370_24 : decode cJ9_max_eb370 24 = .ok (.getstatic 174, 3) := by decide +kernel
theorem dJ9_max_eb370_27 : decode cJ9_max_eb370 27 = .ok (.lcmp, 1) := by decide +kernel
theorem dJ9_max_eb370_28 : decode cJ9_max_eb370 28 = .ok (.ifCond .ne 5, 3) := by decide +kernel
theorem dJ9_max_eb370_31 : decode cJ9_max_eb370 31 = .ok (.dload_n 2, 1) := by decide +kernel
theorem dJ9_max_eb370_32 : decode cJ9_max_eb370 32 = .ok (.dreturn, 1) := by decide +kernel
theorem dJ9_max_eb370_33 : decode cJ9_max_eb370 33 = .ok (.dload_n 0, 1) := by decide +kernel
theorem dJ9_max_eb370_34 : decode cJ9_max_eb370 34 = .ok (.dload_n 2, 1) := by decide +kernel
theorem dJ9_max_eb370_35 : decode cJ9_max_eb370 35 = .ok (.dcmp .l, 1) := by decide +kernel
theorem dJ9_max_eb370_36 : decode cJ9_max_eb370 36 = .ok (.ifCond .lt 7, 3) := by decide +kernel
theorem dJ9_max_eb370_39 : decode cJ9_max_eb370 39 = .ok (.dload_n 0, 1) := by decide +kernel
theorem dJ9_max_eb370_40 : decode cJ9_max_eb370 40 = .ok (.goto 4, 3) := by decide +kernel
theorem dJ9_max_eb370_43 : decode cJ9_max_eb370 43 = .ok (.dload_n 2, 1) := by decide +kernel
theorem dJ9_max_eb370_44 : decode cJ9_max_eb370 44 = .ok (.dreturn, 1) := by decide +kernel
theorem dJ9_min_7cf53_0 : decode cJ9_min_7cf53 0 = .ok (.iload_n 0, 1) := by decide +kernel
theorem dJ9_min_7cf53_1 : decode cJ9_min_7cf53 1 = .ok (.iload_n 1, 1) := by decide +kernel
theorem dJ9_min_7cf53_2 : decode cJ9_min_7cf53 2 = .ok (.if_icmp .gt 7, 3) := by decide +kernel
theorem dJ9_min_7cf53_5 : decode cJ9_min_7cf53 5 = .ok (.iload_n 0, 1) := by decide +kernel
theorem dJ9_min_7cf53_6 : decode cJ9_min_7cf53 6 = .ok (.goto 4, 3) := by decide +kernel
theorem dJ9_min_7cf53_9 : decode cJ9_min_7cf53 9 = .ok (.iload_n 1, 1) := by decide +kernel
theorem dJ9_min_7cf53_10 : decode cJ9_min_7cf53 10 = .ok (.ireturn, 1) := by decide +kernel
theorem dJ9_min_eb370_0 : decode cJ9_min_eb370 0 = .ok (.dload_n 0, 1) := by decide +kernel
theorem dJ9_min_eb370_1 : decode cJ9_min_eb370 1 = .ok (.dload_n 0, 1) := by decide +kernel
theorem dJ9_min_eb370_2 : decode cJ9_min_eb370 2 = .ok (.dcmp .l, 1) := by decide +kernel
theorem dJ9_min_eb370_3 : decode cJ9_min_eb370 3 = .ok (.ifCond .eq 5, 3) := by decide +kernel
theorem dJ9_min_eb370_6 : decode cJ9_min_eb370 6 = .ok (.dload_n 0, 1) := by decide +kernel
theorem dJ9_min_eb370_7 : decode cJ9_min_eb370 7 = .ok (.dreturn, 1) := by decide +kernel
theorem dJ9_min_eb370_8 : decode cJ9_min_eb370 8 = .ok (.dload_n 0, 1) := by decide +kernel
theorem dJ9_min_eb370_9 : decode cJ9_min_eb370 9 = .ok (.dconst 0, 1) := by decide +kernel
theorem dJ9_min_eb370_10 : decode cJ9_min_eb370 10 = .ok (.dcmp .l, 1) := by decide +kernel
theorem dJ9_min_eb370_11 : decode cJ9_min_eb370 11 = .ok (.ifCond .ne 22, 3) := by decide +kernel
theorem dJ9_min_eb370_14 : decode cJ9_min_eb370 14 = .ok (.dload_n 2, 1) := by decide +kernel
theorem dJ9_min_eb370_15 : decode cJ9_min_eb370 15 = .ok (.dconst 0, 1) := by decide +kernel
theorem dJ9_min_eb370_16 : decode cJ9_min_eb370 16 = .ok (.dcmp .l, 1) := by decide +kernel
theorem dJ9_min_eb370_17 : decode cJ9_min_eb370 17 = .ok (.ifCond .ne 16, 3) := by decide +kernel
theorem dJ9_min_eb370_20 : decode cJ9_min_eb370 20 = .ok (.dload_n 2, 1) := by decide +kernel
theorem dJ9_min_eb370_21 : decode cJ9_min_eb370 21 = .ok (.invokestatic 79, 3) := by decide +kernel
theorem dJ9_min_eb370_24 : decode cJ9_min_eb370 24 = .ok (.getstatic 174, 3) := by decide +kernel
theorem dJ9_min_eb370_27 : decode cJ9_min_eb370 27 = .ok (.lcmp, 1) := by decide +kernel
theorem dJ9_min_eb370_28 : decode cJ9_min_eb370 28 = .ok (.ifCond .ne 5, 3) := by decide +kernel
theorem dJ9_min_eb370_31 : decode cJ9_min_eb370 31 = .ok (.dload_n 2, 1) := by decide +kernel
theorem dJ9_min_eb370_32 : decode cJ9_min_eb370 32 = .ok (.dreturn, 1) := by decide +kernel
theorem dJ9_min_eb370_33 : decode cJ9_min_eb370 33 = .ok (.dload_n 0, 1) := by decide +kernel
theorem dJ9_min_eb370_34 : decode cJ9_min_eb370 34 = .ok (.dload_n 2, 1) := by decide +kernel
theorem dJ9_min_eb370_35 : decode cJ9_min_eb370 35 = .ok (.dcmp .g, 1) := by decide +kernel
theorem dJ9_min_eb370_36 : decode cJ9_min_eb370 36 = .ok (.ifCond .gt 7, 3) := by decide +kernel
theorem dJ9_min_eb370_39 : decode cJ9_min_eb370 39 = .ok (.dload_n 0, 1) := by decide +kernel
theorem dJ9_min_eb370_40 : decode cJ9_min_eb370 40 = .ok (.goto 4, 3) := by decide +kernel
theorem dJ9_min_eb370_43 : decode cJ9_min_eb370 43 = .ok (.dload_n 2, 1) := by decide +kernel
theorem dJ9_min_eb370_44 : decode cJ9_min_eb370 44 = .ok (.dreturn, 1) := by decide +kernel
theorem dJxa1e45_init_da8c8_0 : decode cJxa1e45_init_da8c8 0 = .ok (.aload_n 0, 1) := by decide +kernel
theorem dJxa1e45_init_da8c8_1 : decode cJxa1e45_init_da8c8 1 = .ok (.invokespecial 1, 3) := by decide +kernel
theorem dJxa1e45_init_da8c8_4 : decode cJxa1e45_init_da8c8 4 = .ok (.return_, 1) := by decide +kernel
theorem dJxc12de_init_da8c8_0 : decode cJxc12de_init_da8c8 0 = .ok (.aload_n 0, 1) := by decide +kernel
theorem dJxc12de_init_da8c8_1 : decode cJxc12de_init_da8c8 1 = .ok (.invokespecial 1, 3) := by decide +kernel
theorem dJxc12de_init_da8c8_4 : decode cJxc12de_init_da8c8 4 = .ok (.aload_n 0, 1) := by decide +kernel
theorem dJxc12de_init_da8c8_5 : decode cJxc12de_init_da8c8 5 = .ok (.iconst 0, 1) := by decide +kernel
theorem dJxc12de_init_da8c8_6 : decode cJxc12de_init_da8c8 6 = .ok (.putfield 7, 3) := by decide +kernel
theorem dJxc12de_init_da8c8_9 : decode cJxc12de_init_da8c8 9 = .ok (.return_, 1) := by decide +kernel
theorem dJx4a65c_init_da8c8_0 : decode cJx4a65c_init_da8c8 0 = .ok (.aload_n 0, 1) := by decide +kernel
theorem dJx4a65c_init_da8c8_1 : decode cJx4a65c_init_da8c8 1 = .ok (.invokespecial 1, 3) := by decide +kernel
theorem dJx4a65c_init_da8c8_4 : decode cJx4a65c_init_da8c8 4 = .ok (.aload_n 0, 1) := by decide +kernel
theorem dJx4a65c_init_da8c8_5 : decode cJx4a65c_init_da8c8 5 = .ok (.getstatic 39, 3) := by decide +kernel
theorem dJx4a65c_init_da8c8_8 : decode cJx4a65c_init_da8c8 8 = .ok (.putfield 9, 3) := by decide +kernel
theorem dJx4a65c_init_da8c8_11 : decode cJx4a65c_init_da8c8 11 = .ok (.return_, 1) := by decide +kernel
theorem dJx4a65c_grow_92f84_0 : decode cJx4a65c_grow_92f84 0 = .ok (.aload_n 0, 1) := by decide +kernel
theorem dJx4a65c_grow_92f84_1 : decode cJx4a65c_grow_92f84 1 = .ok (.getfield 9, 3) := by decide +kernel
theorem dJx4a65c_grow_92f84_4 : decode cJx4a65c_grow_92f84 4 = .ok (.arraylength, 1) := by decide +kernel
theorem dJx4a65c_grow_92f84_5 : decode cJx4a65c_grow_92f84 5 = .ok (.istore_n 2, 1) := by decide +kernel
theorem dJx4a65c_grow_92f84_6 : decode cJx4a65c_grow_92f84 6 = .ok (.iload_n 2, 1) := by decide +kernel
theorem dJx4a65c_grow_92f84_7 : decode cJx4a65c_grow_92f84 7 = .ok (.ifCond .gt 13, 3) := by decide +kernel
theorem dJx4a65c_grow_92f84_10 : decode cJx4a65c_grow_92f84 10 = .ok (.aload_n 0, 1) := by decide +kernel
theorem dJx4a65c_grow_92f84_11 : decode cJx4a65c_grow_92f84 11 = .ok (.getfield 9, 3) := by decide +kernel
theorem dJx4a65c_grow_92f84_14 : decode cJx4a65c_grow_92f84 14 = .ok (.getstatic 39, 3) := by decide +kernel
theorem dJx4a65c_grow_92f84_17 : decode cJx4a65c_grow_92f84 17 = .ok (.if_acmp .eq 28, 3) := by decide +kernel
theorem dJx4a65c_grow_92f84_20 : decode cJx4a65c_grow_92f84 20 = .ok (.iload_n 2, 1) := by decide +kernel
theorem dJx4a65c_grow_92f84_21 : decode cJx4a65c_grow_92f84 21 = .ok (.iload_n 1, 1) := by decide +kernel
theorem dJx4a65c_grow_92f84_22 : decode cJx4a65c_grow_92f84 22 = .ok (.iload_n 2, 1) := by decide +kernel
theorem dJx4a65c_grow_92f84_23 : decode cJx4a65c_grow_92f84 23 = .ok (.isub, 1) := by decide +kernel
theorem dJx4a65c_grow_92f84_24 : decode cJx4a65c_grow_92f84 24 = .ok (.iload_n 2, 1) := by decide +kernel
theorem dJx4a65c_grow_92f84_25 : decode cJx4a65c_grow_92f84 25 = .ok (.iconst 1, 1) := by decide +kernel
theorem dJx4a65c_grow_92f84_26 : decode cJx4a65c_grow_92f84 26 = .ok (.ishr, 1) := by decide +kernel
theorem dJx4a65c_grow_92f84_27 : decode cJx4a65c_grow_92f84 27 = .ok (.invokestatic 73, 3) := by decide +kernel
theorem dJx4a65c_grow_92f84_30 : decode cJx4a65c_grow_92f84 30 = .ok (.istore_n 3, 1) := by decide +kernel
theorem dJx4a65c_grow_92f84_31 : decode cJx4a65c_grow_92f84 31 = .ok (.aload_n 0, 1) := by decide +kernel
theorem dJx4a65c_grow_92f84_32 : decode cJx4a65c_grow_92f84 32 = .ok (.aload_n 0, 1) := by decide +kernel
theorem dJx4a65c_grow_92f84_33 : decode cJx4a65c_grow_92f84 33 = .ok (.getfield 9, 3) := by decide +kernel
theorem dJx4a65c_grow_92f84_36 : decode cJx4a65c_grow_92f84 36 = .ok (.iload_n 3, 1) := by decide +kernel
theorem dJx4a65c_grow_92f84_37 : decode cJx4a65c_grow_92f84 37 = .ok (.invokestatic 66, 3) := by decide +kernel
theorem dJx4a65c_grow_92f84_40 : decode cJx4a65c_grow_92f84 40 = .ok (.dup_x1, 1) := by decide +kernel
theorem dJx4a65c_grow_92f84_41 : decode cJx4a65c_grow_92f84 41 = .ok (.putfield 9, 3) := by decide +kernel
theorem dJx4a65c_grow_92f84_44 : decode cJx4a65c_grow_92f84 44 = .ok (.areturn, 1) := by decide +kernel
theorem dJx4a65c_grow_92f84_45 : decode cJx4a65c_grow_92f84 45 = .ok (.aload_n 0, 1) := by decide +kernel
theorem dJx4a65c_grow_92f84_46 : decode cJx4a65c_grow_92f84 46 = .ok (.bipush 10, 2) := by decide +kernel
theorem dJx4a65c_grow_92f84_48 : decode cJx4a65c_grow_92f84 48 = .ok (.iload_n 1, 1) := by decide +kernel
theorem dJx4a65c_grow_92f84_49 : decode cJx4a65c_grow_92f84 49 = .ok (.invokestatic 79, 3) := by decide +kernel
theorem dJx4a65c_grow_92f84_52 : decode cJx4a65c_grow_92f84 52 = .ok (.anewarray 7, 3) := by decide +kernel
theorem dJx4a65c_grow_92f84_55 : decode cJx4a65c_grow_92f84 55 = .ok (.dup_x1, 1) := by decide +kernel
theorem dJx4a65c_grow_92f84_56 : decode cJx4a65c_grow_92f84 56 = .ok (.putfield 9, 3) := by decide +kernel
theorem dJx4a65c_grow_92f84_59 : decode cJx4a65c_grow_92f84 59 = .ok (.areturn, 1) := by decide +kernel
theorem dJx4a65c_grow_d5877_0 : decode cJx4a65c_grow_d5877 0 = .ok (.aload_n 0, 1) := by decide +kernel
theorem dJx4a65c_grow_d5877_1 : decode cJx4a65c_grow_d5877 1 = .ok (.aload_n 0, 1) := by decide +kernel
theorem dJx4a65c_grow_d5877_2 : decode cJx4a65c_grow_d5877 2 = .ok (.getfield 48, 3) := by decide +kernel
theorem dJx4a65c_grow_d5877_5 : decode cJx4a65c_grow_d5877 5 = .ok (.iconst 1, 1) := by decide +kernel
theorem dJx4a65c_grow_d5877_6 : decode cJx4a65c_grow_d5877 6 = .ok (.iadd, 1) := by decide +kernel
theorem dJx4a65c_grow_d5877_7 : decode cJx4a65c_grow_d5877 7 = .ok (.invokevirtual 69, 3) := by decide +kernel
theorem dJx4a65c_grow_d5877_10 : decode cJx4a65c_grow_d5877 10 = .ok (.areturn, 1) := by decide +kernel
theorem dJx4a65c_size_8abf5_0 : decode cJx4a65c_size_8abf5 0 = .ok (.aload_n 0, 1) := by decide +kernel
theorem dJx4a65c_size_8abf5_1 : decode cJx4a65c_size_8abf5 1 = .ok (.getfield 48, 3) := by decide +kernel
theorem dJx4a65c_size_8abf5_4 : decode cJx4a65c_size_8abf5 4 = .ok (.ireturn, 1) := by decide +kernel
theorem dJx4a65c_elementData_915e3_0 : decode cJx4a65c_elementData_915e3 0 = .ok (.aload_n 0, 1) := by decide +kernel
theorem dJx4a65c_elementData_915e3_1 : decode cJx4a65c_elementData_915e3 1 = .ok (.getfield 9, 3) := by decide +kernel
theorem dJx4a65c_elementData_915e3_4 : decode cJx4a65c_elementData_915e3 4 = .ok (.iload_n 1, 1) := by decide +kernel
theorem dJx4a65c_elementData_915e3_5 : decode cJx4a65c_elementData_915e3 5 = .ok (.aaload, 1) := by decide +kernel
theorem dJx4a65c_elementData_915e3_6 : decode cJx4a65c_elementData_915e3 6 = .ok (.areturn, 1) := by decide +kernel
theorem dJx4a65c_get_915e3_0 : decode cJx4a65c_get_915e3 0 = .ok (.iload_n 1, 1) := by decide +kernel
theorem dJx4a65c_get_915e3_1 : decode cJx4a65c_get_915e3 1 = .ok (.aload_n 0, 1) := by decide +kernel
theorem dJx4a65c_get_915e3_2 : decode cJx4a65c_get_915e3 2 = .ok (.getfield 48, 3) := by decide +kernel
theorem dJx4a65c_get_915e3_5 : decode cJx4a65c_get_915e3 5 = .ok (.invokestatic 118, 3) := by decide +kernel
theorem dJx4a65c_get_915e3_8 : decode cJx4a65c_get_915e3 8 = .ok (.pop, 1) := by decide +kernel
theorem dJx4a65c_get_915e3_9 : decode cJx4a65c_get_915e3 9 = .ok (.aload_n 0, 1) := by decide +kernel
theorem dJx4a65c_get_915e3_10 : decode cJx4a65c_get_915e3 10 = .ok (.iload_n 1, 1) := by decide +kernel
theorem dJx4a65c_get_915e3_11 : decode cJx4a65c_get_915e3 11 = .ok (.invokevirtual 123, 3) := by decide +kernel
theorem dJx4a65c_get_915e3_14 : decode cJx4a65c_get_915e3 14 = .ok (.areturn, 1) := by decide +kernel
theorem dJx4a65c_add_72be8_0 : decode cJx4a65c_add_72be8 0 = .ok (.iload_n 3, 1) := by decide +kernel
theorem dJx4a65c_add_72be8_1 : decode cJx4a65c_add_72be8 1 = .ok (.aload_n 2, 1) := by decide +kernel
theorem dJx4a65c_add_72be8_2 : decode cJx4a65c_add_72be8 2 = .ok (.arraylength, 1) := by decide +kernel
theorem dJx4a65c_add_72be8_3 : decode cJx4a65c_add_72be8 3 = .ok (.if_icmp .ne 8, 3) := by decide +kernel
theorem dJx4a65c_add_72be8_6 : decode cJx4a65c_add_72be8 6 = .ok (.aload_n 0, 1) := by decide +kernel
theorem dJx4a65c_add_72be8_7 : decode cJx4a65c_add_72be8 7 = .ok (.invokevirtual 129, 3) := by decide +kernel
theorem dJx4a65c_add_72be8_10 : decode cJx4a65c_add_72be8 10 = .ok (.astore_n 2, 1) := by decide +kernel
theorem dJx4a65c_add_72be8_11 : decode cJx4a65c_add_72be8 11 = .ok (.aload_n 2, 1) := by decide +kernel
theorem dJx4a65c_add_72be8_12 : decode cJx4a65c_add_72be8 12 = .ok (.iload_n 3, 1) := by decide +kernel
theorem dJx4a65c_add_72be8_13 : decode cJx4a65c_add_72be8 13 = .ok (.aload_n 1, 1) := by decide +kernel
theorem dJx4a65c_add_72be8_14 : decode cJx4a65c_add_72be8 14 = .ok (.aastore, 1) := by decide +kernel
theorem dJx4a65c_add_72be8_15 : decode cJx4a65c_add_72be8 15 = .ok (.aload_n 0, 1) := by decide +kernel
theorem dJx4a65c_add_72be8_16 : decode cJx4a65c_add_72be8 16 = .ok (.iload_n 3, 1) := by decide +kernel
theorem dJx4a65c_add_72be8_17 : decode cJx4a65c_add_72be8 17 = .ok (.iconst 1, 1) := by decide +kernel
theorem dJx4a65c_add_72be8_18 : decode cJx4a65c_add_72be8 18 = .ok (.iadd, 1) := by decide +kernel
theorem dJx4a65c_add_72be8_19 : decode cJx4a65c_add_72be8 19 = .ok (.putfield 48, 3) := by decide +kernel
theorem dJx4a65c_add_72be8_22 : decode cJx4a65c_add_72be8 22 = .ok (.return_, 1) := by decide +kernel
theorem dJx4a65c_add_9ea2d_0 : decode cJx4a65c_add_9ea2d 0 = .ok (.aload_n 0, 1) := by decide +kernel
theorem dJx4a65c_add_9ea2d_1 : decode cJx4a65c_add_9ea2d 1 = .ok (.dup, 1) := by decide +kernel
theorem dJx4a65c_add_9ea2d_2 : decode cJx4a65c_add_9ea2d 2 = .ok (.getfield 63, 3) := by decide +kernel
theorem dJx4a65c_add_9ea2d_5 : decode cJx4a65c_add_9ea2d 5 = .ok (.iconst 1, 1) := by decide +kernel
theorem dJx4a65c_add_9ea2d_6 : decode cJx4a65c_add_9ea2d 6 = .ok (.iadd, 1) := by decide +kernel
theorem dJx4a65c_add_9ea2d_7 : decode cJx4a65c_add_9ea2d 7 = .ok (.putfield 63, 3) := by decide +kernel
theorem dJx4a65c_add_9ea2d_10 : decode cJx4a65c_add_9ea2d 10 = .ok (.aload_n 0, 1) := by decide +kernel
theorem dJx4a65c_add_9ea2d_11 : decode cJx4a65c_add_9ea2d 11 = .ok (.aload_n 1, 1) := by decide +kernel
theorem dJx4a65c_add_9ea2d_12 : decode cJx4a65c_add_9ea2d 12 = .ok (.aload_n 0, 1) := by decide +kernel
theorem dJx4a65c_add_9ea2d_13 : decode cJx4a65c_add_9ea2d 13 = .ok (.getfield 9, 3) := by decide +kernel
theorem dJx4a65c_add_9ea2d_16 : decode cJx4a65c_add_9ea2d 16 = .ok (.aload_n 0, 1) := by decide +kernel
theorem dJx4a65c_add_9ea2d_17 : decode cJx4a65c_add_9ea2d 17 = .ok (.getfield 48, 3) := by decide +kernel
theorem dJx4a65c_add_9ea2d_20 : decode cJx4a65c_add_9ea2d 20 = .ok (.invokevirtual 131, 3) := by decide +kernel
theorem dJx4a65c_add_9ea2d_23 : decode cJx4a65c_add_9ea2d 23 = .ok (.iconst 1, 1) := by decide +kernel
theorem dJx4a65c_add_9ea2d_24 : decode cJx4a65c_add_9ea2d 24 = .ok (.ireturn, 1) := by decide +kernel
theorem dJ7_copyOf_1904c_0 : decode cJ7_copyOf_1904c 0 = .ok (.aload_n 0, 1) := by decide +kernel
theorem dJ7_copyOf_1904c_1 : decode cJ7_copyOf_1904c 1 = .ok (.iload_n 1, 1) := by decide +kernel
theorem dJ7_copyOf_1904c_2 : decode cJ7_copyOf_1904c 2 = .ok (.aload_n 0, 1) := by decide +kernel
theorem dJ7_copyOf_1904c_3 : decode cJ7_copyOf_1904c 3 = .ok (.invokevirtual 86, 3) := by decide +kernel
theorem dJ7_copyOf_1904c_6 : decode cJ7_copyOf_1904c 6 = .ok (.invokestatic 300, 3) := by decide +kernel
theorem dJ7_copyOf_1904c_9 : decode cJ7_copyOf_1904c 9 = .ok (.areturn, 1) := by decide +kernel
theorem dJ7_copyOf_6403c_0 : decode cJ7_copyOf_6403c 0 = .ok (.aload_n 2, 1) := by decide +kernel
theorem dJ7_copyOf_6403c_1 : decode cJ7_copyOf_6403c 1 = .ok (.ldc 110, 2) := by decide +kernel
theorem dJ7_copyOf_6403c_3 : decode cJ7_copyOf_6403c 3 = .ok (.if_acmp .ne 10, 3) := by decide +kernel
theorem dJ7_copyOf_6403c_6 : decode cJ7_copyOf_6403c 6 = .ok (.iload_n 1, 1) := by decide +kernel
theorem dJ7_copyOf_6403c_7 : decode cJ7_copyOf_6403c 7 = .ok (.anewarray 2, 3) := by decide +kernel
theorem dJ7_copyOf_6403c_10 : decode cJ7_copyOf_6403c 10 = .ok (.goto 14, 3) := by decide +kernel
theorem dJ7_copyOf_6403c_13 : decode cJ7_copyOf_6403c 13 = .ok (.aload_n 2, 1) := by decide +kernel
theorem dJ7_copyOf_6403c_14 : decode cJ7_copyOf_6403c 14 = .ok (.invokevirtual 90, 3) := by decide +kernel
theorem dJ7_copyOf_6403c_17 : decode cJ7_copyOf_6403c 17 = .ok (.iload_n 1, 1) := by decide +kernel
theorem dJ7_copyOf_6403c_18 : decode cJ7_copyOf_6403c 18 = .ok (.invokestatic 95, 3) := by decide +kernel
theorem dJ7_copyOf_6403c_21 : decode cJ7_copyOf_6403c 21 = .ok (.checkcast 110, 3) := by decide +kernel
theorem dJ7_copyOf_6403c_24 : decode cJ7_copyOf_6403c 24 = .ok (.astore_n 3, 1) := by decide +kernel
theorem dJ7_copyOf_6403c_25 : decode cJ7_copyOf_6403c 25 = .ok (.aload_n 0, 1) := by decide +kernel
theorem dJ7_copyOf_6403c_26 : decode cJ7_copyOf_6403c 26 = .ok (.iconst 0, 1) := by decide +kernel
theorem dJ7_copyOf_6403c_27 : decode cJ7_copyOf_6403c 27 = .ok (.aload_n 3, 1) := by decide +kernel
theorem dJ7_copyOf_6403c_28 : decode cJ7_copyOf_6403c 28 = .ok (.iconst 0, 1) := by decide +kernel
theorem dJ7_copyOf_6403c_29 : decode cJ7_copyOf_6403c 29 = .ok (.aload_n 0, 1) := by decide +kernel
theorem dJ7_copyOf_6403c_30 : decode cJ7_copyOf_6403c 30 = .ok (.arraylength, 1) := by decide +kernel
theorem dJ7_copyOf_6403c_31 : decode cJ7_copyOf_6403c 31 = .ok (.iload_n 1, 1) := by decide +kernel
theorem dJ7_copyOf_6403c_32 : decode cJ7_copyOf_6403c 32 = .ok (.invokestatic 304, 3) := by decide +kernel
theorem dJ7_copyOf_6403c_35 : decode cJ7_copyOf_6403c 35 = .ok (.invokestatic 150, 3) := by decide +kernel
theorem dJ7_copyOf_6403c_38 : decode cJ7_copyOf_6403c 38 = .ok (.aload_n 3, 1) := by decide +kernel
theorem dJ7_copyOf_6403c_39 : decode cJ7_copyOf_6403c 39 = .ok (.areturn, 1) := by decide +kernel
theorem dJ15_checkIndex_7cf53_0 : decode cJ15_checkIndex_7cf53 0 = .ok (.iload_n 0, 1) := by decide +kernel
theorem dJ15_checkIndex_7cf53_1 : decode cJ15_checkIndex_7cf53 1 = .ok (.iload_n 1, 1) := by decide +kernel
theorem dJ15_checkIndex_7cf53_2 : decode cJ15_checkIndex_7cf53 2 = .ok (.aconst_null, 1) := by decide +kernel
theorem dJ15_checkIndex_7cf53_3 : decode cJ15_checkIndex_7cf53 3 = .ok (.invokestatic 105, 3) := by decide +kernel
theorem dJ15_checkIndex_7cf53_6 : decode cJ15_checkIndex_7cf53 6 = .ok (.ireturn, 1) := by decide +kernel
theorem dJ8_newLength_cabcc_0 : decode cJ8_newLength_cabcc 0 = .ok (.iload_n 0, 1) := by decide +kernel
theorem dJ8_newLength_cabcc_1 : decode cJ8_newLength_cabcc 1 = .ok (.iload_n 1, 1) := by decide +kernel
theorem dJ8_newLength_cabcc_2 : decode cJ8_newLength_cabcc 2 = .ok (.iload_n 2, 1) := by decide +kernel
theorem dJ8_newLength_cabcc_3 : decode cJ8_newLength_cabcc 3 = .ok (.invokestatic 194, 3) := by decide +kernel
theorem dJ8_newLength_cabcc_6 : decode cJ8_newLength_cabcc 6 = .ok (.iadd, 1) := by decide +kernel
theorem dJ8_newLength_cabcc_7 : decode cJ8_newLength_cabcc 7 = .ok (.istore_n 3, 1) := by decide +kernel
theorem dJ8_newLength_cabcc_8 : decode cJ8_newLength_cabcc 8 = .ok (.iconst 0, 1) := by decide +kernel
theorem dJ8_newLength_cabcc_9 : decode cJ8_newLength_cabcc 9 = .ok (.iload_n 3, 1) := by decide +kernel
theorem dJ8_newLength_cabcc_10 : decode cJ8_newLength_cabcc 10 = .ok (.if_icmp .ge 11, 3) := by decide +kernel
theorem dJ8_newLength_cabcc_13 : decode cJ8_newLength_cabcc 13 = .ok (.iload_n 3, 1) := by decide +kernel
theorem dJ8_newLength_cabcc_14 : decode cJ8_newLength_cabcc 14 = .ok (.ldc 200, 2) := by decide +kernel
theorem dJ8_newLength_cabcc_16 : decode cJ8_newLength_cabcc 16 = .ok (.if_icmp .gt 5, 3) := by decide +kernel
theorem dJ8_newLength_cabcc_19 : decode cJ8_newLength_cabcc 19 = .ok (.iload_n 3, 1) := by decide +kernel
theorem dJ8_newLength_cabcc_20 : decode cJ8_newLength_cabcc 20 = .ok (.ireturn, 1) := by decide +kernel
theorem dJ8_newLength_cabcc_21 : decode cJ8_newLength_cabcc 21 = .ok (.iload_n 0, 1) := by decide +kernel
theorem dJ8_newLength_cabcc_22 : decode cJ8_newLength_cabcc 22 = .ok (.iload_n 1, 1) := by decide +kernel
theorem dJ8_newLength_cabcc_23 : decode cJ8_newLength_cabcc 23 = .ok (.invokestatic 201, 3) := by decide +kernel
theorem dJ8_newLength_cabcc_26 : decode cJ8_newLength_cabcc 26 = .ok (.ireturn, 1) := by decide +kernel
theorem dJ8_hugeLength_7cf53_0 : decode cJ8_hugeLength_7cf53 0 = .ok (.iload_n 0, 1) := by decide +kernel
theorem dJ8_hugeLength_7cf53_1 : decode cJ8_hugeLength_7cf53 1 = .ok (.iload_n 1, 1) := by decide +kernel
theorem dJ8_hugeLength_7cf53_2 : decode cJ8_hugeLength_7cf53 2 = .ok (.iadd, 1) := by decide +kernel
theorem dJ8_hugeLength_7cf53_3 : decode cJ8_hugeLength_7cf53 3 = .ok (.istore_n 2, 1) := by decide +kernel
theorem dJ8_hugeLength_7cf53_4 : decode cJ8_hugeLength_7cf53 4 = .ok (.iload_n 2, 1) := by decide +kernel
theorem dJ8_hugeLength_7cf53_5 : decode cJ8_hugeLength_7cf53 5 = .ok (.ifCond .ge 44, 3) := by decide +kernel
