theorem d_P_isThere_0 : decode b_P_isThere 0 = .ok (.aload_n 0, 1) := by decide +kernel
theorem d_P_isThere_1 : decode b_P_isThere 1 = .ok (.getfield 15, 3) := by decide +kernel
theorem d_P_isThere_4 : decode b_P_isThere 4 = .ok (.iload_n 1, 1) := by decide +kernel
theorem d_P_isThere_5 : decode b_P_isThere 5 = .ok (.baload, 1) := by decide +kernel
theorem d_P_isThere_6 : decode b_P_isThere 6 = .ok (.ireturn, 1) := by decide +kernel
theorem d_P_gap_0 : decode b_P_gap 0 = .ok (.lload 4, 2) := by decide +kernel
theorem d_P_gap_2 : decode b_P_gap 2 = .ok (.lload_n 2, 1) := by decide +kernel
theorem d_P_gap_3 : decode b_P_gap 3 = .ok (.lcmp, 1) := by decide +kernel
theorem d_P_gap_4 : decode b_P_gap 4 = .ok (.ifCond .le 8, 3) := by decide +kernel
theorem d_P_gap_7 : decode b_P_gap 7 = .ok (.lload 4, 2) := by decide +kernel
theorem d_P_gap_9 : decode b_P_gap 9 = .ok (.lload_n 2, 1) := by decide +kernel
theorem d_P_gap_10 : decode b_P_gap 10 = .ok (.lsub, 1) := by decide +kernel
theorem d_P_gap_11 : decode b_P_gap 11 = .ok (.lreturn, 1) := by decide +kernel
theorem d_P_gap_12 : decode b_P_gap 12 = .ok (.lload_n 0, 1) := by decide +kernel
theorem d_P_gap_13 : decode b_P_gap 13 = .ok (.lload 6, 2) := by decide +kernel
theorem d_P_gap_15 : decode b_P_gap 15 = .ok (.lcmp, 1) := by decide +kernel
theorem d_P_gap_16 : decode b_P_gap 16 = .ok (.ifCond .le 10, 3) := by decide +kernel
theorem d_P_gap_19 : decode b_P_gap 19 = .ok (.lload_n 0, 1) := by decide +kernel
theorem d_P_gap_20 : decode b_P_gap 20 = .ok (.lload 6, 2) := by decide +kernel
theorem d_P_gap_22 : decode b_P_gap 22 = .ok (.lsub, 1) := by decide +kernel
theorem d_P_gap_23 : decode b_P_gap 23 = .ok (.goto 4, 3) := by decide +kernel
theorem d_P_gap_26 : decode b_P_gap 26 = .ok (.lconst 0, 1) := by decide +kernel
theorem d_P_gap_27 : decode b_P_gap 27 = .ok (.lreturn, 1) := by decide +kernel
theorem d_P_square_0 : decode b_P_square 0 = .ok (.aload_n 0, 1) := by decide +kernel
theorem d_P_square_1 : decode b_P_square 1 = .ok (.getfield 29, 3) := by decide +kernel
theorem d_P_square_4 : decode b_P_square 4 = .ok (.iload_n 1, 1) := by decide +kernel
theorem d_P_square_5 : decode b_P_square 5 = .ok (.laload, 1) := by decide +kernel
theorem d_P_square_6 : decode b_P_square 6 = .ok (.aload_n 0, 1) := by decide +kernel
theorem d_P_square_7 : decode b_P_square 7 = .ok (.getfield 36, 3) := by decide +kernel
theorem d_P_square_10 : decode b_P_square 10 = .ok (.iload_n 1, 1) := by decide +kernel
theorem d_P_square_11 : decode b_P_square 11 = .ok (.laload, 1) := by decide +kernel
theorem d_P_square_12 : decode b_P_square 12 = .ok (.aload_n 0, 1) := by decide +kernel
theorem d_P_square_13 : decode b_P_square 13 = .ok (.getfield 29, 3) := by decide +kernel
theorem d_P_square_16 : decode b_P_square 16 = .ok (.iload_n 2, 1) := by decide +kernel
theorem d_P_square_17 : decode b_P_square 17 = .ok (.laload, 1) := by decide +kernel
theorem d_P_square_18 : decode b_P_square 18 = .ok (.aload_n 0, 1) := by decide +kernel
theorem d_P_square_19 : decode b_P_square 19 = .ok (.getfield 36, 3) := by decide +kernel
theorem d_P_square_22 : decode b_P_square 22 = .ok (.iload_n 2, 1) := by decide +kernel
theorem d_P_square_23 : decode b_P_square 23 = .ok (.laload, 1) := by decide +kernel
theorem d_P_square_24 : decode b_P_square 24 = .ok (.invokestatic 53, 3) := by decide +kernel
theorem d_P_square_27 : decode b_P_square 27 = .ok (.lstore_n 3, 1) := by decide +kernel
theorem d_P_square_28 : decode b_P_square 28 = .ok (.aload_n 0, 1) := by decide +kernel
theorem d_P_square_29 : decode b_P_square 29 = .ok (.getfield 33, 3) := by decide +kernel
theorem d_P_square_32 : decode b_P_square 32 = .ok (.iload_n 1, 1) := by decide +kernel
theorem d_P_square_33 : decode b_P_square 33 = .ok (.laload, 1) := by decide +kernel
theorem d_P_square_34 : decode b_P_square 34 = .ok (.aload_n 0, 1) := by decide +kernel
theorem d_P_square_35 : decode b_P_square 35 = .ok (.getfield 39, 3) := by decide +kernel
theorem d_P_square_38 : decode b_P_square 38 = .ok (.iload_n 1, 1) := by decide +kernel
theorem d_P_square_39 : decode b_P_square 39 = .ok (.laload, 1) := by decide +kernel
theorem d_P_square_40 : decode b_P_square 40 = .ok (.aload_n 0, 1) := by decide +kernel
theorem d_P_square_41 : decode b_P_square 41 = .ok (.getfield 33, 3) := by decide +kernel
theorem d_P_square_44 : decode b_P_square 44 = .ok (.iload_n 2, 1) := by decide +kernel
theorem d_P_square_45 : decode b_P_square 45 = .ok (.laload, 1) := by decide +kernel
theorem d_P_square_46 : decode b_P_square 46 = .ok (.aload_n 0, 1) := by decide +kernel
theorem d_P_square_47 : decode b_P_square 47 = .ok (.getfield 39, 3) := by decide +kernel
theorem d_P_square_50 : decode b_P_square 50 = .ok (.iload_n 2, 1) := by decide +kernel
theorem d_P_square_51 : decode b_P_square 51 = .ok (.laload, 1) := by decide +kernel
theorem d_P_square_52 : decode b_P_square 52 = .ok (.invokestatic 53, 3) := by decide +kernel
theorem d_P_square_55 : decode b_P_square 55 = .ok (.lstore 5, 2) := by decide +kernel
theorem d_P_square_57 : decode b_P_square 57 = .ok (.lload_n 3, 1) := by decide +kernel
theorem d_P_square_58 : decode b_P_square 58 = .ok (.lload_n 3, 1) := by decide +kernel
theorem d_P_square_59 : decode b_P_square 59 = .ok (.lmul, 1) := by decide +kernel
theorem d_P_square_60 : decode b_P_square 60 = .ok (.lload 5, 2) := by decide +kernel
theorem d_P_square_62 : decode b_P_square 62 = .ok (.lload 5, 2) := by decide +kernel
theorem d_P_square_64 : decode b_P_square 64 = .ok (.lmul, 1) := by decide +kernel
theorem d_P_square_65 : decode b_P_square 65 = .ok (.ladd, 1) := by decide +kernel
theorem d_P_square_66 : decode b_P_square 66 = .ok (.lreturn, 1) := by decide +kernel
theorem d_P_touch_0 : decode b_P_touch 0 = .ok (.aload_n 0, 1) := by decide +kernel
theorem d_P_touch_1 : decode b_P_touch 1 = .ok (.getfield 19, 3) := by decide +kernel
theorem d_P_touch_4 : decode b_P_touch 4 = .ok (.iload_n 1, 1) := by decide +kernel
theorem d_P_touch_5 : decode b_P_touch 5 = .ok (.iaload, 1) := by decide +kernel
theorem d_P_touch_6 : decode b_P_touch 6 = .ok (.aload_n 0, 1) := by decide +kernel
theorem d_P_touch_7 : decode b_P_touch 7 = .ok (.getfield 23, 3) := by decide +kernel
theorem d_P_touch_10 : decode b_P_touch 10 = .ok (.iload_n 2, 1) := by decide +kernel
theorem d_P_touch_11 : decode b_P_touch 11 = .ok (.iaload, 1) := by decide +kernel
theorem d_P_touch_12 : decode b_P_touch 12 = .ok (.if_icmp .gt 18, 3) := by decide +kernel
theorem d_P_touch_15 : decode b_P_touch 15 = .ok (.aload_n 0, 1) := by decide +kernel
theorem d_P_touch_16 : decode b_P_touch 16 = .ok (.getfield 19, 3) := by decide +kernel
theorem d_P_touch_19 : decode b_P_touch 19 = .ok (.iload_n 2, 1) := by decide +kernel
theorem d_P_touch_20 : decode b_P_touch 20 = .ok (.iaload, 1) := by decide +kernel
theorem d_P_touch_21 : decode b_P_touch 21 = .ok (.aload_n 0, 1) := by decide +kernel
theorem d_P_touch_22 : decode b_P_touch 22 = .ok (.getfield 23, 3) := by decide +kernel
theorem d_P_touch_25 : decode b_P_touch 25 = .ok (.iload_n 1, 1) := by decide +kernel
theorem d_P_touch_26 : decode b_P_touch 26 = .ok (.iaload, 1) := by decide +kernel
theorem d_P_touch_27 : decode b_P_touch 27 = .ok (.if_icmp .le 5, 3) := by decide +kernel
theorem d_P_touch_30 : decode b_P_touch 30 = .ok (.iconst 0, 1) := by decide +kernel
theorem d_P_touch_31 : decode b_P_touch 31 = .ok (.ireturn, 1) := by decide +kernel
theorem d_P_touch_32 : decode b_P_touch 32 = .ok (.aload_n 0, 1) := by decide +kernel
theorem d_P_touch_33 : decode b_P_touch 33 = .ok (.getfield 42, 3) := by decide +kernel
theorem d_P_touch_36 : decode b_P_touch 36 = .ok (.iload_n 1, 1) := by decide +kernel
theorem d_P_touch_37 : decode b_P_touch 37 = .ok (.laload, 1) := by decide +kernel
theorem d_P_touch_38 : decode b_P_touch 38 = .ok (.aload_n 0, 1) := by decide +kernel
theorem d_P_touch_39 : decode b_P_touch 39 = .ok (.getfield 42, 3) := by decide +kernel
theorem d_P_touch_42 : decode b_P_touch 42 = .ok (.iload_n 2, 1) := by decide +kernel
theorem d_P_touch_43 : decode b_P_touch 43 = .ok (.laload, 1) := by decide +kernel
theorem d_P_touch_44 : decode b_P_touch 44 = .ok (.ladd, 1) := by decide +kernel
theorem d_P_touch_45 : decode b_P_touch 45 = .ok (.lstore_n 3, 1) := by decide +kernel
theorem d_P_touch_46 : decode b_P_touch 46 = .ok (.aload_n 0, 1) := by decide +kernel
theorem d_P_touch_47 : decode b_P_touch 47 = .ok (.iload_n 1, 1) := by decide +kernel
theorem d_P_touch_48 : decode b_P_touch 48 = .ok (.iload_n 2, 1) := by decide +kernel
theorem d_P_touch_49 : decode b_P_touch 49 = .ok (.invokevirtual 49, 3) := by decide +kernel
theorem d_P_touch_52 : decode b_P_touch 52 = .ok (.lload_n 3, 1) := by decide +kernel
theorem d_P_touch_53 : decode b_P_touch 53 = .ok (.lload_n 3, 1) := by decide +kernel
theorem d_P_touch_54 : decode b_P_touch 54 = .ok (.lmul, 1) := by decide +kernel
theorem d_P_touch_55 : decode b_P_touch 55 = .ok (.lcmp, 1) := by decide +kernel
theorem d_P_touch_56 : decode b_P_touch 56 = .ok (.ifCond .gt 7, 3) := by decide +kernel
theorem d_P_touch_59 : decode b_P_touch 59 = .ok (.iconst 1, 1) := by decide +kernel
theorem d_P_touch_60 : decode b_P_touch 60 = .ok (.goto 4, 3) := by decide +kernel
theorem d_P_touch_63 : decode b_P_touch 63 = .ok (.iconst 0, 1) := by decide +kernel
theorem d_P_touch_64 : decode b_P_touch 64 = .ok (.ireturn, 1) := by decide +kernel
theorem d_G_has_0 : decode b_G_has 0 = .ok (.aload_n 0, 1) := by decide +kernel
theorem d_G_has_1 : decode b_G_has 1 = .ok (.getfield 9, 3) := by decide +kernel
theorem d_G_has_4 : decode b_G_has 4 = .ok (.iload_n 1, 1) := by decide +kernel
theorem d_G_has_5 : decode b_G_has 5 = .ok (.iaload, 1) := by decide +kernel
theorem d_G_has_6 : decode b_G_has 6 = .ok (.iconst (-1), 1) := by decide +kernel
theorem d_G_has_7 : decode b_G_has 7 = .ok (.if_icmp .eq 7, 3) := by decide +kernel
theorem d_G_has_10 : decode b_G_has 10 = .ok (.iconst 1, 1) := by decide +kernel
theorem d_G_has_11 : decode b_G_has 11 = .ok (.goto 4, 3) := by decide +kernel
theorem d_G_has_14 : decode b_G_has 14 = .ok (.iconst 0, 1) := by decide +kernel
theorem d_G_has_15 : decode b_G_has 15 = .ok (.ireturn, 1) := by decide +kernel
theorem d_G_leaderOf_0 : decode b_G_leaderOf 0 = .ok (.aload_n 0, 1) := by decide +kernel
theorem d_G_leaderOf_1 : decode b_G_leaderOf 1 = .ok (.getfield 9, 3) := by decide +kernel
theorem d_G_leaderOf_4 : decode b_G_leaderOf 4 = .ok (.iload_n 1, 1) := by decide +kernel
theorem d_G_leaderOf_5 : decode b_G_leaderOf 5 = .ok (.iaload, 1) := by decide +kernel
theorem d_G_leaderOf_6 : decode b_G_leaderOf 6 = .ok (.ireturn, 1) := by decide +kernel
theorem d_G_begin_0 : decode b_G_begin 0 = .ok (.aload_n 0, 1) := by decide +kernel
theorem d_G_begin_1 : decode b_G_begin 1 = .ok (.getfield 9, 3) := by decide +kernel
theorem d_G_begin_4 : decode b_G_begin 4 = .ok (.iload_n 1, 1) := by decide +kernel
theorem d_G_begin_5 : decode b_G_begin 5 = .ok (.iload_n 1, 1) := by decide +kernel
theorem d_G_begin_6 : decode b_G_begin 6 = .ok (.iastore, 1) := by decide +kernel
theorem d_G_begin_7 : decode b_G_begin 7 = .ok (.return_, 1) := by decide +kernel
theorem d_jM_min_I_0 : decode b_jM_min_I 0 = .ok (.iload_n 0, 1) := by decide +kernel
theorem d_jM_min_I_1 : decode b_jM_min_I 1 = .ok (.iload_n 1, 1) := by decide +kernel
theorem d_jM_min_I_2 : decode b_jM_min_I 2 = .ok (.if_icmp .gt 7, 3) := by decide +kernel
theorem d_jM_min_I_5 : decode b_jM_min_I 5 = .ok (.iload_n 0, 1) := by decide +kernel
theorem d_jM_min_I_6 : decode b_jM_min_I 6 = .ok (.goto 4, 3) := by decide +kernel
theorem d_jM_min_I_9 : decode b_jM_min_I 9 = .ok (.iload_n 1, 1) := by decide +kernel
theorem d_jM_min_I_10 : decode b_jM_min_I 10 = .ok (.ireturn, 1) := by decide +kernel
theorem d_jM_max_I_0 : decode b_jM_max_I 0 = .ok (.iload_n 0, 1) := by decide +kernel
theorem d_jM_max_I_1 : decode b_jM_max_I 1 = .ok (.iload_n 1, 1) := by decide +kernel
theorem d_jM_max_I_2 : decode b_jM_max_I 2 = .ok (.if_icmp .lt 7, 3) := by decide +kernel
theorem d_jM_max_I_5 : decode b_jM_max_I 5 = .ok (.iload_n 0, 1) := by decide +kernel
theorem d_jM_max_I_6 : decode b_jM_max_I 6 = .ok (.goto 4, 3) := by decide +kernel
theorem d_jM_max_I_9 : decode b_jM_max_I 9 = .ok (.iload_n 1, 1) := by decide +kernel
theorem d_jM_max_I_10 : decode b_jM_max_I 10 = .ok (.ireturn, 1) := by decide +kernel
theorem d_G_join_0 : decode b_G_join 0 = .ok (.aload_n 0, 1) := by decide +kernel
theorem d_G_join_1 : decode b_G_join 1 = .ok (.getfield 9, 3) := by decide +kernel
theorem d_G_join_4 : decode b_G_join 4 = .ok (.iload_n 1, 1) := by decide +kernel
theorem d_G_join_5 : decode b_G_join 5 = .ok (.iaload, 1) := by decide +kernel
theorem d_G_join_6 : decode b_G_join 6 = .ok (.aload_n 0, 1) := by decide +kernel
theorem d_G_join_7 : decode b_G_join 7 = .ok (.getfield 9, 3) := by decide +kernel
theorem d_G_join_10 : decode b_G_join 10 = .ok (.iload_n 2, 1) := by decide +kernel
theorem d_G_join_11 : decode b_G_join 11 = .ok (.iaload, 1) := by decide +kernel
theorem d_G_join_12 : decode b_G_join 12 = .ok (.invokestatic 24, 3) := by decide +kernel
theorem d_G_join_15 : decode b_G_join 15 = .ok (.istore_n 3, 1) := by decide +kernel
theorem d_G_join_16 : decode b_G_join 16 = .ok (.aload_n 0, 1) := by decide +kernel
theorem d_G_join_17 : decode b_G_join 17 = .ok (.getfield 9, 3) := by decide +kernel
theorem d_G_join_20 : decode b_G_join 20 = .ok (.iload_n 1, 1) := by decide +kernel
theorem d_G_join_21 : decode b_G_join 21 = .ok (.iaload, 1) := by decide +kernel
theorem d_G_join_22 : decode b_G_join 22 = .ok (.aload_n 0, 1) := by decide +kernel
theorem d_G_join_23 : decode b_G_join 23 = .ok (.getfield 9, 3) := by decide +kernel
theorem d_G_join_26 : decode b_G_join 26 = .ok (.iload_n 2, 1) := by decide +kernel
theorem d_G_join_27 : decode b_G_join 27 = .ok (.iaload, 1) := by decide +kernel
theorem d_G_join_28 : decode b_G_join 28 = .ok (.invokestatic 30, 3) := by decide +kernel
theorem d_G_join_31 : decode b_G_join 31 = .ok (.istore 4, 2) := by decide +kernel
theorem d_G_join_33 : decode b_G_join 33 = .ok (.iload_n 3, 1) := by decide +kernel
theorem d_G_join_34 : decode b_G_join 34 = .ok (.iload 4, 2) := by decide +kernel
theorem d_G_join_36 : decode b_G_join 36 = .ok (.if_icmp .ne 4, 3) := by decide +kernel
theorem d_G_join_39 : decode b_G_join 39 = .ok (.return_, 1) := by decide +kernel
theorem d_G_join_40 : decode b_G_join 40 = .ok (.iload 4, 2) := by decide +kernel
theorem d_G_join_42 : decode b_G_join 42 = .ok (.istore 5, 2) := by decide +kernel
theorem d_G_join_44 : decode b_G_join 44 = .ok (.iload 5, 2) := by decide +kernel
theorem d_G_join_46 : decode b_G_join 46 = .ok (.bipush 60, 2) := by decide +kernel
theorem d_G_join_48 : decode b_G_join 48 = .ok (.if_icmp .ge 29, 3) := by decide +kernel
theorem d_G_join_51 : decode b_G_join 51 = .ok (.aload_n 0, 1) := by decide +kernel
theorem d_G_join_52 : decode b_G_join 52 = .ok (.getfield 9, 3) := by decide +kernel
theorem d_G_join_55 : decode b_G_join 55 = .ok (.iload 5, 2) := by decide +kernel
theorem d_G_join_57 : decode b_G_join 57 = .ok (.iaload, 1) := by decide +kernel
theorem d_G_join_58 : decode b_G_join 58 = .ok (.iload 4, 2) := by decide +kernel
theorem d_G_join_60 : decode b_G_join 60 = .ok (.if_icmp .ne 11, 3) := by decide +kernel
theorem d_G_join_63 : decode b_G_join 63 = .ok (.aload_n 0, 1) := by decide +kernel
theorem d_G_join_64 : decode b_G_join 64 = .ok (.getfield 9, 3) := by decide +kernel
theorem d_G_join_67 : decode b_G_join 67 = .ok (.iload 5, 2) := by decide +kernel
theorem d_G_join_69 : decode b_G_join 69 = .ok (.iload_n 3, 1) := by decide +kernel
theorem d_G_join_70 : decode b_G_join 70 = .ok (.iastore, 1) := by decide +kernel
theorem d_G_join_71 : decode b_G_join 71 = .ok (.iinc 5 1, 3) := by decide +kernel
theorem d_G_join_74 : decode b_G_join 74 = .ok (.goto (-30), 3) := by decide +kernel
theorem d_G_join_77 : decode b_G_join 77 = .ok (.return_, 1) := by decide +kernel
theorem d_X_leadersBelow_0 : decode b_X_leadersBelow 0 = .ok (.iconst 0, 1) := by decide +kernel
theorem d_X_leadersBelow_1 : decode b_X_leadersBelow 1 = .ok (.istore_n 2, 1) := by decide +kernel
theorem d_X_leadersBelow_2 : decode b_X_leadersBelow 2 = .ok (.iconst 0, 1) := by decide +kernel
theorem d_X_leadersBelow_3 : decode b_X_leadersBelow 3 = .ok (.istore_n 3, 1) := by decide +kernel
theorem d_X_leadersBelow_4 : decode b_X_leadersBelow 4 = .ok (.iload_n 3, 1) := by decide +kernel
theorem d_X_leadersBelow_5 : decode b_X_leadersBelow 5 = .ok (.iload_n 1, 1) := by decide +kernel
theorem d_X_leadersBelow_6 : decode b_X_leadersBelow 6 = .ok (.if_icmp .ge 24, 3) := by decide +kernel
theorem d_X_leadersBelow_9 : decode b_X_leadersBelow 9 = .ok (.aload_n 0, 1) := by decide +kernel
theorem d_X_leadersBelow_10 : decode b_X_leadersBelow 10 = .ok (.getfield 23, 3) := by decide +kernel
theorem d_X_leadersBelow_13 : decode b_X_leadersBelow 13 = .ok (.iload_n 3, 1) := by decide +kernel
theorem d_X_leadersBelow_14 : decode b_X_leadersBelow 14 = .ok (.invokevirtual 118, 3) := by decide +kernel
theorem d_X_leadersBelow_17 : decode b_X_leadersBelow 17 = .ok (.iload_n 3, 1) := by decide +kernel
theorem d_X_leadersBelow_18 : decode b_X_leadersBelow 18 = .ok (.if_icmp .ne 6, 3) := by decide +kernel
theorem d_X_leadersBelow_21 : decode b_X_leadersBelow 21 = .ok (.iinc 2 1, 3) := by decide +kernel
theorem d_X_leadersBelow_24 : decode b_X_leadersBelow 24 = .ok (.iinc 3 1, 3) := by decide +kernel
theorem d_X_leadersBelow_27 : decode b_X_leadersBelow 27 = .ok (.goto (-23), 3) := by decide +kernel
theorem d_X_leadersBelow_30 : decode b_X_leadersBelow 30 = .ok (.iload_n 2, 1) := by decide +kernel
theorem d_X_leadersBelow_31 : decode b_X_leadersBelow 31 = .ok (.ireturn, 1) := by decide +kernel
