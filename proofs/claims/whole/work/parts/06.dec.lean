theorem d_jA_fill_0 : decode b_jA_fill 0 = .ok (.iconst 0, 1) := by decide +kernel
theorem d_jA_fill_1 : decode b_jA_fill 1 = .ok (.istore_n 2, 1) := by decide +kernel
theorem d_jA_fill_2 : decode b_jA_fill 2 = .ok (.aload_n 0, 1) := by decide +kernel
theorem d_jA_fill_3 : decode b_jA_fill 3 = .ok (.arraylength, 1) := by decide +kernel
theorem d_jA_fill_4 : decode b_jA_fill 4 = .ok (.istore_n 3, 1) := by decide +kernel
theorem d_jA_fill_5 : decode b_jA_fill 5 = .ok (.iload_n 2, 1) := by decide +kernel
theorem d_jA_fill_6 : decode b_jA_fill 6 = .ok (.iload_n 3, 1) := by decide +kernel
theorem d_jA_fill_7 : decode b_jA_fill 7 = .ok (.if_icmp .ge 13, 3) := by decide +kernel
theorem d_jA_fill_10 : decode b_jA_fill 10 = .ok (.aload_n 0, 1) := by decide +kernel
theorem d_jA_fill_11 : decode b_jA_fill 11 = .ok (.iload_n 2, 1) := by decide +kernel
theorem d_jA_fill_12 : decode b_jA_fill 12 = .ok (.iload_n 1, 1) := by decide +kernel
theorem d_jA_fill_13 : decode b_jA_fill 13 = .ok (.iastore, 1) := by decide +kernel
theorem d_jA_fill_14 : decode b_jA_fill 14 = .ok (.iinc 2 1, 3) := by decide +kernel
theorem d_jA_fill_17 : decode b_jA_fill 17 = .ok (.goto (-12), 3) := by decide +kernel
theorem d_jA_fill_20 : decode b_jA_fill 20 = .ok (.return_, 1) := by decide +kernel
theorem d_G_clear_0 : decode b_G_clear 0 = .ok (.aload_n 0, 1) := by decide +kernel
theorem d_G_clear_1 : decode b_G_clear 1 = .ok (.getfield 9, 3) := by decide +kernel
theorem d_G_clear_4 : decode b_G_clear 4 = .ok (.iconst (-1), 1) := by decide +kernel
theorem d_G_clear_5 : decode b_G_clear 5 = .ok (.invokestatic 18, 3) := by decide +kernel
theorem d_G_clear_8 : decode b_G_clear 8 = .ok (.return_, 1) := by decide +kernel
theorem d_G_leaderOf_0 : decode b_G_leaderOf 0 = .ok (.aload_n 0, 1) := by decide +kernel
theorem d_G_leaderOf_1 : decode b_G_leaderOf 1 = .ok (.getfield 9, 3) := by decide +kernel
theorem d_G_leaderOf_4 : decode b_G_leaderOf 4 = .ok (.iload_n 1, 1) := by decide +kernel
theorem d_G_leaderOf_5 : decode b_G_leaderOf 5 = .ok (.iaload, 1) := by decide +kernel
theorem d_G_leaderOf_6 : decode b_G_leaderOf 6 = .ok (.ireturn, 1) := by decide +kernel
theorem d_G_has_0 : decode b_G_has 0 = .ok (.aload_n 0, 1) := by decide +kernel
theorem d_G_has_1 : decode b_G_has 1 = .ok (.getfield 9, 3) := by decide +kernel
theorem d_G_has_4 : decode b_G_has 4 = .ok (.iload_n 1, 1) := by decide +kernel
theorem d_G_has_5 : decode b_G_has 5 = .ok (.iaload, 1) := by decide +kernel
theorem d_G_has_6 : decode b_G_has 6 = .ok (.iconst (-1), 1) := by decide +kernel
theorem d_G_has_7 : decode b_G_has 7 = .ok (.if_icmp .eq 7, 3) := by decide +kernel
theorem d_G_has_10 : decode b_G_has 10 = .ok (.iconst 1, 1) := by decide +kernel
theorem d_G_has_11 : decode b_G_has 11 = .ok (.goto 4, 3) := by decide +kernel
theorem d_G_has_14 : decode b_G_has 14 = .ok (.iconst 0, 1) := by decide +kernel
theorem d_G_has_15 : decode b_G_has 15 = .ok (.ireturn, 1) := by decide +kernel
theorem d_P_pinOf_0 : decode b_P_pinOf 0 = .ok (.aload_n 0, 1) := by decide +kernel
theorem d_P_pinOf_1 : decode b_P_pinOf 1 = .ok (.getfield 26, 3) := by decide +kernel
theorem d_P_pinOf_4 : decode b_P_pinOf 4 = .ok (.iload_n 1, 1) := by decide +kernel
theorem d_P_pinOf_5 : decode b_P_pinOf 5 = .ok (.iaload, 1) := by decide +kernel
theorem d_P_pinOf_6 : decode b_P_pinOf 6 = .ok (.ireturn, 1) := by decide +kernel
theorem d_P_isThere_0 : decode b_P_isThere 0 = .ok (.aload_n 0, 1) := by decide +kernel
theorem d_P_isThere_1 : decode b_P_isThere 1 = .ok (.getfield 15, 3) := by decide +kernel
theorem d_P_isThere_4 : decode b_P_isThere 4 = .ok (.iload_n 1, 1) := by decide +kernel
theorem d_P_isThere_5 : decode b_P_isThere 5 = .ok (.baload, 1) := by decide +kernel
theorem d_P_isThere_6 : decode b_P_isThere 6 = .ok (.ireturn, 1) := by decide +kernel
theorem d_G_begin_0 : decode b_G_begin 0 = .ok (.aload_n 0, 1) := by decide +kernel
theorem d_G_begin_1 : decode b_G_begin 1 = .ok (.getfield 9, 3) := by decide +kernel
theorem d_G_begin_4 : decode b_G_begin 4 = .ok (.iload_n 1, 1) := by decide +kernel
theorem d_G_begin_5 : decode b_G_begin 5 = .ok (.iload_n 1, 1) := by decide +kernel
theorem d_G_begin_6 : decode b_G_begin 6 = .ok (.iastore, 1) := by decide +kernel
theorem d_G_begin_7 : decode b_G_begin 7 = .ok (.return_, 1) := by decide +kernel
theorem d_P_gap_0 : decode b_P_gap 0 = .ok (.lload 4, 2) := by decide +kernel
theorem d_P_gap_2 : decode b_P_gap 2 = .ok (.lload_n 2, 1) := by decide +kernel
theorem d_P_gap_3 : decode b_P_gap 3 = .ok (.lcmp, 1) := by decide +kernel
theorem d_P_gap_4 : decode b_P_gap 4 = .ok (.ifCond .le 8, 3) := by decide +kernel
theorem d_P_gap_7 : decode b_P_gap 7 = .ok (.lload 4, 2) := by decide +kernel
theorem d_P_gap_9 : decode b_P_gap 9 = .ok (.lload_n 2, 1) := by decide +kernel
theorem d_P_gap_10 : decode b_P_gap 10 = .ok (.lsub, 1) := by decide +kernel
theorem d_P_gap_11 : decode b_P_gap 11 = .ok (.lreturn, 1) := by decide +kernel
theorem d_P_gap_12 : decode b_P_gap 12 = .ok (.lload_n 0, 1) := by decide +kernel
theorem d_P_gap_13 : decode b_P_gap 13 = .ok (.lload 6, 2) := by decide +kernel
theorem d_P_gap_15 : decode b_P_gap 15 = .ok (.lcmp, 1) := by decide +kernel
theorem d_P_gap_16 : decode b_P_gap 16 = .ok (.ifCond .le 10, 3) := by decide +kernel
theorem d_P_gap_19 : decode b_P_gap 19 = .ok (.lload_n 0, 1) := by decide +kernel
theorem d_P_gap_20 : decode b_P_gap 20 = .ok (.lload 6, 2) := by decide +kernel
theorem d_P_gap_22 : decode b_P_gap 22 = .ok (.lsub, 1) := by decide +kernel
theorem d_P_gap_23 : decode b_P_gap 23 = .ok (.goto 4, 3) := by decide +kernel
theorem d_P_gap_26 : decode b_P_gap 26 = .ok (.lconst 0, 1) := by decide +kernel
theorem d_P_gap_27 : decode b_P_gap 27 = .ok (.lreturn, 1) := by decide +kernel
theorem d_P_square_0 : decode b_P_square 0 = .ok (.aload_n 0, 1) := by decide +kernel
theorem d_P_square_1 : decode b_P_square 1 = .ok (.getfield 29, 3) := by decide +kernel
theorem d_P_square_4 : decode b_P_square 4 = .ok (.iload_n 1, 1) := by decide +kernel
theorem d_P_square_5 : decode b_P_square 5 = .ok (.laload, 1) := by decide +kernel
theorem d_P_square_6 : decode b_P_square 6 = .ok (.aload_n 0, 1) := by decide +kernel
theorem d_P_square_7 : decode b_P_square 7 = .ok (.getfield 36, 3) := by decide +kernel
theorem d_P_square_10 : decode b_P_square 10 = .ok (.iload_n 1, 1) := by decide +kernel
theorem d_P_square_11 : decode b_P_square 11 = .ok (.laload, 1) := by decide +kernel
theorem d_P_square_12 : decode b_P_square 12 = .ok (.aload_n 0, 1) := by decide +kernel
theorem d_P_square_13 : decode b_P_square 13 = .ok (.getfield 29, 3) := by decide +kernel
theorem d_P_square_16 : decode b_P_square 16 = .ok (.iload_n 2, 1) := by decide +kernel
theorem d_P_square_17 : decode b_P_square 17 = .ok (.laload, 1) := by decide +kernel
theorem d_P_square_18 : decode b_P_square 18 = .ok (.aload_n 0, 1) := by decide +kernel
theorem d_P_square_19 : decode b_P_square 19 = .ok (.getfield 36, 3) := by decide +kernel
theorem d_P_square_22 : decode b_P_square 22 = .ok (.iload_n 2, 1) := by decide +kernel
theorem d_P_square_23 : decode b_P_square 23 = .ok (.laload, 1) := by decide +kernel
theorem d_P_square_24 : decode b_P_square 24 = .ok (.invokestatic 53, 3) := by decide +kernel
theorem d_P_square_27 : decode b_P_square 27 = .ok (.lstore_n 3, 1) := by decide +kernel
theorem d_P_square_28 : decode b_P_square 28 = .ok (.aload_n 0, 1) := by decide +kernel
theorem d_P_square_29 : decode b_P_square 29 = .ok (.getfield 33, 3) := by decide +kernel
theorem d_P_square_32 : decode b_P_square 32 = .ok (.iload_n 1, 1) := by decide +kernel
theorem d_P_square_33 : decode b_P_square 33 = .ok (.laload, 1) := by decide +kernel
theorem d_P_square_34 : decode b_P_square 34 = .ok (.aload_n 0, 1) := by decide +kernel
theorem d_P_square_35 : decode b_P_square 35 = .ok (.getfield 39, 3) := by decide +kernel
theorem d_P_square_38 : decode b_P_square 38 = .ok (.iload_n 1, 1) := by decide +kernel
theorem d_P_square_39 : decode b_P_square 39 = .ok (.laload, 1) := by decide +kernel
theorem d_P_square_40 : decode b_P_square 40 = .ok (.aload_n 0, 1) := by decide +kernel
theorem d_P_square_41 : decode b_P_square 41 = .ok (.getfield 33, 3) := by decide +kernel
theorem d_P_square_44 : decode b_P_square 44 = .ok (.iload_n 2, 1) := by decide +kernel
theorem d_P_square_45 : decode b_P_square 45 = .ok (.laload, 1) := by decide +kernel
theorem d_P_square_46 : decode b_P_square 46 = .ok (.aload_n 0, 1) := by decide +kernel
theorem d_P_square_47 : decode b_P_square 47 = .ok (.getfield 39, 3) := by decide +kernel
theorem d_P_square_50 : decode b_P_square 50 = .ok (.iload_n 2, 1) := by decide +kernel
theorem d_P_square_51 : decode b_P_square 51 = .ok (.laload, 1) := by decide +kernel
theorem d_P_square_52 : decode b_P_square 52 = .ok (.invokestatic 53, 3) := by decide +kernel
theorem d_P_square_55 : decode b_P_square 55 = .ok (.lstore 5, 2) := by decide +kernel
theorem d_P_square_57 : decode b_P_square 57 = .ok (.lload_n 3, 1) := by decide +kernel
theorem d_P_square_58 : decode b_P_square 58 = .ok (.lload_n 3, 1) := by decide +kernel
theorem d_P_square_59 : decode b_P_square 59 = .ok (.lmul, 1) := by decide +kernel
theorem d_P_square_60 : decode b_P_square 60 = .ok (.lload 5, 2) := by decide +kernel
theorem d_P_square_62 : decode b_P_square 62 = .ok (.lload 5, 2) := by decide +kernel
theorem d_P_square_64 : decode b_P_square 64 = .ok (.lmul, 1) := by decide +kernel
theorem d_P_square_65 : decode b_P_square 65 = .ok (.ladd, 1) := by decide +kernel
theorem d_P_square_66 : decode b_P_square 66 = .ok (.lreturn, 1) := by decide +kernel
theorem d_P_touch_0 : decode b_P_touch 0 = .ok (.aload_n 0, 1) := by decide +kernel
theorem d_P_touch_1 : decode b_P_touch 1 = .ok (.getfield 19, 3) := by decide +kernel
theorem d_P_touch_4 : decode b_P_touch 4 = .ok (.iload_n 1, 1) := by decide +kernel
theorem d_P_touch_5 : decode b_P_touch 5 = .ok (.iaload, 1) := by decide +kernel
theorem d_P_touch_6 : decode b_P_touch 6 = .ok (.aload_n 0, 1) := by decide +kernel
theorem d_P_touch_7 : decode b_P_touch 7 = .ok (.getfield 23, 3) := by decide +kernel
theorem d_P_touch_10 : decode b_P_touch 10 = .ok (.iload_n 2, 1) := by decide +kernel
theorem d_P_touch_11 : decode b_P_touch 11 = .ok (.iaload, 1) := by decide +kernel
theorem d_P_touch_12 : decode b_P_touch 12 = .ok (.if_icmp .gt 18, 3) := by decide +kernel
theorem d_P_touch_15 : decode b_P_touch 15 = .ok (.aload_n 0, 1) := by decide +kernel
theorem d_P_touch_16 : decode b_P_touch 16 = .ok (.getfield 19, 3) := by decide +kernel
theorem d_P_touch_19 : decode b_P_touch 19 = .ok (.iload_n 2, 1) := by decide +kernel
theorem d_P_touch_20 : decode b_P_touch 20 = .ok (.iaload, 1) := by decide +kernel
theorem d_P_touch_21 : decode b_P_touch 21 = .ok (.aload_n 0, 1) := by decide +kernel
theorem d_P_touch_22 : decode b_P_touch 22 = .ok (.getfield 23, 3) := by decide +kernel
theorem d_P_touch_25 : decode b_P_touch 25 = .ok (.iload_n 1, 1) := by decide +kernel
theorem d_P_touch_26 : decode b_P_touch 26 = .ok (.iaload, 1) := by decide +kernel
theorem d_P_touch_27 : decode b_P_touch 27 = .ok (.if_icmp .le 5, 3) := by decide +kernel
theorem d_P_touch_30 : decode b_P_touch 30 = .ok (.iconst 0, 1) := by decide +kernel
theorem d_P_touch_31 : decode b_P_touch 31 = .ok (.ireturn, 1) := by decide +kernel
theorem d_P_touch_32 : decode b_P_touch 32 = .ok (.aload_n 0, 1) := by decide +kernel
theorem d_P_touch_33 : decode b_P_touch 33 = .ok (.getfield 42, 3) := by decide +kernel
theorem d_P_touch_36 : decode b_P_touch 36 = .ok (.iload_n 1, 1) := by decide +kernel
theorem d_P_touch_37 : decode b_P_touch 37 = .ok (.laload, 1) := by decide +kernel
theorem d_P_touch_38 : decode b_P_touch 38 = .ok (.aload_n 0, 1) := by decide +kernel
theorem d_P_touch_39 : decode b_P_touch 39 = .ok (.getfield 42, 3) := by decide +kernel
theorem d_P_touch_42 : decode b_P_touch 42 = .ok (.iload_n 2, 1) := by decide +kernel
theorem d_P_touch_43 : decode b_P_touch 43 = .ok (.laload, 1) := by decide +kernel
theorem d_P_touch_44 : decode b_P_touch 44 = .ok (.ladd, 1) := by decide +kernel
theorem d_P_touch_45 : decode b_P_touch 45 = .ok (.lstore_n 3, 1) := by decide +kernel
theorem d_P_touch_46 : decode b_P_touch 46 = .ok (.aload_n 0, 1) := by decide +kernel
theorem d_P_touch_47 : decode b_P_touch 47 = .ok (.iload_n 1, 1) := by decide +kernel
theorem d_P_touch_48 : decode b_P_touch 48 = .ok (.iload_n 2, 1) := by decide +kernel
theorem d_P_touch_49 : decode b_P_touch 49 = .ok (.invokevirtual 49, 3) := by decide +kernel
theorem d_P_touch_52 : decode b_P_touch 52 = .ok (.lload_n 3, 1) := by decide +kernel
theorem d_P_touch_53 : decode b_P_touch 53 = .ok (.lload_n 3, 1) := by decide +kernel
theorem d_P_touch_54 : decode b_P_touch 54 = .ok (.lmul, 1) := by decide +kernel
theorem d_P_touch_55 : decode b_P_touch 55 = .ok (.lcmp, 1) := by decide +kernel
theorem d_P_touch_56 : decode b_P_touch 56 = .ok (.ifCond .gt 7, 3) := by decide +kernel
theorem d_P_touch_59 : decode b_P_touch 59 = .ok (.iconst 1, 1) := by decide +kernel
theorem d_P_touch_60 : decode b_P_touch 60 = .ok (.goto 4, 3) := by decide +kernel
theorem d_P_touch_63 : decode b_P_touch 63 = .ok (.iconst 0, 1) := by decide +kernel
theorem d_P_touch_64 : decode b_P_touch 64 = .ok (.ireturn, 1) := by decide +kernel
theorem d_jM_min_I_0 : decode b_jM_min_I 0 = .ok (.iload_n 0, 1) := by decide +kernel
theorem d_jM_min_I_1 : decode b_jM_min_I 1 = .ok (.iload_n 1, 1) := by decide +kernel
theorem d_jM_min_I_2 : decode b_jM_min_I 2 = .ok (.if_icmp .gt 7, 3) := by decide +kernel
theorem d_jM_min_I_5 : decode b_jM_min_I 5 = .ok (.iload_n 0, 1) := by decide +kernel
theorem d_jM_min_I_6 : decode b_jM_min_I 6 = .ok (.goto 4, 3) := by decide +kernel
theorem d_jM_min_I_9 : decode b_jM_min_I 9 = .ok (.iload_n 1, 1) := by decide +kernel
theorem d_jM_min_I_10 : decode b_jM_min_I 10 = .ok (.ireturn, 1) := by decide +kernel
theorem d_jM_max_I_0 : decode b_jM_max_I 0 = .ok (.iload_n 0, 1) := by decide +kernel
theorem d_jM_max_I_1 : decode b_jM_max_I 1 = .ok (.iload_n 1, 1) := by decide +kernel
theorem d_jM_max_I_2 : decode b_jM_max_I 2 = .ok (.if_icmp .lt 7, 3) := by decide +kernel
theorem d_jM_max_I_5 : decode b_jM_max_I 5 = .ok (.iload_n 0, 1) := by decide +kernel
theorem d_jM_max_I_6 : decode b_jM_max_I 6 = .ok (.goto 4, 3) := by decide +kernel
theorem d_jM_max_I_9 : decode b_jM_max_I 9 = .ok (.iload_n 1, 1) := by decide +kernel
theorem d_jM_max_I_10 : decode b_jM_max_I 10 = .ok (.ireturn, 1) := by decide +kernel
theorem d_G_join_0 : decode b_G_join 0 = .ok (.aload_n 0, 1) := by decide +kernel
theorem d_G_join_1 : decode b_G_join 1 = .ok (.getfield 9, 3) := by decide +kernel
theorem d_G_join_4 : decode b_G_join 4 = .ok (.iload_n 1, 1) := by decide +kernel
theorem d_G_join_5 : decode b_G_join 5 = .ok (.iaload, 1) := by decide +kernel
theorem d_G_join_6 : decode b_G_join 6 = .ok (.aload_n 0, 1) := by decide +kernel
theorem d_G_join_7 : decode b_G_join 7 = .ok (.getfield 9, 3) := by decide +kernel
theorem d_G_join_10 : decode b_G_join 10 = .ok (.iload_n 2, 1) := by decide +kernel
theorem d_G_join_11 : decode b_G_join 11 = .ok (.iaload, 1) := by decide +kernel
theorem d_G_join_12 : decode b_G_join 12 = .ok (.invokestatic 24, 3) := by decide +kernel
theorem d_G_join_15 : decode b_G_join 15 = .ok (.istore_n 3, 1) := by decide +kernel
theorem d_G_join_16 : decode b_G_join 16 = .ok (.aload_n 0, 1) := by decide +kernel
theorem d_G_join_17 : decode b_G_join 17 = .ok (.getfield 9, 3) := by decide +kernel
theorem d_G_join_20 : decode b_G_join 20 = .ok (.iload_n 1, 1) := by decide +kernel
theorem d_G_join_21 : decode b_G_join 21 = .ok (.iaload, 1) := by decide +kernel
theorem d_G_join_22 : decode b_G_join 22 = .ok (.aload_n 0, 1) := by decide +kernel
theorem d_G_join_23 : decode b_G_join 23 = .ok (.getfield 9, 3) := by decide +kernel
theorem d_G_join_26 : decode b_G_join 26 = .ok (.iload_n 2, 1) := by decide +kernel
theorem d_G_join_27 : decode b_G_join 27 = .ok (.iaload, 1) := by decide +kernel
theorem d_G_join_28 : decode b_G_join 28 = .ok (.invokestatic 30, 3) := by decide +kernel
theorem d_G_join_31 : decode b_G_join 31 = .ok (.istore 4, 2) := by decide +kernel
theorem d_G_join_33 : decode b_G_join 33 = .ok (.iload_n 3, 1) := by decide +kernel
theorem d_G_join_34 : decode b_G_join 34 = .ok (.iload 4, 2) := by decide +kernel
theorem d_G_join_36 : decode b_G_join 36 = .ok (.if_icmp .ne 4, 3) := by decide +kernel
theorem d_G_join_39 : decode b_G_join 39 = .ok (.return_, 1) := by decide +kernel
theorem d_G_join_40 : decode b_G_join 40 = .ok (.iload 4, 2) := by decide +kernel
theorem d_G_join_42 : decode b_G_join 42 = .ok (.istore 5, 2) := by decide +kernel
theorem d_G_join_44 : decode b_G_join 44 = .ok (.iload 5, 2) := by decide +kernel
theorem d_G_join_46 : decode b_G_join 46 = .ok (.bipush 60, 2) := by decide +kernel
theorem d_G_join_48 : decode b_G_join 48 = .ok (.if_icmp .ge 29, 3) := by decide +kernel
theorem d_G_join_51 : decode b_G_join 51 = .ok (.aload_n 0, 1) := by decide +kernel
theorem d_G_join_52 : decode b_G_join 52 = .ok (.getfield 9, 3) := by decide +kernel
theorem d_G_join_55 : decode b_G_join 55 = .ok (.iload 5, 2) := by decide +kernel
theorem d_G_join_57 : decode b_G_join 57 = .ok (.iaload, 1) := by decide +kernel
theorem d_G_join_58 : decode b_G_join 58 = .ok (.iload 4, 2) := by decide +kernel
theorem d_G_join_60 : decode b_G_join 60 = .ok (.if_icmp .ne 11, 3) := by decide +kernel
theorem d_G_join_63 : decode b_G_join 63 = .ok (.aload_n 0, 1) := by decide +kernel
theorem d_G_join_64 : decode b_G_join 64 = .ok (.getfield 9, 3) := by decide +kernel
theorem d_G_join_67 : decode b_G_join 67 = .ok (.iload 5, 2) := by decide +kernel
theorem d_G_join_69 : decode b_G_join 69 = .ok (.iload_n 3, 1) := by decide +kernel
theorem d_G_join_70 : decode b_G_join 70 = .ok (.iastore, 1) := by decide +kernel
theorem d_G_join_71 : decode b_G_join 71 = .ok (.iinc 5 1, 3) := by decide +kernel
theorem d_G_join_74 : decode b_G_join 74 = .ok (.goto (-30), 3) := by decide +kernel
theorem d_G_join_77 : decode b_G_join 77 = .ok (.return_, 1) := by decide +kernel
theorem d_G_isLike_0 : decode b_G_isLike 0 = .ok (.iconst 0, 1) := by decide +kernel
theorem d_G_isLike_1 : decode b_G_isLike 1 = .ok (.istore_n 2, 1) := by decide +kernel
theorem d_G_isLike_2 : decode b_G_isLike 2 = .ok (.iload_n 2, 1) := by decide +kernel
theorem d_G_isLike_3 : decode b_G_isLike 3 = .ok (.bipush 60, 2) := by decide +kernel
theorem d_G_isLike_5 : decode b_G_isLike 5 = .ok (.if_icmp .ge 26, 3) := by decide +kernel
theorem d_G_isLike_8 : decode b_G_isLike 8 = .ok (.aload_n 0, 1) := by decide +kernel
theorem d_G_isLike_9 : decode b_G_isLike 9 = .ok (.getfield 9, 3) := by decide +kernel
theorem d_G_isLike_12 : decode b_G_isLike 12 = .ok (.iload_n 2, 1) := by decide +kernel
theorem d_G_isLike_13 : decode b_G_isLike 13 = .ok (.iaload, 1) := by decide +kernel
theorem d_G_isLike_14 : decode b_G_isLike 14 = .ok (.aload_n 1, 1) := by decide +kernel
theorem d_G_isLike_15 : decode b_G_isLike 15 = .ok (.getfield 9, 3) := by decide +kernel
theorem d_G_isLike_18 : decode b_G_isLike 18 = .ok (.iload_n 2, 1) := by decide +kernel
theorem d_G_isLike_19 : decode b_G_isLike 19 = .ok (.iaload, 1) := by decide +kernel
theorem d_G_isLike_20 : decode b_G_isLike 20 = .ok (.if_icmp .eq 5, 3) := by decide +kernel
theorem d_G_isLike_23 : decode b_G_isLike 23 = .ok (.iconst 0, 1) := by decide +kernel
theorem d_G_isLike_24 : decode b_G_isLike 24 = .ok (.ireturn, 1) := by decide +kernel
theorem d_G_isLike_25 : decode b_G_isLike 25 = .ok (.iinc 2 1, 3) := by decide +kernel
theorem d_G_isLike_28 : decode b_G_isLike 28 = .ok (.goto (-26), 3) := by decide +kernel
theorem d_G_isLike_31 : decode b_G_isLike 31 = .ok (.iconst 1, 1) := by decide +kernel
theorem d_G_isLike_32 : decode b_G_isLike 32 = .ok (.ireturn, 1) := by decide +kernel
theorem d_P_hasPadOf_0 : decode b_P_hasPadOf 0 = .ok (.iconst 0, 1) := by decide +kernel
theorem d_P_hasPadOf_1 : decode b_P_hasPadOf 1 = .ok (.istore_n 2, 1) := by decide +kernel
theorem d_P_hasPadOf_2 : decode b_P_hasPadOf 2 = .ok (.iload_n 2, 1) := by decide +kernel
theorem d_P_hasPadOf_3 : decode b_P_hasPadOf 3 = .ok (.aload_n 0, 1) := by decide +kernel
theorem d_P_hasPadOf_4 : decode b_P_hasPadOf 4 = .ok (.getfield 9, 3) := by decide +kernel
theorem d_P_hasPadOf_7 : decode b_P_hasPadOf 7 = .ok (.if_icmp .ge 30, 3) := by decide +kernel
theorem d_P_hasPadOf_10 : decode b_P_hasPadOf 10 = .ok (.aload_n 0, 1) := by decide +kernel
theorem d_P_hasPadOf_11 : decode b_P_hasPadOf 11 = .ok (.getfield 15, 3) := by decide +kernel
theorem d_P_hasPadOf_14 : decode b_P_hasPadOf 14 = .ok (.iload_n 2, 1) := by decide +kernel
theorem d_P_hasPadOf_15 : decode b_P_hasPadOf 15 = .ok (.baload, 1) := by decide +kernel
theorem d_P_hasPadOf_16 : decode b_P_hasPadOf 16 = .ok (.ifCond .eq 15, 3) := by decide +kernel
theorem d_P_hasPadOf_19 : decode b_P_hasPadOf 19 = .ok (.aload_n 0, 1) := by decide +kernel
theorem d_P_hasPadOf_20 : decode b_P_hasPadOf 20 = .ok (.getfield 26, 3) := by decide +kernel
theorem d_P_hasPadOf_23 : decode b_P_hasPadOf 23 = .ok (.iload_n 2, 1) := by decide +kernel
theorem d_P_hasPadOf_24 : decode b_P_hasPadOf 24 = .ok (.iaload, 1) := by decide +kernel
theorem d_P_hasPadOf_25 : decode b_P_hasPadOf 25 = .ok (.iload_n 1, 1) := by decide +kernel
theorem d_P_hasPadOf_26 : decode b_P_hasPadOf 26 = .ok (.if_icmp .ne 5, 3) := by decide +kernel
theorem d_P_hasPadOf_29 : decode b_P_hasPadOf 29 = .ok (.iconst 1, 1) := by decide +kernel
theorem d_P_hasPadOf_30 : decode b_P_hasPadOf 30 = .ok (.ireturn, 1) := by decide +kernel
theorem d_P_hasPadOf_31 : decode b_P_hasPadOf 31 = .ok (.iinc 2 1, 3) := by decide +kernel
theorem d_P_hasPadOf_34 : decode b_P_hasPadOf 34 = .ok (.goto (-32), 3) := by decide +kernel
theorem d_P_hasPadOf_37 : decode b_P_hasPadOf 37 = .ok (.iconst 0, 1) := by decide +kernel
theorem d_P_hasPadOf_38 : decode b_P_hasPadOf 38 = .ok (.ireturn, 1) := by decide +kernel
theorem d_A_clear_0 : decode b_A_clear 0 = .ok (.aload_n 0, 1) := by decide +kernel
theorem d_A_clear_1 : decode b_A_clear 1 = .ok (.iconst 0, 1) := by decide +kernel
theorem d_A_clear_2 : decode b_A_clear 2 = .ok (.putfield 9, 3) := by decide +kernel
theorem d_A_clear_5 : decode b_A_clear 5 = .ok (.aload_n 0, 1) := by decide +kernel
theorem d_A_clear_6 : decode b_A_clear 6 = .ok (.iconst 0, 1) := by decide +kernel
theorem d_A_clear_7 : decode b_A_clear 7 = .ok (.putfield 19, 3) := by decide +kernel
theorem d_A_clear_10 : decode b_A_clear 10 = .ok (.return_, 1) := by decide +kernel
theorem d_A_addPad_0 : decode b_A_addPad 0 = .ok (.aload_n 0, 1) := by decide +kernel
theorem d_A_addPad_1 : decode b_A_addPad 1 = .ok (.getfield 19, 3) := by decide +kernel
theorem d_A_addPad_4 : decode b_A_addPad 4 = .ok (.bipush 60, 2) := by decide +kernel
theorem d_A_addPad_6 : decode b_A_addPad 6 = .ok (.if_icmp .ge 45, 3) := by decide +kernel
theorem d_A_addPad_9 : decode b_A_addPad 9 = .ok (.aload_n 0, 1) := by decide +kernel
theorem d_A_addPad_10 : decode b_A_addPad 10 = .ok (.getfield 22, 3) := by decide +kernel
theorem d_A_addPad_13 : decode b_A_addPad 13 = .ok (.aload_n 0, 1) := by decide +kernel
theorem d_A_addPad_14 : decode b_A_addPad 14 = .ok (.getfield 19, 3) := by decide +kernel
theorem d_A_addPad_17 : decode b_A_addPad 17 = .ok (.iload_n 1, 1) := by decide +kernel
theorem d_A_addPad_18 : decode b_A_addPad 18 = .ok (.iastore, 1) := by decide +kernel
theorem d_A_addPad_19 : decode b_A_addPad 19 = .ok (.aload_n 0, 1) := by decide +kernel
theorem d_A_addPad_20 : decode b_A_addPad 20 = .ok (.getfield 26, 3) := by decide +kernel
theorem d_A_addPad_23 : decode b_A_addPad 23 = .ok (.aload_n 0, 1) := by decide +kernel
theorem d_A_addPad_24 : decode b_A_addPad 24 = .ok (.getfield 19, 3) := by decide +kernel
theorem d_A_addPad_27 : decode b_A_addPad 27 = .ok (.iconst 0, 1) := by decide +kernel
theorem d_A_addPad_28 : decode b_A_addPad 28 = .ok (.bastore, 1) := by decide +kernel
theorem d_A_addPad_29 : decode b_A_addPad 29 = .ok (.aload_n 0, 1) := by decide +kernel
theorem d_A_addPad_30 : decode b_A_addPad 30 = .ok (.getfield 30, 3) := by decide +kernel
theorem d_A_addPad_33 : decode b_A_addPad 33 = .ok (.aload_n 0, 1) := by decide +kernel
theorem d_A_addPad_34 : decode b_A_addPad 34 = .ok (.getfield 19, 3) := by decide +kernel
theorem d_A_addPad_37 : decode b_A_addPad 37 = .ok (.ldc2_w 35, 3) := by decide +kernel
theorem d_A_addPad_40 : decode b_A_addPad 40 = .ok (.lastore, 1) := by decide +kernel
theorem d_A_addPad_41 : decode b_A_addPad 41 = .ok (.aload_n 0, 1) := by decide +kernel
theorem d_A_addPad_42 : decode b_A_addPad 42 = .ok (.dup, 1) := by decide +kernel
theorem d_A_addPad_43 : decode b_A_addPad 43 = .ok (.getfield 19, 3) := by decide +kernel
theorem d_A_addPad_46 : decode b_A_addPad 46 = .ok (.iconst 1, 1) := by decide +kernel
theorem d_A_addPad_47 : decode b_A_addPad 47 = .ok (.iadd, 1) := by decide +kernel
theorem d_A_addPad_48 : decode b_A_addPad 48 = .ok (.putfield 19, 3) := by decide +kernel
theorem d_A_addPad_51 : decode b_A_addPad 51 = .ok (.return_, 1) := by decide +kernel
theorem d_Q_of_0 : decode b_Q_of 0 = .ok (.iload_n 2, 1) := by decide +kernel
theorem d_Q_of_1 : decode b_Q_of 1 = .ok (.iload_n 3, 1) := by decide +kernel
theorem d_Q_of_2 : decode b_Q_of 2 = .ok (.invokestatic 9, 3) := by decide +kernel
theorem d_Q_of_5 : decode b_Q_of 5 = .ok (.i2l, 1) := by decide +kernel
theorem d_Q_of_6 : decode b_Q_of 6 = .ok (.lstore 4, 2) := by decide +kernel
theorem d_Q_of_8 : decode b_Q_of 8 = .ok (.iload_n 2, 1) := by decide +kernel
theorem d_Q_of_9 : decode b_Q_of 9 = .ok (.iload_n 3, 1) := by decide +kernel
theorem d_Q_of_10 : decode b_Q_of 10 = .ok (.invokestatic 15, 3) := by decide +kernel
theorem d_Q_of_13 : decode b_Q_of 13 = .ok (.i2l, 1) := by decide +kernel
theorem d_Q_of_14 : decode b_Q_of 14 = .ok (.lstore 6, 2) := by decide +kernel
theorem d_Q_of_16 : decode b_Q_of 16 = .ok (.lload_n 0, 1) := by decide +kernel
theorem d_Q_of_17 : decode b_Q_of 17 = .ok (.bipush 6, 2) := by decide +kernel
theorem d_Q_of_19 : decode b_Q_of 19 = .ok (.lshl, 1) := by decide +kernel
theorem d_Q_of_20 : decode b_Q_of 20 = .ok (.lload 4, 2) := by decide +kernel
theorem d_Q_of_22 : decode b_Q_of 22 = .ok (.lor, 1) := by decide +kernel
theorem d_Q_of_23 : decode b_Q_of 23 = .ok (.bipush 6, 2) := by decide +kernel
theorem d_Q_of_25 : decode b_Q_of 25 = .ok (.lshl, 1) := by decide +kernel
theorem d_Q_of_26 : decode b_Q_of 26 = .ok (.lload 6, 2) := by decide +kernel
theorem d_Q_of_28 : decode b_Q_of 28 = .ok (.lor, 1) := by decide +kernel
theorem d_Q_of_29 : decode b_Q_of 29 = .ok (.lreturn, 1) := by decide +kernel
theorem d_jM_min_J_0 : decode b_jM_min_J 0 = .ok (.lload_n 0, 1) := by decide +kernel
theorem d_jM_min_J_1 : decode b_jM_min_J 1 = .ok (.lload_n 2, 1) := by decide +kernel
theorem d_jM_min_J_2 : decode b_jM_min_J 2 = .ok (.lcmp, 1) := by decide +kernel
theorem d_jM_min_J_3 : decode b_jM_min_J 3 = .ok (.ifCond .gt 7, 3) := by decide +kernel
theorem d_jM_min_J_6 : decode b_jM_min_J 6 = .ok (.lload_n 0, 1) := by decide +kernel
theorem d_jM_min_J_7 : decode b_jM_min_J 7 = .ok (.goto 4, 3) := by decide +kernel
theorem d_jM_min_J_10 : decode b_jM_min_J 10 = .ok (.lload_n 2, 1) := by decide +kernel
theorem d_jM_min_J_11 : decode b_jM_min_J 11 = .ok (.lreturn, 1) := by decide +kernel
theorem d_A_lookFrom_0 : decode b_A_lookFrom 0 = .ok (.iconst 0, 1) := by decide +kernel
theorem d_A_lookFrom_1 : decode b_A_lookFrom 1 = .ok (.istore_n 3, 1) := by decide +kernel
theorem d_A_lookFrom_2 : decode b_A_lookFrom 2 = .ok (.iload_n 3, 1) := by decide +kernel
theorem d_A_lookFrom_3 : decode b_A_lookFrom 3 = .ok (.aload_n 0, 1) := by decide +kernel
theorem d_A_lookFrom_4 : decode b_A_lookFrom 4 = .ok (.getfield 19, 3) := by decide +kernel
theorem d_A_lookFrom_7 : decode b_A_lookFrom 7 = .ok (.if_icmp .ge 58, 3) := by decide +kernel
theorem d_A_lookFrom_10 : decode b_A_lookFrom 10 = .ok (.aload_n 0, 1) := by decide +kernel
theorem d_A_lookFrom_11 : decode b_A_lookFrom 11 = .ok (.getfield 26, 3) := by decide +kernel
theorem d_A_lookFrom_14 : decode b_A_lookFrom 14 = .ok (.iload_n 3, 1) := by decide +kernel
theorem d_A_lookFrom_15 : decode b_A_lookFrom 15 = .ok (.baload, 1) := by decide +kernel
theorem d_A_lookFrom_16 : decode b_A_lookFrom 16 = .ok (.ifCond .ne 43, 3) := by decide +kernel
theorem d_A_lookFrom_19 : decode b_A_lookFrom 19 = .ok (.aload_n 2, 1) := by decide +kernel
theorem d_A_lookFrom_20 : decode b_A_lookFrom 20 = .ok (.iload_n 1, 1) := by decide +kernel
theorem d_A_lookFrom_21 : decode b_A_lookFrom 21 = .ok (.aload_n 0, 1) := by decide +kernel
theorem d_A_lookFrom_22 : decode b_A_lookFrom 22 = .ok (.getfield 22, 3) := by decide +kernel
theorem d_A_lookFrom_25 : decode b_A_lookFrom 25 = .ok (.iload_n 3, 1) := by decide +kernel
theorem d_A_lookFrom_26 : decode b_A_lookFrom 26 = .ok (.iaload, 1) := by decide +kernel
theorem d_A_lookFrom_27 : decode b_A_lookFrom 27 = .ok (.invokevirtual 59, 3) := by decide +kernel
theorem d_A_lookFrom_30 : decode b_A_lookFrom 30 = .ok (.iload_n 1, 1) := by decide +kernel
theorem d_A_lookFrom_31 : decode b_A_lookFrom 31 = .ok (.aload_n 0, 1) := by decide +kernel
theorem d_A_lookFrom_32 : decode b_A_lookFrom 32 = .ok (.getfield 22, 3) := by decide +kernel
theorem d_A_lookFrom_35 : decode b_A_lookFrom 35 = .ok (.iload_n 3, 1) := by decide +kernel
theorem d_A_lookFrom_36 : decode b_A_lookFrom 36 = .ok (.iaload, 1) := by decide +kernel
theorem d_A_lookFrom_37 : decode b_A_lookFrom 37 = .ok (.invokestatic 65, 3) := by decide +kernel
theorem d_A_lookFrom_40 : decode b_A_lookFrom 40 = .ok (.lstore 4, 2) := by decide +kernel
theorem d_A_lookFrom_42 : decode b_A_lookFrom 42 = .ok (.aload_n 0, 1) := by decide +kernel
theorem d_A_lookFrom_43 : decode b_A_lookFrom 43 = .ok (.getfield 30, 3) := by decide +kernel
theorem d_A_lookFrom_46 : decode b_A_lookFrom 46 = .ok (.iload_n 3, 1) := by decide +kernel
theorem d_A_lookFrom_47 : decode b_A_lookFrom 47 = .ok (.aload_n 0, 1) := by decide +kernel
theorem d_A_lookFrom_48 : decode b_A_lookFrom 48 = .ok (.getfield 30, 3) := by decide +kernel
theorem d_A_lookFrom_51 : decode b_A_lookFrom 51 = .ok (.iload_n 3, 1) := by decide +kernel
theorem d_A_lookFrom_52 : decode b_A_lookFrom 52 = .ok (.laload, 1) := by decide +kernel
theorem d_A_lookFrom_53 : decode b_A_lookFrom 53 = .ok (.lload 4, 2) := by decide +kernel
theorem d_A_lookFrom_55 : decode b_A_lookFrom 55 = .ok (.invokestatic 71, 3) := by decide +kernel
theorem d_A_lookFrom_58 : decode b_A_lookFrom 58 = .ok (.lastore, 1) := by decide +kernel
theorem d_A_lookFrom_59 : decode b_A_lookFrom 59 = .ok (.iinc 3 1, 3) := by decide +kernel
theorem d_A_lookFrom_62 : decode b_A_lookFrom 62 = .ok (.goto (-60), 3) := by decide +kernel
theorem d_A_lookFrom_65 : decode b_A_lookFrom 65 = .ok (.return_, 1) := by decide +kernel
theorem d_A_reach_0 : decode b_A_reach 0 = .ok (.aload_n 3, 1) := by decide +kernel
theorem d_A_reach_1 : decode b_A_reach 1 = .ok (.aload_n 0, 1) := by decide +kernel
theorem d_A_reach_2 : decode b_A_reach 2 = .ok (.getfield 22, 3) := by decide +kernel
theorem d_A_reach_5 : decode b_A_reach 5 = .ok (.iload_n 1, 1) := by decide +kernel
theorem d_A_reach_6 : decode b_A_reach 6 = .ok (.iaload, 1) := by decide +kernel
theorem d_A_reach_7 : decode b_A_reach 7 = .ok (.invokevirtual 49, 3) := by decide +kernel
theorem d_A_reach_10 : decode b_A_reach 10 = .ok (.istore 4, 2) := by decide +kernel
theorem d_A_reach_12 : decode b_A_reach 12 = .ok (.iconst 0, 1) := by decide +kernel
theorem d_A_reach_13 : decode b_A_reach 13 = .ok (.istore 5, 2) := by decide +kernel
theorem d_A_reach_15 : decode b_A_reach 15 = .ok (.iload 5, 2) := by decide +kernel
theorem d_A_reach_17 : decode b_A_reach 17 = .ok (.aload_n 0, 1) := by decide +kernel
theorem d_A_reach_18 : decode b_A_reach 18 = .ok (.getfield 19, 3) := by decide +kernel
theorem d_A_reach_21 : decode b_A_reach 21 = .ok (.if_icmp .ge 33, 3) := by decide +kernel
theorem d_A_reach_24 : decode b_A_reach 24 = .ok (.aload_n 3, 1) := by decide +kernel
theorem d_A_reach_25 : decode b_A_reach 25 = .ok (.aload_n 0, 1) := by decide +kernel
theorem d_A_reach_26 : decode b_A_reach 26 = .ok (.getfield 22, 3) := by decide +kernel
theorem d_A_reach_29 : decode b_A_reach 29 = .ok (.iload 5, 2) := by decide +kernel
theorem d_A_reach_31 : decode b_A_reach 31 = .ok (.iaload, 1) := by decide +kernel
theorem d_A_reach_32 : decode b_A_reach 32 = .ok (.invokevirtual 49, 3) := by decide +kernel
theorem d_A_reach_35 : decode b_A_reach 35 = .ok (.iload 4, 2) := by decide +kernel
theorem d_A_reach_37 : decode b_A_reach 37 = .ok (.if_icmp .ne 11, 3) := by decide +kernel
theorem d_A_reach_40 : decode b_A_reach 40 = .ok (.aload_n 0, 1) := by decide +kernel
theorem d_A_reach_41 : decode b_A_reach 41 = .ok (.getfield 26, 3) := by decide +kernel
theorem d_A_reach_44 : decode b_A_reach 44 = .ok (.iload 5, 2) := by decide +kernel
theorem d_A_reach_46 : decode b_A_reach 46 = .ok (.iconst 1, 1) := by decide +kernel
theorem d_A_reach_47 : decode b_A_reach 47 = .ok (.bastore, 1) := by decide +kernel
theorem d_A_reach_48 : decode b_A_reach 48 = .ok (.iinc 5 1, 3) := by decide +kernel
theorem d_A_reach_51 : decode b_A_reach 51 = .ok (.goto (-36), 3) := by decide +kernel
theorem d_A_reach_54 : decode b_A_reach 54 = .ok (.iconst 0, 1) := by decide +kernel
theorem d_A_reach_55 : decode b_A_reach 55 = .ok (.istore 5, 2) := by decide +kernel
theorem d_A_reach_57 : decode b_A_reach 57 = .ok (.iload 5, 2) := by decide +kernel
theorem d_A_reach_59 : decode b_A_reach 59 = .ok (.aload_n 0, 1) := by decide +kernel
theorem d_A_reach_60 : decode b_A_reach 60 = .ok (.getfield 19, 3) := by decide +kernel
theorem d_A_reach_63 : decode b_A_reach 63 = .ok (.if_icmp .ge 37, 3) := by decide +kernel
theorem d_A_reach_66 : decode b_A_reach 66 = .ok (.aload_n 3, 1) := by decide +kernel
theorem d_A_reach_67 : decode b_A_reach 67 = .ok (.aload_n 0, 1) := by decide +kernel
theorem d_A_reach_68 : decode b_A_reach 68 = .ok (.getfield 22, 3) := by decide +kernel
theorem d_A_reach_71 : decode b_A_reach 71 = .ok (.iload 5, 2) := by decide +kernel
theorem d_A_reach_73 : decode b_A_reach 73 = .ok (.iaload, 1) := by decide +kernel
theorem d_A_reach_74 : decode b_A_reach 74 = .ok (.invokevirtual 49, 3) := by decide +kernel
theorem d_A_reach_77 : decode b_A_reach 77 = .ok (.iload 4, 2) := by decide +kernel
theorem d_A_reach_79 : decode b_A_reach 79 = .ok (.if_icmp .ne 15, 3) := by decide +kernel
theorem d_A_reach_82 : decode b_A_reach 82 = .ok (.aload_n 0, 1) := by decide +kernel
theorem d_A_reach_83 : decode b_A_reach 83 = .ok (.aload_n 0, 1) := by decide +kernel
theorem d_A_reach_84 : decode b_A_reach 84 = .ok (.getfield 22, 3) := by decide +kernel
theorem d_A_reach_87 : decode b_A_reach 87 = .ok (.iload 5, 2) := by decide +kernel
theorem d_A_reach_89 : decode b_A_reach 89 = .ok (.iaload, 1) := by decide +kernel
theorem d_A_reach_90 : decode b_A_reach 90 = .ok (.aload_n 2, 1) := by decide +kernel
theorem d_A_reach_91 : decode b_A_reach 91 = .ok (.invokevirtual 55, 3) := by decide +kernel
theorem d_A_reach_94 : decode b_A_reach 94 = .ok (.iinc 5 1, 3) := by decide +kernel
theorem d_A_reach_97 : decode b_A_reach 97 = .ok (.goto (-40), 3) := by decide +kernel
theorem d_A_reach_100 : decode b_A_reach 100 = .ok (.return_, 1) := by decide +kernel
theorem d_A_nearestPad_0 : decode b_A_nearestPad 0 = .ok (.iconst (-1), 1) := by decide +kernel
theorem d_A_nearestPad_1 : decode b_A_nearestPad 1 = .ok (.istore_n 1, 1) := by decide +kernel
theorem d_A_nearestPad_2 : decode b_A_nearestPad 2 = .ok (.iconst 0, 1) := by decide +kernel
theorem d_A_nearestPad_3 : decode b_A_nearestPad 3 = .ok (.istore_n 2, 1) := by decide +kernel
theorem d_A_nearestPad_4 : decode b_A_nearestPad 4 = .ok (.iload_n 2, 1) := by decide +kernel
theorem d_A_nearestPad_5 : decode b_A_nearestPad 5 = .ok (.aload_n 0, 1) := by decide +kernel
theorem d_A_nearestPad_6 : decode b_A_nearestPad 6 = .ok (.getfield 19, 3) := by decide +kernel
theorem d_A_nearestPad_9 : decode b_A_nearestPad 9 = .ok (.if_icmp .ge 41, 3) := by decide +kernel
theorem d_A_nearestPad_12 : decode b_A_nearestPad 12 = .ok (.aload_n 0, 1) := by decide +kernel
theorem d_A_nearestPad_13 : decode b_A_nearestPad 13 = .ok (.getfield 26, 3) := by decide +kernel
theorem d_A_nearestPad_16 : decode b_A_nearestPad 16 = .ok (.iload_n 2, 1) := by decide +kernel
theorem d_A_nearestPad_17 : decode b_A_nearestPad 17 = .ok (.baload, 1) := by decide +kernel
theorem d_A_nearestPad_18 : decode b_A_nearestPad 18 = .ok (.ifCond .ne 26, 3) := by decide +kernel
theorem d_A_nearestPad_21 : decode b_A_nearestPad 21 = .ok (.iload_n 1, 1) := by decide +kernel
theorem d_A_nearestPad_22 : decode b_A_nearestPad 22 = .ok (.iconst (-1), 1) := by decide +kernel
theorem d_A_nearestPad_23 : decode b_A_nearestPad 23 = .ok (.if_icmp .eq 19, 3) := by decide +kernel
theorem d_A_nearestPad_26 : decode b_A_nearestPad 26 = .ok (.aload_n 0, 1) := by decide +kernel
theorem d_A_nearestPad_27 : decode b_A_nearestPad 27 = .ok (.getfield 30, 3) := by decide +kernel
theorem d_A_nearestPad_30 : decode b_A_nearestPad 30 = .ok (.iload_n 2, 1) := by decide +kernel
theorem d_A_nearestPad_31 : decode b_A_nearestPad 31 = .ok (.laload, 1) := by decide +kernel
theorem d_A_nearestPad_32 : decode b_A_nearestPad 32 = .ok (.aload_n 0, 1) := by decide +kernel
theorem d_A_nearestPad_33 : decode b_A_nearestPad 33 = .ok (.getfield 30, 3) := by decide +kernel
theorem d_A_nearestPad_36 : decode b_A_nearestPad 36 = .ok (.iload_n 1, 1) := by decide +kernel
theorem d_A_nearestPad_37 : decode b_A_nearestPad 37 = .ok (.laload, 1) := by decide +kernel
theorem d_A_nearestPad_38 : decode b_A_nearestPad 38 = .ok (.lcmp, 1) := by decide +kernel
theorem d_A_nearestPad_39 : decode b_A_nearestPad 39 = .ok (.ifCond .ge 5, 3) := by decide +kernel
theorem d_A_nearestPad_42 : decode b_A_nearestPad 42 = .ok (.iload_n 2, 1) := by decide +kernel
theorem d_A_nearestPad_43 : decode b_A_nearestPad 43 = .ok (.istore_n 1, 1) := by decide +kernel
theorem d_A_nearestPad_44 : decode b_A_nearestPad 44 = .ok (.iinc 2 1, 3) := by decide +kernel
theorem d_A_nearestPad_47 : decode b_A_nearestPad 47 = .ok (.goto (-43), 3) := by decide +kernel
theorem d_A_nearestPad_50 : decode b_A_nearestPad 50 = .ok (.iload_n 1, 1) := by decide +kernel
theorem d_A_nearestPad_51 : decode b_A_nearestPad 51 = .ok (.ireturn, 1) := by decide +kernel
theorem d_A_insert_0 : decode b_A_insert 0 = .ok (.aload_n 0, 1) := by decide +kernel
theorem d_A_insert_1 : decode b_A_insert 1 = .ok (.getfield 9, 3) := by decide +kernel
theorem d_A_insert_4 : decode b_A_insert 4 = .ok (.bipush 60, 2) := by decide +kernel
theorem d_A_insert_6 : decode b_A_insert 6 = .ok (.if_icmp .lt 4, 3) := by decide +kernel
theorem d_A_insert_9 : decode b_A_insert 9 = .ok (.return_, 1) := by decide +kernel
theorem d_A_insert_10 : decode b_A_insert 10 = .ok (.aload_n 0, 1) := by decide +kernel
theorem d_A_insert_11 : decode b_A_insert 11 = .ok (.getfield 9, 3) := by decide +kernel
theorem d_A_insert_14 : decode b_A_insert 14 = .ok (.istore_n 3, 1) := by decide +kernel
theorem d_A_insert_15 : decode b_A_insert 15 = .ok (.aload_n 0, 1) := by decide +kernel
theorem d_A_insert_16 : decode b_A_insert 16 = .ok (.getfield 9, 3) := by decide +kernel
theorem d_A_insert_19 : decode b_A_insert 19 = .ok (.istore 4, 2) := by decide +kernel
theorem d_A_insert_21 : decode b_A_insert 21 = .ok (.iload 4, 2) := by decide +kernel
theorem d_A_insert_23 : decode b_A_insert 23 = .ok (.ifCond .le 44, 3) := by decide +kernel
theorem d_A_insert_26 : decode b_A_insert 26 = .ok (.aload_n 0, 1) := by decide +kernel
theorem d_A_insert_27 : decode b_A_insert 27 = .ok (.getfield 15, 3) := by decide +kernel
theorem d_A_insert_30 : decode b_A_insert 30 = .ok (.iload 4, 2) := by decide +kernel
theorem d_A_insert_32 : decode b_A_insert 32 = .ok (.iconst 1, 1) := by decide +kernel
theorem d_A_insert_33 : decode b_A_insert 33 = .ok (.isub, 1) := by decide +kernel
theorem d_A_insert_34 : decode b_A_insert 34 = .ok (.laload, 1) := by decide +kernel
theorem d_A_insert_35 : decode b_A_insert 35 = .ok (.lload_n 1, 1) := by decide +kernel
theorem d_A_insert_36 : decode b_A_insert 36 = .ok (.lcmp, 1) := by decide +kernel
theorem d_A_insert_37 : decode b_A_insert 37 = .ok (.ifCond .le 30, 3) := by decide +kernel
theorem d_A_insert_40 : decode b_A_insert 40 = .ok (.aload_n 0, 1) := by decide +kernel
theorem d_A_insert_41 : decode b_A_insert 41 = .ok (.getfield 15, 3) := by decide +kernel
theorem d_A_insert_44 : decode b_A_insert 44 = .ok (.iload 4, 2) := by decide +kernel
theorem d_A_insert_46 : decode b_A_insert 46 = .ok (.aload_n 0, 1) := by decide +kernel
theorem d_A_insert_47 : decode b_A_insert 47 = .ok (.getfield 15, 3) := by decide +kernel
theorem d_A_insert_50 : decode b_A_insert 50 = .ok (.iload 4, 2) := by decide +kernel
theorem d_A_insert_52 : decode b_A_insert 52 = .ok (.iconst 1, 1) := by decide +kernel
theorem d_A_insert_53 : decode b_A_insert 53 = .ok (.isub, 1) := by decide +kernel
theorem d_A_insert_54 : decode b_A_insert 54 = .ok (.laload, 1) := by decide +kernel
theorem d_A_insert_55 : decode b_A_insert 55 = .ok (.lastore, 1) := by decide +kernel
theorem d_A_insert_56 : decode b_A_insert 56 = .ok (.iload 4, 2) := by decide +kernel
theorem d_A_insert_58 : decode b_A_insert 58 = .ok (.iconst 1, 1) := by decide +kernel
theorem d_A_insert_59 : decode b_A_insert 59 = .ok (.isub, 1) := by decide +kernel
theorem d_A_insert_60 : decode b_A_insert 60 = .ok (.istore_n 3, 1) := by decide +kernel
theorem d_A_insert_61 : decode b_A_insert 61 = .ok (.iinc 4 (-1), 3) := by decide +kernel
theorem d_A_insert_64 : decode b_A_insert 64 = .ok (.goto (-43), 3) := by decide +kernel
theorem d_A_insert_67 : decode b_A_insert 67 = .ok (.aload_n 0, 1) := by decide +kernel
theorem d_A_insert_68 : decode b_A_insert 68 = .ok (.getfield 15, 3) := by decide +kernel
theorem d_A_insert_71 : decode b_A_insert 71 = .ok (.iload_n 3, 1) := by decide +kernel
theorem d_A_insert_72 : decode b_A_insert 72 = .ok (.lload_n 1, 1) := by decide +kernel
theorem d_A_insert_73 : decode b_A_insert 73 = .ok (.lastore, 1) := by decide +kernel
theorem d_A_insert_74 : decode b_A_insert 74 = .ok (.aload_n 0, 1) := by decide +kernel
theorem d_A_insert_75 : decode b_A_insert 75 = .ok (.dup, 1) := by decide +kernel
theorem d_A_insert_76 : decode b_A_insert 76 = .ok (.getfield 9, 3) := by decide +kernel
theorem d_A_insert_79 : decode b_A_insert 79 = .ok (.iconst 1, 1) := by decide +kernel
theorem d_A_insert_80 : decode b_A_insert 80 = .ok (.iadd, 1) := by decide +kernel
theorem d_A_insert_81 : decode b_A_insert 81 = .ok (.putfield 9, 3) := by decide +kernel
theorem d_A_insert_84 : decode b_A_insert 84 = .ok (.return_, 1) := by decide +kernel
theorem d_A_draw_0 : decode b_A_draw 0 = .ok (.aload_n 0, 1) := by decide +kernel
theorem d_A_draw_1 : decode b_A_draw 1 = .ok (.getfield 19, 3) := by decide +kernel
theorem d_A_draw_4 : decode b_A_draw 4 = .ok (.ifCond .ne 4, 3) := by decide +kernel
theorem d_A_draw_7 : decode b_A_draw 7 = .ok (.return_, 1) := by decide +kernel
theorem d_A_draw_8 : decode b_A_draw 8 = .ok (.aload_n 0, 1) := by decide +kernel
theorem d_A_draw_9 : decode b_A_draw 9 = .ok (.iconst 0, 1) := by decide +kernel
theorem d_A_draw_10 : decode b_A_draw 10 = .ok (.aload_n 1, 1) := by decide +kernel
theorem d_A_draw_11 : decode b_A_draw 11 = .ok (.aload_n 2, 1) := by decide +kernel
theorem d_A_draw_12 : decode b_A_draw 12 = .ok (.invokevirtual 37, 3) := by decide +kernel
theorem d_A_draw_15 : decode b_A_draw 15 = .ok (.iconst 1, 1) := by decide +kernel
theorem d_A_draw_16 : decode b_A_draw 16 = .ok (.istore_n 3, 1) := by decide +kernel
theorem d_A_draw_17 : decode b_A_draw 17 = .ok (.iload_n 3, 1) := by decide +kernel
theorem d_A_draw_18 : decode b_A_draw 18 = .ok (.aload_n 0, 1) := by decide +kernel
theorem d_A_draw_19 : decode b_A_draw 19 = .ok (.getfield 19, 3) := by decide +kernel
theorem d_A_draw_22 : decode b_A_draw 22 = .ok (.if_icmp .ge 41, 3) := by decide +kernel
theorem d_A_draw_25 : decode b_A_draw 25 = .ok (.aload_n 0, 1) := by decide +kernel
theorem d_A_draw_26 : decode b_A_draw 26 = .ok (.invokevirtual 41, 3) := by decide +kernel
theorem d_A_draw_29 : decode b_A_draw 29 = .ok (.istore 4, 2) := by decide +kernel
theorem d_A_draw_31 : decode b_A_draw 31 = .ok (.iload 4, 2) := by decide +kernel
theorem d_A_draw_33 : decode b_A_draw 33 = .ok (.iconst (-1), 1) := by decide +kernel
theorem d_A_draw_34 : decode b_A_draw 34 = .ok (.if_icmp .ne 4, 3) := by decide +kernel
theorem d_A_draw_37 : decode b_A_draw 37 = .ok (.return_, 1) := by decide +kernel
theorem d_A_draw_38 : decode b_A_draw 38 = .ok (.aload_n 0, 1) := by decide +kernel
theorem d_A_draw_39 : decode b_A_draw 39 = .ok (.aload_n 0, 1) := by decide +kernel
theorem d_A_draw_40 : decode b_A_draw 40 = .ok (.getfield 30, 3) := by decide +kernel
theorem d_A_draw_43 : decode b_A_draw 43 = .ok (.iload 4, 2) := by decide +kernel
theorem d_A_draw_45 : decode b_A_draw 45 = .ok (.laload, 1) := by decide +kernel
theorem d_A_draw_46 : decode b_A_draw 46 = .ok (.invokevirtual 45, 3) := by decide +kernel
theorem d_A_draw_49 : decode b_A_draw 49 = .ok (.aload_n 0, 1) := by decide +kernel
theorem d_A_draw_50 : decode b_A_draw 50 = .ok (.iload 4, 2) := by decide +kernel
theorem d_A_draw_52 : decode b_A_draw 52 = .ok (.aload_n 1, 1) := by decide +kernel
theorem d_A_draw_53 : decode b_A_draw 53 = .ok (.aload_n 2, 1) := by decide +kernel
theorem d_A_draw_54 : decode b_A_draw 54 = .ok (.invokevirtual 37, 3) := by decide +kernel
theorem d_A_draw_57 : decode b_A_draw 57 = .ok (.iinc 3 1, 3) := by decide +kernel
theorem d_A_draw_60 : decode b_A_draw 60 = .ok (.goto (-43), 3) := by decide +kernel
theorem d_A_draw_63 : decode b_A_draw 63 = .ok (.return_, 1) := by decide +kernel
theorem d_P_isFull_0 : decode b_P_isFull 0 = .ok (.aload_n 0, 1) := by decide +kernel
theorem d_P_isFull_1 : decode b_P_isFull 1 = .ok (.getfield 9, 3) := by decide +kernel
theorem d_P_isFull_4 : decode b_P_isFull 4 = .ok (.bipush 60, 2) := by decide +kernel
theorem d_P_isFull_6 : decode b_P_isFull 6 = .ok (.if_icmp .lt 7, 3) := by decide +kernel
theorem d_P_isFull_9 : decode b_P_isFull 9 = .ok (.iconst 1, 1) := by decide +kernel
theorem d_P_isFull_10 : decode b_P_isFull 10 = .ok (.goto 4, 3) := by decide +kernel
theorem d_P_isFull_13 : decode b_P_isFull 13 = .ok (.iconst 0, 1) := by decide +kernel
theorem d_P_isFull_14 : decode b_P_isFull 14 = .ok (.ireturn, 1) := by decide +kernel
theorem d_P_add_0 : decode b_P_add 0 = .ok (.aload_n 0, 1) := by decide +kernel
theorem d_P_add_1 : decode b_P_add 1 = .ok (.getfield 9, 3) := by decide +kernel
theorem d_P_add_4 : decode b_P_add 4 = .ok (.istore 4, 2) := by decide +kernel
theorem d_P_add_6 : decode b_P_add 6 = .ok (.aload_n 0, 1) := by decide +kernel
theorem d_P_add_7 : decode b_P_add 7 = .ok (.dup, 1) := by decide +kernel
theorem d_P_add_8 : decode b_P_add 8 = .ok (.getfield 9, 3) := by decide +kernel
theorem d_P_add_11 : decode b_P_add 11 = .ok (.iconst 1, 1) := by decide +kernel
theorem d_P_add_12 : decode b_P_add 12 = .ok (.iadd, 1) := by decide +kernel
theorem d_P_add_13 : decode b_P_add 13 = .ok (.putfield 9, 3) := by decide +kernel
theorem d_P_add_16 : decode b_P_add 16 = .ok (.aload_n 0, 1) := by decide +kernel
theorem d_P_add_17 : decode b_P_add 17 = .ok (.getfield 15, 3) := by decide +kernel
theorem d_P_add_20 : decode b_P_add 20 = .ok (.iload 4, 2) := by decide +kernel
theorem d_P_add_22 : decode b_P_add 22 = .ok (.iconst 1, 1) := by decide +kernel
theorem d_P_add_23 : decode b_P_add 23 = .ok (.bastore, 1) := by decide +kernel
theorem d_P_add_24 : decode b_P_add 24 = .ok (.aload_n 0, 1) := by decide +kernel
theorem d_P_add_25 : decode b_P_add 25 = .ok (.getfield 26, 3) := by decide +kernel
theorem d_P_add_28 : decode b_P_add 28 = .ok (.iload 4, 2) := by decide +kernel
theorem d_P_add_30 : decode b_P_add 30 = .ok (.iload_n 1, 1) := by decide +kernel
theorem d_P_add_31 : decode b_P_add 31 = .ok (.iastore, 1) := by decide +kernel
theorem d_P_add_32 : decode b_P_add 32 = .ok (.aload_n 0, 1) := by decide +kernel
theorem d_P_add_33 : decode b_P_add 33 = .ok (.getfield 19, 3) := by decide +kernel
theorem d_P_add_36 : decode b_P_add 36 = .ok (.iload 4, 2) := by decide +kernel
theorem d_P_add_38 : decode b_P_add 38 = .ok (.iload_n 2, 1) := by decide +kernel
theorem d_P_add_39 : decode b_P_add 39 = .ok (.iastore, 1) := by decide +kernel
theorem d_P_add_40 : decode b_P_add 40 = .ok (.aload_n 0, 1) := by decide +kernel
theorem d_P_add_41 : decode b_P_add 41 = .ok (.getfield 23, 3) := by decide +kernel
theorem d_P_add_44 : decode b_P_add 44 = .ok (.iload 4, 2) := by decide +kernel
theorem d_P_add_46 : decode b_P_add 46 = .ok (.iload_n 3, 1) := by decide +kernel
theorem d_P_add_47 : decode b_P_add 47 = .ok (.iastore, 1) := by decide +kernel
theorem d_P_add_48 : decode b_P_add 48 = .ok (.iload 4, 2) := by decide +kernel
theorem d_P_add_50 : decode b_P_add 50 = .ok (.ireturn, 1) := by decide +kernel
theorem d_P_addRectangle_0 : decode b_P_addRectangle 0 = .ok (.aload_n 0, 1) := by decide +kernel
theorem d_P_addRectangle_1 : decode b_P_addRectangle 1 = .ok (.iconst (-1), 1) := by decide +kernel
theorem d_P_addRectangle_2 : decode b_P_addRectangle 2 = .ok (.iload_n 1, 1) := by decide +kernel
theorem d_P_addRectangle_3 : decode b_P_addRectangle 3 = .ok (.iload_n 1, 1) := by decide +kernel
theorem d_P_addRectangle_4 : decode b_P_addRectangle 4 = .ok (.invokevirtual 45, 3) := by decide +kernel
theorem d_P_addRectangle_7 : decode b_P_addRectangle 7 = .ok (.istore 10, 2) := by decide +kernel
theorem d_P_addRectangle_9 : decode b_P_addRectangle 9 = .ok (.aload_n 0, 1) := by decide +kernel
theorem d_P_addRectangle_10 : decode b_P_addRectangle 10 = .ok (.getfield 29, 3) := by decide +kernel
theorem d_P_addRectangle_13 : decode b_P_addRectangle 13 = .ok (.iload 10, 2) := by decide +kernel
theorem d_P_addRectangle_15 : decode b_P_addRectangle 15 = .ok (.lload_n 2, 1) := by decide +kernel
theorem d_P_addRectangle_16 : decode b_P_addRectangle 16 = .ok (.lastore, 1) := by decide +kernel
theorem d_P_addRectangle_17 : decode b_P_addRectangle 17 = .ok (.aload_n 0, 1) := by decide +kernel
theorem d_P_addRectangle_18 : decode b_P_addRectangle 18 = .ok (.getfield 33, 3) := by decide +kernel
theorem d_P_addRectangle_21 : decode b_P_addRectangle 21 = .ok (.iload 10, 2) := by decide +kernel
theorem d_P_addRectangle_23 : decode b_P_addRectangle 23 = .ok (.lload 4, 2) := by decide +kernel
theorem d_P_addRectangle_25 : decode b_P_addRectangle 25 = .ok (.lastore, 1) := by decide +kernel
theorem d_P_addRectangle_26 : decode b_P_addRectangle 26 = .ok (.aload_n 0, 1) := by decide +kernel
theorem d_P_addRectangle_27 : decode b_P_addRectangle 27 = .ok (.getfield 36, 3) := by decide +kernel
theorem d_P_addRectangle_30 : decode b_P_addRectangle 30 = .ok (.iload 10, 2) := by decide +kernel
theorem d_P_addRectangle_32 : decode b_P_addRectangle 32 = .ok (.lload_n 2, 1) := by decide +kernel
theorem d_P_addRectangle_33 : decode b_P_addRectangle 33 = .ok (.lload 6, 2) := by decide +kernel
theorem d_P_addRectangle_35 : decode b_P_addRectangle 35 = .ok (.ladd, 1) := by decide +kernel
theorem d_P_addRectangle_36 : decode b_P_addRectangle 36 = .ok (.lastore, 1) := by decide +kernel
theorem d_P_addRectangle_37 : decode b_P_addRectangle 37 = .ok (.aload_n 0, 1) := by decide +kernel
theorem d_P_addRectangle_38 : decode b_P_addRectangle 38 = .ok (.getfield 39, 3) := by decide +kernel
theorem d_P_addRectangle_41 : decode b_P_addRectangle 41 = .ok (.iload 10, 2) := by decide +kernel
theorem d_P_addRectangle_43 : decode b_P_addRectangle 43 = .ok (.lload 4, 2) := by decide +kernel
theorem d_P_addRectangle_45 : decode b_P_addRectangle 45 = .ok (.lload 8, 2) := by decide +kernel
theorem d_P_addRectangle_47 : decode b_P_addRectangle 47 = .ok (.ladd, 1) := by decide +kernel
theorem d_P_addRectangle_48 : decode b_P_addRectangle 48 = .ok (.lastore, 1) := by decide +kernel
theorem d_P_addRectangle_49 : decode b_P_addRectangle 49 = .ok (.aload_n 0, 1) := by decide +kernel
theorem d_P_addRectangle_50 : decode b_P_addRectangle 50 = .ok (.getfield 42, 3) := by decide +kernel
theorem d_P_addRectangle_53 : decode b_P_addRectangle 53 = .ok (.iload 10, 2) := by decide +kernel
theorem d_P_addRectangle_55 : decode b_P_addRectangle 55 = .ok (.lconst 0, 1) := by decide +kernel
theorem d_P_addRectangle_56 : decode b_P_addRectangle 56 = .ok (.lastore, 1) := by decide +kernel
theorem d_P_addRectangle_57 : decode b_P_addRectangle 57 = .ok (.iload 10, 2) := by decide +kernel
theorem d_P_addRectangle_59 : decode b_P_addRectangle 59 = .ok (.ireturn, 1) := by decide +kernel
theorem d_P_addDisc_0 : decode b_P_addDisc 0 = .ok (.aload_n 0, 1) := by decide +kernel
theorem d_P_addDisc_1 : decode b_P_addDisc 1 = .ok (.iload_n 1, 1) := by decide +kernel
theorem d_P_addDisc_2 : decode b_P_addDisc 2 = .ok (.iload_n 2, 1) := by decide +kernel
theorem d_P_addDisc_3 : decode b_P_addDisc 3 = .ok (.iload_n 3, 1) := by decide +kernel
theorem d_P_addDisc_4 : decode b_P_addDisc 4 = .ok (.invokevirtual 45, 3) := by decide +kernel
theorem d_P_addDisc_7 : decode b_P_addDisc 7 = .ok (.istore 10, 2) := by decide +kernel
theorem d_P_addDisc_9 : decode b_P_addDisc 9 = .ok (.aload_n 0, 1) := by decide +kernel
theorem d_P_addDisc_10 : decode b_P_addDisc 10 = .ok (.getfield 29, 3) := by decide +kernel
theorem d_P_addDisc_13 : decode b_P_addDisc 13 = .ok (.iload 10, 2) := by decide +kernel
theorem d_P_addDisc_15 : decode b_P_addDisc 15 = .ok (.lload 4, 2) := by decide +kernel
theorem d_P_addDisc_17 : decode b_P_addDisc 17 = .ok (.lastore, 1) := by decide +kernel
theorem d_P_addDisc_18 : decode b_P_addDisc 18 = .ok (.aload_n 0, 1) := by decide +kernel
theorem d_P_addDisc_19 : decode b_P_addDisc 19 = .ok (.getfield 33, 3) := by decide +kernel
theorem d_P_addDisc_22 : decode b_P_addDisc 22 = .ok (.iload 10, 2) := by decide +kernel
theorem d_P_addDisc_24 : decode b_P_addDisc 24 = .ok (.lload 6, 2) := by decide +kernel
theorem d_P_addDisc_26 : decode b_P_addDisc 26 = .ok (.lastore, 1) := by decide +kernel
theorem d_P_addDisc_27 : decode b_P_addDisc 27 = .ok (.aload_n 0, 1) := by decide +kernel
theorem d_P_addDisc_28 : decode b_P_addDisc 28 = .ok (.getfield 36, 3) := by decide +kernel
theorem d_P_addDisc_31 : decode b_P_addDisc 31 = .ok (.iload 10, 2) := by decide +kernel
theorem d_P_addDisc_33 : decode b_P_addDisc 33 = .ok (.lload 4, 2) := by decide +kernel
theorem d_P_addDisc_35 : decode b_P_addDisc 35 = .ok (.lastore, 1) := by decide +kernel
theorem d_P_addDisc_36 : decode b_P_addDisc 36 = .ok (.aload_n 0, 1) := by decide +kernel
theorem d_P_addDisc_37 : decode b_P_addDisc 37 = .ok (.getfield 39, 3) := by decide +kernel
theorem d_P_addDisc_40 : decode b_P_addDisc 40 = .ok (.iload 10, 2) := by decide +kernel
theorem d_P_addDisc_42 : decode b_P_addDisc 42 = .ok (.lload 6, 2) := by decide +kernel
theorem d_P_addDisc_44 : decode b_P_addDisc 44 = .ok (.lastore, 1) := by decide +kernel
theorem d_P_addDisc_45 : decode b_P_addDisc 45 = .ok (.aload_n 0, 1) := by decide +kernel
theorem d_P_addDisc_46 : decode b_P_addDisc 46 = .ok (.getfield 42, 3) := by decide +kernel
theorem d_P_addDisc_49 : decode b_P_addDisc 49 = .ok (.iload 10, 2) := by decide +kernel
theorem d_P_addDisc_51 : decode b_P_addDisc 51 = .ok (.lload 8, 2) := by decide +kernel
theorem d_P_addDisc_53 : decode b_P_addDisc 53 = .ok (.lastore, 1) := by decide +kernel
theorem d_P_addDisc_54 : decode b_P_addDisc 54 = .ok (.iload 10, 2) := by decide +kernel
theorem d_P_addDisc_56 : decode b_P_addDisc 56 = .ok (.ireturn, 1) := by decide +kernel
theorem d_A_has_0 : decode b_A_has 0 = .ok (.iload_n 1, 1) := by decide +kernel
theorem d_A_has_1 : decode b_A_has 1 = .ok (.ifCond .lt 15, 3) := by decide +kernel
theorem d_A_has_4 : decode b_A_has 4 = .ok (.iload_n 1, 1) := by decide +kernel
theorem d_A_has_5 : decode b_A_has 5 = .ok (.aload_n 0, 1) := by decide +kernel
theorem d_A_has_6 : decode b_A_has 6 = .ok (.getfield 9, 3) := by decide +kernel
theorem d_A_has_9 : decode b_A_has 9 = .ok (.if_icmp .ge 7, 3) := by decide +kernel
theorem d_A_has_12 : decode b_A_has 12 = .ok (.iconst 1, 1) := by decide +kernel
theorem d_A_has_13 : decode b_A_has 13 = .ok (.goto 4, 3) := by decide +kernel
theorem d_A_has_16 : decode b_A_has 16 = .ok (.iconst 0, 1) := by decide +kernel
theorem d_A_has_17 : decode b_A_has 17 = .ok (.ireturn, 1) := by decide +kernel
theorem d_A_pairAt_0 : decode b_A_pairAt 0 = .ok (.aload_n 0, 1) := by decide +kernel
theorem d_A_pairAt_1 : decode b_A_pairAt 1 = .ok (.getfield 15, 3) := by decide +kernel
theorem d_A_pairAt_4 : decode b_A_pairAt 4 = .ok (.iload_n 1, 1) := by decide +kernel
theorem d_A_pairAt_5 : decode b_A_pairAt 5 = .ok (.laload, 1) := by decide +kernel
theorem d_A_pairAt_6 : decode b_A_pairAt 6 = .ok (.lreturn, 1) := by decide +kernel
theorem d_Q_square_0 : decode b_Q_square 0 = .ok (.lload_n 0, 1) := by decide +kernel
theorem d_Q_square_1 : decode b_Q_square 1 = .ok (.bipush 12, 2) := by decide +kernel
theorem d_Q_square_3 : decode b_Q_square 3 = .ok (.lshr, 1) := by decide +kernel
theorem d_Q_square_4 : decode b_Q_square 4 = .ok (.lreturn, 1) := by decide +kernel
theorem d_Q_piece_0 : decode b_Q_piece 0 = .ok (.iload_n 2, 1) := by decide +kernel
theorem d_Q_piece_1 : decode b_Q_piece 1 = .ok (.ifCond .ne 10, 3) := by decide +kernel
theorem d_Q_piece_4 : decode b_Q_piece 4 = .ok (.lload_n 0, 1) := by decide +kernel
theorem d_Q_piece_5 : decode b_Q_piece 5 = .ok (.bipush 6, 2) := by decide +kernel
theorem d_Q_piece_7 : decode b_Q_piece 7 = .ok (.lshr, 1) := by decide +kernel
theorem d_Q_piece_8 : decode b_Q_piece 8 = .ok (.goto 4, 3) := by decide +kernel
theorem d_Q_piece_11 : decode b_Q_piece 11 = .ok (.lload_n 0, 1) := by decide +kernel
theorem d_Q_piece_12 : decode b_Q_piece 12 = .ok (.ldc2_w 18, 3) := by decide +kernel
theorem d_Q_piece_15 : decode b_Q_piece 15 = .ok (.land, 1) := by decide +kernel
theorem d_Q_piece_16 : decode b_Q_piece 16 = .ok (.l2i, 1) := by decide +kernel
theorem d_Q_piece_17 : decode b_Q_piece 17 = .ok (.ireturn, 1) := by decide +kernel
theorem d_P_remove_0 : decode b_P_remove 0 = .ok (.aload_n 0, 1) := by decide +kernel
theorem d_P_remove_1 : decode b_P_remove 1 = .ok (.getfield 15, 3) := by decide +kernel
theorem d_P_remove_4 : decode b_P_remove 4 = .ok (.iload_n 1, 1) := by decide +kernel
theorem d_P_remove_5 : decode b_P_remove 5 = .ok (.iconst 0, 1) := by decide +kernel
theorem d_P_remove_6 : decode b_P_remove 6 = .ok (.bastore, 1) := by decide +kernel
theorem d_P_remove_7 : decode b_P_remove 7 = .ok (.return_, 1) := by decide +kernel
theorem d_G_leave_0 : decode b_G_leave 0 = .ok (.aload_n 0, 1) := by decide +kernel
theorem d_G_leave_1 : decode b_G_leave 1 = .ok (.getfield 9, 3) := by decide +kernel
theorem d_G_leave_4 : decode b_G_leave 4 = .ok (.iload_n 1, 1) := by decide +kernel
theorem d_G_leave_5 : decode b_G_leave 5 = .ok (.iconst (-1), 1) := by decide +kernel
theorem d_G_leave_6 : decode b_G_leave 6 = .ok (.iastore, 1) := by decide +kernel
theorem d_G_leave_7 : decode b_G_leave 7 = .ok (.return_, 1) := by decide +kernel
theorem d_G_follow_0 : decode b_G_follow 0 = .ok (.aload_n 0, 1) := by decide +kernel
theorem d_G_follow_1 : decode b_G_follow 1 = .ok (.getfield 9, 3) := by decide +kernel
theorem d_G_follow_4 : decode b_G_follow 4 = .ok (.iload_n 1, 1) := by decide +kernel
theorem d_G_follow_5 : decode b_G_follow 5 = .ok (.iload_n 2, 1) := by decide +kernel
theorem d_G_follow_6 : decode b_G_follow 6 = .ok (.iastore, 1) := by decide +kernel
theorem d_G_follow_7 : decode b_G_follow 7 = .ok (.return_, 1) := by decide +kernel
theorem d_X_leadersBelow_0 : decode b_X_leadersBelow 0 = .ok (.iconst 0, 1) := by decide +kernel
theorem d_X_leadersBelow_1 : decode b_X_leadersBelow 1 = .ok (.istore_n 2, 1) := by decide +kernel
theorem d_X_leadersBelow_2 : decode b_X_leadersBelow 2 = .ok (.iconst 0, 1) := by decide +kernel
theorem d_X_leadersBelow_3 : decode b_X_leadersBelow 3 = .ok (.istore_n 3, 1) := by decide +kernel
theorem d_X_leadersBelow_4 : decode b_X_leadersBelow 4 = .ok (.iload_n 3, 1) := by decide +kernel
theorem d_X_leadersBelow_5 : decode b_X_leadersBelow 5 = .ok (.iload_n 1, 1) := by decide +kernel
theorem d_X_leadersBelow_6 : decode b_X_leadersBelow 6 = .ok (.if_icmp .ge 24, 3) := by decide +kernel
theorem d_X_leadersBelow_9 : decode b_X_leadersBelow 9 = .ok (.aload_n 0, 1) := by decide +kernel
theorem d_X_leadersBelow_10 : decode b_X_leadersBelow 10 = .ok (.getfield 23, 3) := by decide +kernel
theorem d_X_leadersBelow_13 : decode b_X_leadersBelow 13 = .ok (.iload_n 3, 1) := by decide +kernel
theorem d_X_leadersBelow_14 : decode b_X_leadersBelow 14 = .ok (.invokevirtual 118, 3) := by decide +kernel
theorem d_X_leadersBelow_17 : decode b_X_leadersBelow 17 = .ok (.iload_n 3, 1) := by decide +kernel
theorem d_X_leadersBelow_18 : decode b_X_leadersBelow 18 = .ok (.if_icmp .ne 6, 3) := by decide +kernel
theorem d_X_leadersBelow_21 : decode b_X_leadersBelow 21 = .ok (.iinc 2 1, 3) := by decide +kernel
theorem d_X_leadersBelow_24 : decode b_X_leadersBelow 24 = .ok (.iinc 3 1, 3) := by decide +kernel
theorem d_X_leadersBelow_27 : decode b_X_leadersBelow 27 = .ok (.goto (-23), 3) := by decide +kernel
theorem d_X_leadersBelow_30 : decode b_X_leadersBelow 30 = .ok (.iload_n 2, 1) := by decide +kernel
theorem d_X_leadersBelow_31 : decode b_X_leadersBelow 31 = .ok (.ireturn, 1) := by decide +kernel
theorem d_X_enter_0 : decode b_X_enter 0 = .ok (.aload_n 1, 1) := by decide +kernel
theorem d_X_enter_1 : decode b_X_enter 1 = .ok (.iload_n 2, 1) := by decide +kernel
theorem d_X_enter_2 : decode b_X_enter 2 = .ok (.invokevirtual 215, 3) := by decide +kernel
theorem d_X_enter_5 : decode b_X_enter 5 = .ok (.iconst 0, 1) := by decide +kernel
theorem d_X_enter_6 : decode b_X_enter 6 = .ok (.istore_n 3, 1) := by decide +kernel
theorem d_X_enter_7 : decode b_X_enter 7 = .ok (.iload_n 3, 1) := by decide +kernel
theorem d_X_enter_8 : decode b_X_enter 8 = .ok (.iload_n 2, 1) := by decide +kernel
theorem d_X_enter_9 : decode b_X_enter 9 = .ok (.if_icmp .ge 35, 3) := by decide +kernel
theorem d_X_enter_12 : decode b_X_enter 12 = .ok (.aload_n 1, 1) := by decide +kernel
theorem d_X_enter_13 : decode b_X_enter 13 = .ok (.iload_n 3, 1) := by decide +kernel
theorem d_X_enter_14 : decode b_X_enter 14 = .ok (.invokevirtual 115, 3) := by decide +kernel
theorem d_X_enter_17 : decode b_X_enter 17 = .ok (.ifCond .eq 21, 3) := by decide +kernel
theorem d_X_enter_20 : decode b_X_enter 20 = .ok (.aload_n 0, 1) := by decide +kernel
theorem d_X_enter_21 : decode b_X_enter 21 = .ok (.getfield 16, 3) := by decide +kernel
theorem d_X_enter_24 : decode b_X_enter 24 = .ok (.iload_n 3, 1) := by decide +kernel
theorem d_X_enter_25 : decode b_X_enter 25 = .ok (.iload_n 2, 1) := by decide +kernel
theorem d_X_enter_26 : decode b_X_enter 26 = .ok (.invokevirtual 218, 3) := by decide +kernel
theorem d_X_enter_29 : decode b_X_enter 29 = .ok (.ifCond .eq 9, 3) := by decide +kernel
theorem d_X_enter_32 : decode b_X_enter 32 = .ok (.aload_n 1, 1) := by decide +kernel
theorem d_X_enter_33 : decode b_X_enter 33 = .ok (.iload_n 3, 1) := by decide +kernel
theorem d_X_enter_34 : decode b_X_enter 34 = .ok (.iload_n 2, 1) := by decide +kernel
theorem d_X_enter_35 : decode b_X_enter 35 = .ok (.invokevirtual 222, 3) := by decide +kernel
theorem d_X_enter_38 : decode b_X_enter 38 = .ok (.iinc 3 1, 3) := by decide +kernel
theorem d_X_enter_41 : decode b_X_enter 41 = .ok (.goto (-34), 3) := by decide +kernel
theorem d_X_enter_44 : decode b_X_enter 44 = .ok (.return_, 1) := by decide +kernel
theorem d_X_plannedNet_0 : decode b_X_plannedNet 0 = .ok (.aload_n 0, 1) := by decide +kernel
theorem d_X_plannedNet_1 : decode b_X_plannedNet 1 = .ok (.getfield 16, 3) := by decide +kernel
theorem d_X_plannedNet_4 : decode b_X_plannedNet 4 = .ok (.iload_n 1, 1) := by decide +kernel
theorem d_X_plannedNet_5 : decode b_X_plannedNet 5 = .ok (.invokevirtual 231, 3) := by decide +kernel
theorem d_X_plannedNet_8 : decode b_X_plannedNet 8 = .ok (.istore_n 2, 1) := by decide +kernel
theorem d_X_plannedNet_9 : decode b_X_plannedNet 9 = .ok (.iload_n 2, 1) := by decide +kernel
theorem d_X_plannedNet_10 : decode b_X_plannedNet 10 = .ok (.iconst (-1), 1) := by decide +kernel
theorem d_X_plannedNet_11 : decode b_X_plannedNet 11 = .ok (.if_icmp .ne 7, 3) := by decide +kernel
theorem d_X_plannedNet_14 : decode b_X_plannedNet 14 = .ok (.iconst (-1), 1) := by decide +kernel
theorem d_X_plannedNet_15 : decode b_X_plannedNet 15 = .ok (.goto 9, 3) := by decide +kernel
theorem d_X_plannedNet_18 : decode b_X_plannedNet 18 = .ok (.aload_n 0, 1) := by decide +kernel
theorem d_X_plannedNet_19 : decode b_X_plannedNet 19 = .ok (.getfield 9, 3) := by decide +kernel
theorem d_X_plannedNet_22 : decode b_X_plannedNet 22 = .ok (.iload_n 2, 1) := by decide +kernel
theorem d_X_plannedNet_23 : decode b_X_plannedNet 23 = .ok (.iaload, 1) := by decide +kernel
theorem d_X_plannedNet_24 : decode b_X_plannedNet 24 = .ok (.ireturn, 1) := by decide +kernel
theorem d_X_plannedBit_0 : decode b_X_plannedBit 0 = .ok (.aload_n 0, 1) := by decide +kernel
theorem d_X_plannedBit_1 : decode b_X_plannedBit 1 = .ok (.iload_n 1, 1) := by decide +kernel
theorem d_X_plannedBit_2 : decode b_X_plannedBit 2 = .ok (.invokevirtual 234, 3) := by decide +kernel
theorem d_X_plannedBit_5 : decode b_X_plannedBit 5 = .ok (.istore_n 2, 1) := by decide +kernel
theorem d_X_plannedBit_6 : decode b_X_plannedBit 6 = .ok (.iload_n 2, 1) := by decide +kernel
theorem d_X_plannedBit_7 : decode b_X_plannedBit 7 = .ok (.iconst (-1), 1) := by decide +kernel
theorem d_X_plannedBit_8 : decode b_X_plannedBit 8 = .ok (.if_icmp .ne 7, 3) := by decide +kernel
theorem d_X_plannedBit_11 : decode b_X_plannedBit 11 = .ok (.iconst 0, 1) := by decide +kernel
theorem d_X_plannedBit_12 : decode b_X_plannedBit 12 = .ok (.goto 6, 3) := by decide +kernel
theorem d_X_plannedBit_15 : decode b_X_plannedBit 15 = .ok (.iconst 1, 1) := by decide +kernel
theorem d_X_plannedBit_16 : decode b_X_plannedBit 16 = .ok (.iload_n 2, 1) := by decide +kernel
theorem d_X_plannedBit_17 : decode b_X_plannedBit 17 = .ok (.ishl, 1) := by decide +kernel
theorem d_X_plannedBit_18 : decode b_X_plannedBit 18 = .ok (.ireturn, 1) := by decide +kernel
theorem d_X_collectNetBits_0 : decode b_X_collectNetBits 0 = .ok (.aload_n 0, 1) := by decide +kernel
theorem d_X_collectNetBits_1 : decode b_X_collectNetBits 1 = .ok (.getfield 37, 3) := by decide +kernel
theorem d_X_collectNetBits_4 : decode b_X_collectNetBits 4 = .ok (.iconst 0, 1) := by decide +kernel
theorem d_X_collectNetBits_5 : decode b_X_collectNetBits 5 = .ok (.invokestatic 56, 3) := by decide +kernel
theorem d_X_collectNetBits_8 : decode b_X_collectNetBits 8 = .ok (.iconst 0, 1) := by decide +kernel
theorem d_X_collectNetBits_9 : decode b_X_collectNetBits 9 = .ok (.istore_n 1, 1) := by decide +kernel
theorem d_X_collectNetBits_10 : decode b_X_collectNetBits 10 = .ok (.iload_n 1, 1) := by decide +kernel
theorem d_X_collectNetBits_11 : decode b_X_collectNetBits 11 = .ok (.aload_n 0, 1) := by decide +kernel
theorem d_X_collectNetBits_12 : decode b_X_collectNetBits 12 = .ok (.getfield 16, 3) := by decide +kernel
theorem d_X_collectNetBits_15 : decode b_X_collectNetBits 15 = .ok (.getfield 106, 3) := by decide +kernel
theorem d_X_collectNetBits_18 : decode b_X_collectNetBits 18 = .ok (.if_icmp .ge 41, 3) := by decide +kernel
theorem d_X_collectNetBits_21 : decode b_X_collectNetBits 21 = .ok (.aload_n 0, 1) := by decide +kernel
theorem d_X_collectNetBits_22 : decode b_X_collectNetBits 22 = .ok (.getfield 23, 3) := by decide +kernel
theorem d_X_collectNetBits_25 : decode b_X_collectNetBits 25 = .ok (.iload_n 1, 1) := by decide +kernel
theorem d_X_collectNetBits_26 : decode b_X_collectNetBits 26 = .ok (.invokevirtual 115, 3) := by decide +kernel
theorem d_X_collectNetBits_29 : decode b_X_collectNetBits 29 = .ok (.ifCond .eq 24, 3) := by decide +kernel
theorem d_X_collectNetBits_32 : decode b_X_collectNetBits 32 = .ok (.aload_n 0, 1) := by decide +kernel
theorem d_X_collectNetBits_33 : decode b_X_collectNetBits 33 = .ok (.getfield 37, 3) := by decide +kernel
theorem d_X_collectNetBits_36 : decode b_X_collectNetBits 36 = .ok (.aload_n 0, 1) := by decide +kernel
theorem d_X_collectNetBits_37 : decode b_X_collectNetBits 37 = .ok (.getfield 23, 3) := by decide +kernel
theorem d_X_collectNetBits_40 : decode b_X_collectNetBits 40 = .ok (.iload_n 1, 1) := by decide +kernel
theorem d_X_collectNetBits_41 : decode b_X_collectNetBits 41 = .ok (.invokevirtual 118, 3) := by decide +kernel
theorem d_X_collectNetBits_44 : decode b_X_collectNetBits 44 = .ok (.dup2, 1) := by decide +kernel
theorem d_X_collectNetBits_45 : decode b_X_collectNetBits 45 = .ok (.iaload, 1) := by decide +kernel
theorem d_X_collectNetBits_46 : decode b_X_collectNetBits 46 = .ok (.aload_n 0, 1) := by decide +kernel
theorem d_X_collectNetBits_47 : decode b_X_collectNetBits 47 = .ok (.iload_n 1, 1) := by decide +kernel
theorem d_X_collectNetBits_48 : decode b_X_collectNetBits 48 = .ok (.invokevirtual 237, 3) := by decide +kernel
theorem d_X_collectNetBits_51 : decode b_X_collectNetBits 51 = .ok (.ior, 1) := by decide +kernel
theorem d_X_collectNetBits_52 : decode b_X_collectNetBits 52 = .ok (.iastore, 1) := by decide +kernel
theorem d_X_collectNetBits_53 : decode b_X_collectNetBits 53 = .ok (.iinc 1 1, 3) := by decide +kernel
theorem d_X_collectNetBits_56 : decode b_X_collectNetBits 56 = .ok (.goto (-46), 3) := by decide +kernel
theorem d_X_collectNetBits_59 : decode b_X_collectNetBits 59 = .ok (.return_, 1) := by decide +kernel
theorem d_X_run_0 : decode b_X_run 0 = .ok (.aload_n 0, 1) := by decide +kernel
theorem d_X_run_1 : decode b_X_run 1 = .ok (.aload_n 0, 1) := by decide +kernel
theorem d_X_run_2 : decode b_X_run 2 = .ok (.getfield 16, 3) := by decide +kernel
theorem d_X_run_5 : decode b_X_run 5 = .ok (.getfield 106, 3) := by decide +kernel
theorem d_X_run_8 : decode b_X_run 8 = .ok (.invokevirtual 109, 3) := by decide +kernel
theorem d_X_run_11 : decode b_X_run 11 = .ok (.ireturn, 1) := by decide +kernel
theorem d_jI_bitCount_0 : decode b_jI_bitCount 0 = .ok (.iload_n 0, 1) := by decide +kernel
theorem d_jI_bitCount_1 : decode b_jI_bitCount 1 = .ok (.iload_n 0, 1) := by decide +kernel
theorem d_jI_bitCount_2 : decode b_jI_bitCount 2 = .ok (.iconst 1, 1) := by decide +kernel
theorem d_jI_bitCount_3 : decode b_jI_bitCount 3 = .ok (.iushr, 1) := by decide +kernel
theorem d_jI_bitCount_4 : decode b_jI_bitCount 4 = .ok (.ldc_w 265, 3) := by decide +kernel
theorem d_jI_bitCount_7 : decode b_jI_bitCount 7 = .ok (.iand, 1) := by decide +kernel
theorem d_jI_bitCount_8 : decode b_jI_bitCount 8 = .ok (.isub, 1) := by decide +kernel
theorem d_jI_bitCount_9 : decode b_jI_bitCount 9 = .ok (.istore_n 0, 1) := by decide +kernel
theorem d_jI_bitCount_10 : decode b_jI_bitCount 10 = .ok (.iload_n 0, 1) := by decide +kernel
theorem d_jI_bitCount_11 : decode b_jI_bitCount 11 = .ok (.ldc_w 266, 3) := by decide +kernel
theorem d_jI_bitCount_14 : decode b_jI_bitCount 14 = .ok (.iand, 1) := by decide +kernel
theorem d_jI_bitCount_15 : decode b_jI_bitCount 15 = .ok (.iload_n 0, 1) := by decide +kernel
theorem d_jI_bitCount_16 : decode b_jI_bitCount 16 = .ok (.iconst 2, 1) := by decide +kernel
theorem d_jI_bitCount_17 : decode b_jI_bitCount 17 = .ok (.iushr, 1) := by decide +kernel
theorem d_jI_bitCount_18 : decode b_jI_bitCount 18 = .ok (.ldc_w 266, 3) := by decide +kernel
theorem d_jI_bitCount_21 : decode b_jI_bitCount 21 = .ok (.iand, 1) := by decide +kernel
theorem d_jI_bitCount_22 : decode b_jI_bitCount 22 = .ok (.iadd, 1) := by decide +kernel
theorem d_jI_bitCount_23 : decode b_jI_bitCount 23 = .ok (.istore_n 0, 1) := by decide +kernel
theorem d_jI_bitCount_24 : decode b_jI_bitCount 24 = .ok (.iload_n 0, 1) := by decide +kernel
theorem d_jI_bitCount_25 : decode b_jI_bitCount 25 = .ok (.iload_n 0, 1) := by decide +kernel
theorem d_jI_bitCount_26 : decode b_jI_bitCount 26 = .ok (.iconst 4, 1) := by decide +kernel
theorem d_jI_bitCount_27 : decode b_jI_bitCount 27 = .ok (.iushr, 1) := by decide +kernel
theorem d_jI_bitCount_28 : decode b_jI_bitCount 28 = .ok (.iadd, 1) := by decide +kernel
theorem d_jI_bitCount_29 : decode b_jI_bitCount 29 = .ok (.ldc_w 267, 3) := by decide +kernel
theorem d_jI_bitCount_32 : decode b_jI_bitCount 32 = .ok (.iand, 1) := by decide +kernel
theorem d_jI_bitCount_33 : decode b_jI_bitCount 33 = .ok (.istore_n 0, 1) := by decide +kernel
theorem d_jI_bitCount_34 : decode b_jI_bitCount 34 = .ok (.iload_n 0, 1) := by decide +kernel
theorem d_jI_bitCount_35 : decode b_jI_bitCount 35 = .ok (.iload_n 0, 1) := by decide +kernel
theorem d_jI_bitCount_36 : decode b_jI_bitCount 36 = .ok (.bipush 8, 2) := by decide +kernel
theorem d_jI_bitCount_38 : decode b_jI_bitCount 38 = .ok (.iushr, 1) := by decide +kernel
theorem d_jI_bitCount_39 : decode b_jI_bitCount 39 = .ok (.iadd, 1) := by decide +kernel
theorem d_jI_bitCount_40 : decode b_jI_bitCount 40 = .ok (.istore_n 0, 1) := by decide +kernel
theorem d_jI_bitCount_41 : decode b_jI_bitCount 41 = .ok (.iload_n 0, 1) := by decide +kernel
theorem d_jI_bitCount_42 : decode b_jI_bitCount 42 = .ok (.iload_n 0, 1) := by decide +kernel
theorem d_jI_bitCount_43 : decode b_jI_bitCount 43 = .ok (.bipush 16, 2) := by decide +kernel
theorem d_jI_bitCount_45 : decode b_jI_bitCount 45 = .ok (.iushr, 1) := by decide +kernel
theorem d_jI_bitCount_46 : decode b_jI_bitCount 46 = .ok (.iadd, 1) := by decide +kernel
theorem d_jI_bitCount_47 : decode b_jI_bitCount 47 = .ok (.istore_n 0, 1) := by decide +kernel
theorem d_jI_bitCount_48 : decode b_jI_bitCount 48 = .ok (.iload_n 0, 1) := by decide +kernel
theorem d_jI_bitCount_49 : decode b_jI_bitCount 49 = .ok (.bipush 63, 2) := by decide +kernel
theorem d_jI_bitCount_51 : decode b_jI_bitCount 51 = .ok (.iand, 1) := by decide +kernel
theorem d_jI_bitCount_52 : decode b_jI_bitCount 52 = .ok (.ireturn, 1) := by decide +kernel
theorem d_X_isShort_0 : decode b_X_isShort 0 = .ok (.aload_n 0, 1) := by decide +kernel
theorem d_X_isShort_1 : decode b_X_isShort 1 = .ok (.getfield 37, 3) := by decide +kernel
theorem d_X_isShort_4 : decode b_X_isShort 4 = .ok (.iload_n 1, 1) := by decide +kernel
theorem d_X_isShort_5 : decode b_X_isShort 5 = .ok (.iaload, 1) := by decide +kernel
theorem d_X_isShort_6 : decode b_X_isShort 6 = .ok (.invokestatic 240, 3) := by decide +kernel
theorem d_X_isShort_9 : decode b_X_isShort 9 = .ok (.iconst 2, 1) := by decide +kernel
theorem d_X_isShort_10 : decode b_X_isShort 10 = .ok (.if_icmp .lt 7, 3) := by decide +kernel
theorem d_X_isShort_13 : decode b_X_isShort 13 = .ok (.iconst 1, 1) := by decide +kernel
theorem d_X_isShort_14 : decode b_X_isShort 14 = .ok (.goto 4, 3) := by decide +kernel
theorem d_X_isShort_17 : decode b_X_isShort 17 = .ok (.iconst 0, 1) := by decide +kernel
theorem d_X_isShort_18 : decode b_X_isShort 18 = .ok (.ireturn, 1) := by decide +kernel
theorem d_X_shorts_0 : decode b_X_shorts 0 = .ok (.aload_n 0, 1) := by decide +kernel
theorem d_X_shorts_1 : decode b_X_shorts 1 = .ok (.invokevirtual 152, 3) := by decide +kernel
theorem d_X_shorts_4 : decode b_X_shorts 4 = .ok (.iconst 0, 1) := by decide +kernel
theorem d_X_shorts_5 : decode b_X_shorts 5 = .ok (.istore_n 1, 1) := by decide +kernel
theorem d_X_shorts_6 : decode b_X_shorts 6 = .ok (.iconst 0, 1) := by decide +kernel
theorem d_X_shorts_7 : decode b_X_shorts 7 = .ok (.istore_n 2, 1) := by decide +kernel
theorem d_X_shorts_8 : decode b_X_shorts 8 = .ok (.iload_n 2, 1) := by decide +kernel
theorem d_X_shorts_9 : decode b_X_shorts 9 = .ok (.aload_n 0, 1) := by decide +kernel
theorem d_X_shorts_10 : decode b_X_shorts 10 = .ok (.getfield 16, 3) := by decide +kernel
theorem d_X_shorts_13 : decode b_X_shorts 13 = .ok (.getfield 106, 3) := by decide +kernel
theorem d_X_shorts_16 : decode b_X_shorts 16 = .ok (.if_icmp .ge 20, 3) := by decide +kernel
theorem d_X_shorts_19 : decode b_X_shorts 19 = .ok (.aload_n 0, 1) := by decide +kernel
theorem d_X_shorts_20 : decode b_X_shorts 20 = .ok (.iload_n 2, 1) := by decide +kernel
theorem d_X_shorts_21 : decode b_X_shorts 21 = .ok (.invokevirtual 155, 3) := by decide +kernel
theorem d_X_shorts_24 : decode b_X_shorts 24 = .ok (.ifCond .eq 6, 3) := by decide +kernel
theorem d_X_shorts_27 : decode b_X_shorts 27 = .ok (.iinc 1 1, 3) := by decide +kernel
theorem d_X_shorts_30 : decode b_X_shorts 30 = .ok (.iinc 2 1, 3) := by decide +kernel
theorem d_X_shorts_33 : decode b_X_shorts 33 = .ok (.goto (-25), 3) := by decide +kernel
theorem d_X_shorts_36 : decode b_X_shorts 36 = .ok (.iload_n 1, 1) := by decide +kernel
theorem d_X_shorts_37 : decode b_X_shorts 37 = .ok (.ireturn, 1) := by decide +kernel
theorem d_X_unnamed_0 : decode b_X_unnamed 0 = .ok (.aload_n 0, 1) := by decide +kernel
theorem d_X_unnamed_1 : decode b_X_unnamed 1 = .ok (.invokevirtual 152, 3) := by decide +kernel
theorem d_X_unnamed_4 : decode b_X_unnamed 4 = .ok (.iconst 0, 1) := by decide +kernel
theorem d_X_unnamed_5 : decode b_X_unnamed 5 = .ok (.istore_n 2, 1) := by decide +kernel
theorem d_X_unnamed_6 : decode b_X_unnamed 6 = .ok (.iconst 0, 1) := by decide +kernel
theorem d_X_unnamed_7 : decode b_X_unnamed 7 = .ok (.istore_n 3, 1) := by decide +kernel
theorem d_X_unnamed_8 : decode b_X_unnamed 8 = .ok (.iload_n 3, 1) := by decide +kernel
theorem d_X_unnamed_9 : decode b_X_unnamed 9 = .ok (.aload_n 0, 1) := by decide +kernel
theorem d_X_unnamed_10 : decode b_X_unnamed 10 = .ok (.getfield 16, 3) := by decide +kernel
theorem d_X_unnamed_13 : decode b_X_unnamed 13 = .ok (.getfield 106, 3) := by decide +kernel
theorem d_X_unnamed_16 : decode b_X_unnamed 16 = .ok (.if_icmp .ge 46, 3) := by decide +kernel
theorem d_X_unnamed_19 : decode b_X_unnamed 19 = .ok (.aload_n 0, 1) := by decide +kernel
theorem d_X_unnamed_20 : decode b_X_unnamed 20 = .ok (.getfield 23, 3) := by decide +kernel
theorem d_X_unnamed_23 : decode b_X_unnamed 23 = .ok (.iload_n 3, 1) := by decide +kernel
theorem d_X_unnamed_24 : decode b_X_unnamed 24 = .ok (.invokevirtual 115, 3) := by decide +kernel
theorem d_X_unnamed_27 : decode b_X_unnamed 27 = .ok (.ifCond .eq 29, 3) := by decide +kernel
theorem d_X_unnamed_30 : decode b_X_unnamed 30 = .ok (.aload_n 0, 1) := by decide +kernel
theorem d_X_unnamed_31 : decode b_X_unnamed 31 = .ok (.getfield 37, 3) := by decide +kernel
theorem d_X_unnamed_34 : decode b_X_unnamed 34 = .ok (.aload_n 0, 1) := by decide +kernel
theorem d_X_unnamed_35 : decode b_X_unnamed 35 = .ok (.getfield 23, 3) := by decide +kernel
theorem d_X_unnamed_38 : decode b_X_unnamed 38 = .ok (.iload_n 3, 1) := by decide +kernel
theorem d_X_unnamed_39 : decode b_X_unnamed 39 = .ok (.invokevirtual 118, 3) := by decide +kernel
theorem d_X_unnamed_42 : decode b_X_unnamed 42 = .ok (.iaload, 1) := by decide +kernel
theorem d_X_unnamed_43 : decode b_X_unnamed 43 = .ok (.ifCond .ne 13, 3) := by decide +kernel
theorem d_X_unnamed_46 : decode b_X_unnamed 46 = .ok (.iload_n 2, 1) := by decide +kernel
theorem d_X_unnamed_47 : decode b_X_unnamed 47 = .ok (.iload_n 1, 1) := by decide +kernel
theorem d_X_unnamed_48 : decode b_X_unnamed 48 = .ok (.if_icmp .ne 5, 3) := by decide +kernel
theorem d_X_unnamed_51 : decode b_X_unnamed 51 = .ok (.iload_n 3, 1) := by decide +kernel
theorem d_X_unnamed_52 : decode b_X_unnamed 52 = .ok (.ireturn, 1) := by decide +kernel
theorem d_X_unnamed_53 : decode b_X_unnamed 53 = .ok (.iinc 2 1, 3) := by decide +kernel
theorem d_X_unnamed_56 : decode b_X_unnamed 56 = .ok (.iinc 3 1, 3) := by decide +kernel
theorem d_X_unnamed_59 : decode b_X_unnamed 59 = .ok (.goto (-51), 3) := by decide +kernel
theorem d_X_unnamed_62 : decode b_X_unnamed 62 = .ok (.iconst (-1), 1) := by decide +kernel
theorem d_X_unnamed_63 : decode b_X_unnamed 63 = .ok (.ireturn, 1) := by decide +kernel
theorem d_X_same_0 : decode b_X_same 0 = .ok (.aload_n 0, 1) := by decide +kernel
theorem d_X_same_1 : decode b_X_same 1 = .ok (.getfield 34, 3) := by decide +kernel
theorem d_X_same_4 : decode b_X_same 4 = .ok (.invokevirtual 178, 3) := by decide +kernel
theorem d_X_same_7 : decode b_X_same 7 = .ok (.iconst 0, 1) := by decide +kernel
theorem d_X_same_8 : decode b_X_same 8 = .ok (.istore_n 1, 1) := by decide +kernel
theorem d_X_same_9 : decode b_X_same 9 = .ok (.iload_n 1, 1) := by decide +kernel
theorem d_X_same_10 : decode b_X_same 10 = .ok (.aload_n 0, 1) := by decide +kernel
theorem d_X_same_11 : decode b_X_same 11 = .ok (.getfield 16, 3) := by decide +kernel
theorem d_X_same_14 : decode b_X_same 14 = .ok (.getfield 106, 3) := by decide +kernel
theorem d_X_same_17 : decode b_X_same 17 = .ok (.if_icmp .ge 29, 3) := by decide +kernel
theorem d_X_same_20 : decode b_X_same 20 = .ok (.aload_n 0, 1) := by decide +kernel
theorem d_X_same_21 : decode b_X_same 21 = .ok (.getfield 16, 3) := by decide +kernel
theorem d_X_same_24 : decode b_X_same 24 = .ok (.iload_n 1, 1) := by decide +kernel
theorem d_X_same_25 : decode b_X_same 25 = .ok (.invokevirtual 169, 3) := by decide +kernel
theorem d_X_same_28 : decode b_X_same 28 = .ok (.ifCond .eq 12, 3) := by decide +kernel
theorem d_X_same_31 : decode b_X_same 31 = .ok (.aload_n 0, 1) := by decide +kernel
theorem d_X_same_32 : decode b_X_same 32 = .ok (.aload_n 0, 1) := by decide +kernel
theorem d_X_same_33 : decode b_X_same 33 = .ok (.getfield 34, 3) := by decide +kernel
theorem d_X_same_36 : decode b_X_same 36 = .ok (.iload_n 1, 1) := by decide +kernel
theorem d_X_same_37 : decode b_X_same 37 = .ok (.invokevirtual 181, 3) := by decide +kernel
theorem d_X_same_40 : decode b_X_same 40 = .ok (.iinc 1 1, 3) := by decide +kernel
theorem d_X_same_43 : decode b_X_same 43 = .ok (.goto (-34), 3) := by decide +kernel
theorem d_X_same_46 : decode b_X_same 46 = .ok (.aload_n 0, 1) := by decide +kernel
theorem d_X_same_47 : decode b_X_same 47 = .ok (.getfield 34, 3) := by decide +kernel
theorem d_X_same_50 : decode b_X_same 50 = .ok (.aload_n 0, 1) := by decide +kernel
theorem d_X_same_51 : decode b_X_same 51 = .ok (.getfield 23, 3) := by decide +kernel
theorem d_X_same_54 : decode b_X_same 54 = .ok (.invokevirtual 185, 3) := by decide +kernel
theorem d_X_same_57 : decode b_X_same 57 = .ok (.ireturn, 1) := by decide +kernel
theorem d_X_unreached_0 : decode b_X_unreached 0 = .ok (.iconst 0, 1) := by decide +kernel
theorem d_X_unreached_1 : decode b_X_unreached 1 = .ok (.istore_n 2, 1) := by decide +kernel
theorem d_X_unreached_2 : decode b_X_unreached 2 = .ok (.iconst 0, 1) := by decide +kernel
theorem d_X_unreached_3 : decode b_X_unreached 3 = .ok (.istore_n 3, 1) := by decide +kernel
theorem d_X_unreached_4 : decode b_X_unreached 4 = .ok (.iload_n 3, 1) := by decide +kernel
theorem d_X_unreached_5 : decode b_X_unreached 5 = .ok (.bipush 40, 2) := by decide +kernel
theorem d_X_unreached_7 : decode b_X_unreached 7 = .ok (.if_icmp .ge 40, 3) := by decide +kernel
theorem d_X_unreached_10 : decode b_X_unreached 10 = .ok (.aload_n 0, 1) := by decide +kernel
theorem d_X_unreached_11 : decode b_X_unreached 11 = .ok (.getfield 9, 3) := by decide +kernel
theorem d_X_unreached_14 : decode b_X_unreached 14 = .ok (.iload_n 3, 1) := by decide +kernel
theorem d_X_unreached_15 : decode b_X_unreached 15 = .ok (.iaload, 1) := by decide +kernel
theorem d_X_unreached_16 : decode b_X_unreached 16 = .ok (.iconst (-1), 1) := by decide +kernel
theorem d_X_unreached_17 : decode b_X_unreached 17 = .ok (.if_icmp .eq 24, 3) := by decide +kernel
theorem d_X_unreached_20 : decode b_X_unreached 20 = .ok (.aload_n 0, 1) := by decide +kernel
theorem d_X_unreached_21 : decode b_X_unreached 21 = .ok (.getfield 16, 3) := by decide +kernel
theorem d_X_unreached_24 : decode b_X_unreached 24 = .ok (.iload_n 3, 1) := by decide +kernel
theorem d_X_unreached_25 : decode b_X_unreached 25 = .ok (.invokevirtual 189, 3) := by decide +kernel
theorem d_X_unreached_28 : decode b_X_unreached 28 = .ok (.ifCond .ne 13, 3) := by decide +kernel
theorem d_X_unreached_31 : decode b_X_unreached 31 = .ok (.iload_n 2, 1) := by decide +kernel
theorem d_X_unreached_32 : decode b_X_unreached 32 = .ok (.iload_n 1, 1) := by decide +kernel
theorem d_X_unreached_33 : decode b_X_unreached 33 = .ok (.if_icmp .ne 5, 3) := by decide +kernel
theorem d_X_unreached_36 : decode b_X_unreached 36 = .ok (.iload_n 3, 1) := by decide +kernel
theorem d_X_unreached_37 : decode b_X_unreached 37 = .ok (.ireturn, 1) := by decide +kernel
theorem d_X_unreached_38 : decode b_X_unreached 38 = .ok (.iinc 2 1, 3) := by decide +kernel
theorem d_X_unreached_41 : decode b_X_unreached 41 = .ok (.iinc 3 1, 3) := by decide +kernel
theorem d_X_unreached_44 : decode b_X_unreached 44 = .ok (.goto (-40), 3) := by decide +kernel
theorem d_X_unreached_47 : decode b_X_unreached 47 = .ok (.iconst (-1), 1) := by decide +kernel
theorem d_X_unreached_48 : decode b_X_unreached 48 = .ok (.ireturn, 1) := by decide +kernel
theorem d_X_drawAirlines_0 : decode b_X_drawAirlines 0 = .ok (.aload_n 0, 1) := by decide +kernel
theorem d_X_drawAirlines_1 : decode b_X_drawAirlines 1 = .ok (.getfield 30, 3) := by decide +kernel
theorem d_X_drawAirlines_4 : decode b_X_drawAirlines 4 = .ok (.invokevirtual 252, 3) := by decide +kernel
theorem d_X_drawAirlines_7 : decode b_X_drawAirlines 7 = .ok (.iconst 0, 1) := by decide +kernel
theorem d_X_drawAirlines_8 : decode b_X_drawAirlines 8 = .ok (.istore_n 2, 1) := by decide +kernel
theorem d_X_drawAirlines_9 : decode b_X_drawAirlines 9 = .ok (.iload_n 2, 1) := by decide +kernel
theorem d_X_drawAirlines_10 : decode b_X_drawAirlines 10 = .ok (.aload_n 0, 1) := by decide +kernel
theorem d_X_drawAirlines_11 : decode b_X_drawAirlines 11 = .ok (.getfield 16, 3) := by decide +kernel
theorem d_X_drawAirlines_14 : decode b_X_drawAirlines 14 = .ok (.getfield 106, 3) := by decide +kernel
theorem d_X_drawAirlines_17 : decode b_X_drawAirlines 17 = .ok (.if_icmp .ge 37, 3) := by decide +kernel
theorem d_X_drawAirlines_20 : decode b_X_drawAirlines 20 = .ok (.aload_n 0, 1) := by decide +kernel
theorem d_X_drawAirlines_21 : decode b_X_drawAirlines 21 = .ok (.getfield 23, 3) := by decide +kernel
theorem d_X_drawAirlines_24 : decode b_X_drawAirlines 24 = .ok (.iload_n 2, 1) := by decide +kernel
theorem d_X_drawAirlines_25 : decode b_X_drawAirlines 25 = .ok (.invokevirtual 115, 3) := by decide +kernel
theorem d_X_drawAirlines_28 : decode b_X_drawAirlines 28 = .ok (.ifCond .eq 20, 3) := by decide +kernel
theorem d_X_drawAirlines_31 : decode b_X_drawAirlines 31 = .ok (.aload_n 0, 1) := by decide +kernel
theorem d_X_drawAirlines_32 : decode b_X_drawAirlines 32 = .ok (.iload_n 2, 1) := by decide +kernel
theorem d_X_drawAirlines_33 : decode b_X_drawAirlines 33 = .ok (.invokevirtual 234, 3) := by decide +kernel
theorem d_X_drawAirlines_36 : decode b_X_drawAirlines 36 = .ok (.iload_n 1, 1) := by decide +kernel
theorem d_X_drawAirlines_37 : decode b_X_drawAirlines 37 = .ok (.if_icmp .ne 11, 3) := by decide +kernel
theorem d_X_drawAirlines_40 : decode b_X_drawAirlines 40 = .ok (.aload_n 0, 1) := by decide +kernel
theorem d_X_drawAirlines_41 : decode b_X_drawAirlines 41 = .ok (.getfield 30, 3) := by decide +kernel
theorem d_X_drawAirlines_44 : decode b_X_drawAirlines 44 = .ok (.iload_n 2, 1) := by decide +kernel
theorem d_X_drawAirlines_45 : decode b_X_drawAirlines 45 = .ok (.invokevirtual 253, 3) := by decide +kernel
theorem d_X_drawAirlines_48 : decode b_X_drawAirlines 48 = .ok (.iinc 2 1, 3) := by decide +kernel
theorem d_X_drawAirlines_51 : decode b_X_drawAirlines 51 = .ok (.goto (-42), 3) := by decide +kernel
theorem d_X_drawAirlines_54 : decode b_X_drawAirlines 54 = .ok (.aload_n 0, 1) := by decide +kernel
theorem d_X_drawAirlines_55 : decode b_X_drawAirlines 55 = .ok (.getfield 30, 3) := by decide +kernel
theorem d_X_drawAirlines_58 : decode b_X_drawAirlines 58 = .ok (.aload_n 0, 1) := by decide +kernel
theorem d_X_drawAirlines_59 : decode b_X_drawAirlines 59 = .ok (.getfield 16, 3) := by decide +kernel
theorem d_X_drawAirlines_62 : decode b_X_drawAirlines 62 = .ok (.aload_n 0, 1) := by decide +kernel
theorem d_X_drawAirlines_63 : decode b_X_drawAirlines 63 = .ok (.getfield 23, 3) := by decide +kernel
theorem d_X_drawAirlines_66 : decode b_X_drawAirlines 66 = .ok (.invokevirtual 256, 3) := by decide +kernel
theorem d_X_drawAirlines_69 : decode b_X_drawAirlines 69 = .ok (.return_, 1) := by decide +kernel
theorem d_X_exact_0 : decode b_X_exact 0 = .ok (.aload_n 0, 1) := by decide +kernel
theorem d_X_exact_1 : decode b_X_exact 1 = .ok (.invokevirtual 192, 3) := by decide +kernel
theorem d_X_exact_4 : decode b_X_exact 4 = .ok (.ifCond .ne 12, 3) := by decide +kernel
theorem d_X_exact_7 : decode b_X_exact 7 = .ok (.aload_n 0, 1) := by decide +kernel
theorem d_X_exact_8 : decode b_X_exact 8 = .ok (.iconst 0, 1) := by decide +kernel
theorem d_X_exact_9 : decode b_X_exact 9 = .ok (.invokevirtual 196, 3) := by decide +kernel
theorem d_X_exact_12 : decode b_X_exact 12 = .ok (.iconst (-1), 1) := by decide +kernel
theorem d_X_exact_13 : decode b_X_exact 13 = .ok (.if_icmp .eq 5, 3) := by decide +kernel
theorem d_X_exact_16 : decode b_X_exact 16 = .ok (.iconst 0, 1) := by decide +kernel
theorem d_X_exact_17 : decode b_X_exact 17 = .ok (.ireturn, 1) := by decide +kernel
theorem d_X_exact_18 : decode b_X_exact 18 = .ok (.iconst 0, 1) := by decide +kernel
theorem d_X_exact_19 : decode b_X_exact 19 = .ok (.istore_n 1, 1) := by decide +kernel
theorem d_X_exact_20 : decode b_X_exact 20 = .ok (.iload_n 1, 1) := by decide +kernel
theorem d_X_exact_21 : decode b_X_exact 21 = .ok (.bipush 20, 2) := by decide +kernel
theorem d_X_exact_23 : decode b_X_exact 23 = .ok (.if_icmp .ge 26, 3) := by decide +kernel
theorem d_X_exact_26 : decode b_X_exact 26 = .ok (.aload_n 0, 1) := by decide +kernel
theorem d_X_exact_27 : decode b_X_exact 27 = .ok (.iload_n 1, 1) := by decide +kernel
theorem d_X_exact_28 : decode b_X_exact 28 = .ok (.invokevirtual 124, 3) := by decide +kernel
theorem d_X_exact_31 : decode b_X_exact 31 = .ok (.aload_n 0, 1) := by decide +kernel
theorem d_X_exact_32 : decode b_X_exact 32 = .ok (.getfield 30, 3) := by decide +kernel
theorem d_X_exact_35 : decode b_X_exact 35 = .ok (.getfield 127, 3) := by decide +kernel
theorem d_X_exact_38 : decode b_X_exact 38 = .ok (.ifCond .eq 5, 3) := by decide +kernel
theorem d_X_exact_41 : decode b_X_exact 41 = .ok (.iconst 0, 1) := by decide +kernel
theorem d_X_exact_42 : decode b_X_exact 42 = .ok (.ireturn, 1) := by decide +kernel
theorem d_X_exact_43 : decode b_X_exact 43 = .ok (.iinc 1 1, 3) := by decide +kernel
theorem d_X_exact_46 : decode b_X_exact 46 = .ok (.goto (-26), 3) := by decide +kernel
theorem d_X_exact_49 : decode b_X_exact 49 = .ok (.iconst 1, 1) := by decide +kernel
theorem d_X_exact_50 : decode b_X_exact 50 = .ok (.ireturn, 1) := by decide +kernel
theorem d_X_partWithout_0 : decode b_X_partWithout 0 = .ok (.aload_n 0, 1) := by decide +kernel
theorem d_X_partWithout_1 : decode b_X_partWithout 1 = .ok (.getfield 23, 3) := by decide +kernel
theorem d_X_partWithout_4 : decode b_X_partWithout 4 = .ok (.iload_n 1, 1) := by decide +kernel
theorem d_X_partWithout_5 : decode b_X_partWithout 5 = .ok (.invokevirtual 118, 3) := by decide +kernel
theorem d_X_partWithout_8 : decode b_X_partWithout 8 = .ok (.istore_n 2, 1) := by decide +kernel
theorem d_X_partWithout_9 : decode b_X_partWithout 9 = .ok (.aload_n 0, 1) := by decide +kernel
theorem d_X_partWithout_10 : decode b_X_partWithout 10 = .ok (.getfield 23, 3) := by decide +kernel
theorem d_X_partWithout_13 : decode b_X_partWithout 13 = .ok (.iload_n 1, 1) := by decide +kernel
theorem d_X_partWithout_14 : decode b_X_partWithout 14 = .ok (.invokevirtual 225, 3) := by decide +kernel
theorem d_X_partWithout_17 : decode b_X_partWithout 17 = .ok (.aload_n 0, 1) := by decide +kernel
theorem d_X_partWithout_18 : decode b_X_partWithout 18 = .ok (.getfield 34, 3) := by decide +kernel
theorem d_X_partWithout_21 : decode b_X_partWithout 21 = .ok (.invokevirtual 178, 3) := by decide +kernel
theorem d_X_partWithout_24 : decode b_X_partWithout 24 = .ok (.iconst 0, 1) := by decide +kernel
theorem d_X_partWithout_25 : decode b_X_partWithout 25 = .ok (.istore_n 3, 1) := by decide +kernel
theorem d_X_partWithout_26 : decode b_X_partWithout 26 = .ok (.iload_n 3, 1) := by decide +kernel
theorem d_X_partWithout_27 : decode b_X_partWithout 27 = .ok (.aload_n 0, 1) := by decide +kernel
theorem d_X_partWithout_28 : decode b_X_partWithout 28 = .ok (.getfield 16, 3) := by decide +kernel
theorem d_X_partWithout_31 : decode b_X_partWithout 31 = .ok (.getfield 106, 3) := by decide +kernel
theorem d_X_partWithout_34 : decode b_X_partWithout 34 = .ok (.if_icmp .ge 30, 3) := by decide +kernel
theorem d_X_partWithout_37 : decode b_X_partWithout 37 = .ok (.aload_n 0, 1) := by decide +kernel
theorem d_X_partWithout_38 : decode b_X_partWithout 38 = .ok (.getfield 23, 3) := by decide +kernel
theorem d_X_partWithout_41 : decode b_X_partWithout 41 = .ok (.iload_n 3, 1) := by decide +kernel
theorem d_X_partWithout_42 : decode b_X_partWithout 42 = .ok (.invokevirtual 118, 3) := by decide +kernel
theorem d_X_partWithout_45 : decode b_X_partWithout 45 = .ok (.iload_n 2, 1) := by decide +kernel
theorem d_X_partWithout_46 : decode b_X_partWithout 46 = .ok (.if_icmp .ne 12, 3) := by decide +kernel
theorem d_X_partWithout_49 : decode b_X_partWithout 49 = .ok (.aload_n 0, 1) := by decide +kernel
theorem d_X_partWithout_50 : decode b_X_partWithout 50 = .ok (.aload_n 0, 1) := by decide +kernel
theorem d_X_partWithout_51 : decode b_X_partWithout 51 = .ok (.getfield 34, 3) := by decide +kernel
theorem d_X_partWithout_54 : decode b_X_partWithout 54 = .ok (.iload_n 3, 1) := by decide +kernel
theorem d_X_partWithout_55 : decode b_X_partWithout 55 = .ok (.invokevirtual 181, 3) := by decide +kernel
theorem d_X_partWithout_58 : decode b_X_partWithout 58 = .ok (.iinc 3 1, 3) := by decide +kernel
theorem d_X_partWithout_61 : decode b_X_partWithout 61 = .ok (.goto (-35), 3) := by decide +kernel
theorem d_X_partWithout_64 : decode b_X_partWithout 64 = .ok (.iconst 0, 1) := by decide +kernel
theorem d_X_partWithout_65 : decode b_X_partWithout 65 = .ok (.istore_n 3, 1) := by decide +kernel
theorem d_X_partWithout_66 : decode b_X_partWithout 66 = .ok (.iload_n 3, 1) := by decide +kernel
theorem d_X_partWithout_67 : decode b_X_partWithout 67 = .ok (.aload_n 0, 1) := by decide +kernel
theorem d_X_partWithout_68 : decode b_X_partWithout 68 = .ok (.getfield 16, 3) := by decide +kernel
theorem d_X_partWithout_71 : decode b_X_partWithout 71 = .ok (.getfield 106, 3) := by decide +kernel
theorem d_X_partWithout_74 : decode b_X_partWithout 74 = .ok (.if_icmp .ge 36, 3) := by decide +kernel
theorem d_X_partWithout_77 : decode b_X_partWithout 77 = .ok (.aload_n 0, 1) := by decide +kernel
theorem d_X_partWithout_78 : decode b_X_partWithout 78 = .ok (.getfield 34, 3) := by decide +kernel
theorem d_X_partWithout_81 : decode b_X_partWithout 81 = .ok (.iload_n 3, 1) := by decide +kernel
theorem d_X_partWithout_82 : decode b_X_partWithout 82 = .ok (.invokevirtual 115, 3) := by decide +kernel
theorem d_X_partWithout_85 : decode b_X_partWithout 85 = .ok (.ifCond .eq 19, 3) := by decide +kernel
theorem d_X_partWithout_88 : decode b_X_partWithout 88 = .ok (.aload_n 0, 1) := by decide +kernel
theorem d_X_partWithout_89 : decode b_X_partWithout 89 = .ok (.getfield 23, 3) := by decide +kernel
theorem d_X_partWithout_92 : decode b_X_partWithout 92 = .ok (.iload_n 3, 1) := by decide +kernel
theorem d_X_partWithout_93 : decode b_X_partWithout 93 = .ok (.aload_n 0, 1) := by decide +kernel
theorem d_X_partWithout_94 : decode b_X_partWithout 94 = .ok (.getfield 34, 3) := by decide +kernel
theorem d_X_partWithout_97 : decode b_X_partWithout 97 = .ok (.iload_n 3, 1) := by decide +kernel
theorem d_X_partWithout_98 : decode b_X_partWithout 98 = .ok (.invokevirtual 118, 3) := by decide +kernel
theorem d_X_partWithout_101 : decode b_X_partWithout 101 = .ok (.invokevirtual 228, 3) := by decide +kernel
theorem d_X_partWithout_104 : decode b_X_partWithout 104 = .ok (.iinc 3 1, 3) := by decide +kernel
theorem d_X_partWithout_107 : decode b_X_partWithout 107 = .ok (.goto (-41), 3) := by decide +kernel
theorem d_X_partWithout_110 : decode b_X_partWithout 110 = .ok (.return_, 1) := by decide +kernel
theorem d_X_takeIn_0 : decode b_X_takeIn 0 = .ok (.aload_n 0, 1) := by decide +kernel
theorem d_X_takeIn_1 : decode b_X_takeIn 1 = .ok (.aload_n 0, 1) := by decide +kernel
theorem d_X_takeIn_2 : decode b_X_takeIn 2 = .ok (.getfield 23, 3) := by decide +kernel
theorem d_X_takeIn_5 : decode b_X_takeIn 5 = .ok (.iload_n 1, 1) := by decide +kernel
theorem d_X_takeIn_6 : decode b_X_takeIn 6 = .ok (.invokevirtual 181, 3) := by decide +kernel
theorem d_X_takeIn_9 : decode b_X_takeIn 9 = .ok (.iload_n 1, 1) := by decide +kernel
theorem d_X_takeIn_10 : decode b_X_takeIn 10 = .ok (.ireturn, 1) := by decide +kernel
theorem d_X_lowestNet_0 : decode b_X_lowestNet 0 = .ok (.iconst 0, 1) := by decide +kernel
theorem d_X_lowestNet_1 : decode b_X_lowestNet 1 = .ok (.istore_n 1, 1) := by decide +kernel
theorem d_X_lowestNet_2 : decode b_X_lowestNet 2 = .ok (.iload_n 1, 1) := by decide +kernel
theorem d_X_lowestNet_3 : decode b_X_lowestNet 3 = .ok (.bipush 20, 2) := by decide +kernel
theorem d_X_lowestNet_5 : decode b_X_lowestNet 5 = .ok (.if_icmp .ge 19, 3) := by decide +kernel
theorem d_X_lowestNet_8 : decode b_X_lowestNet 8 = .ok (.iload_n 0, 1) := by decide +kernel
theorem d_X_lowestNet_9 : decode b_X_lowestNet 9 = .ok (.iconst 1, 1) := by decide +kernel
theorem d_X_lowestNet_10 : decode b_X_lowestNet 10 = .ok (.iload_n 1, 1) := by decide +kernel
theorem d_X_lowestNet_11 : decode b_X_lowestNet 11 = .ok (.ishl, 1) := by decide +kernel
theorem d_X_lowestNet_12 : decode b_X_lowestNet 12 = .ok (.iand, 1) := by decide +kernel
theorem d_X_lowestNet_13 : decode b_X_lowestNet 13 = .ok (.ifCond .eq 5, 3) := by decide +kernel
theorem d_X_lowestNet_16 : decode b_X_lowestNet 16 = .ok (.iload_n 1, 1) := by decide +kernel
theorem d_X_lowestNet_17 : decode b_X_lowestNet 17 = .ok (.ireturn, 1) := by decide +kernel
theorem d_X_lowestNet_18 : decode b_X_lowestNet 18 = .ok (.iinc 1 1, 3) := by decide +kernel
theorem d_X_lowestNet_21 : decode b_X_lowestNet 21 = .ok (.goto (-19), 3) := by decide +kernel
theorem d_X_lowestNet_24 : decode b_X_lowestNet 24 = .ok (.iconst (-1), 1) := by decide +kernel
theorem d_X_lowestNet_25 : decode b_X_lowestNet 25 = .ok (.ireturn, 1) := by decide +kernel
theorem d_X_leaderOfShort_0 : decode b_X_leaderOfShort 0 = .ok (.iconst 0, 1) := by decide +kernel
theorem d_X_leaderOfShort_1 : decode b_X_leaderOfShort 1 = .ok (.istore_n 2, 1) := by decide +kernel
theorem d_X_leaderOfShort_2 : decode b_X_leaderOfShort 2 = .ok (.iconst 0, 1) := by decide +kernel
theorem d_X_leaderOfShort_3 : decode b_X_leaderOfShort 3 = .ok (.istore_n 3, 1) := by decide +kernel
theorem d_X_leaderOfShort_4 : decode b_X_leaderOfShort 4 = .ok (.iload_n 3, 1) := by decide +kernel
theorem d_X_leaderOfShort_5 : decode b_X_leaderOfShort 5 = .ok (.aload_n 0, 1) := by decide +kernel
theorem d_X_leaderOfShort_6 : decode b_X_leaderOfShort 6 = .ok (.getfield 16, 3) := by decide +kernel
theorem d_X_leaderOfShort_9 : decode b_X_leaderOfShort 9 = .ok (.getfield 106, 3) := by decide +kernel
theorem d_X_leaderOfShort_12 : decode b_X_leaderOfShort 12 = .ok (.if_icmp .ge 27, 3) := by decide +kernel
theorem d_X_leaderOfShort_15 : decode b_X_leaderOfShort 15 = .ok (.aload_n 0, 1) := by decide +kernel
theorem d_X_leaderOfShort_16 : decode b_X_leaderOfShort 16 = .ok (.iload_n 3, 1) := by decide +kernel
theorem d_X_leaderOfShort_17 : decode b_X_leaderOfShort 17 = .ok (.invokevirtual 155, 3) := by decide +kernel
theorem d_X_leaderOfShort_20 : decode b_X_leaderOfShort 20 = .ok (.ifCond .eq 13, 3) := by decide +kernel
theorem d_X_leaderOfShort_23 : decode b_X_leaderOfShort 23 = .ok (.iload_n 2, 1) := by decide +kernel
theorem d_X_leaderOfShort_24 : decode b_X_leaderOfShort 24 = .ok (.iload_n 1, 1) := by decide +kernel
theorem d_X_leaderOfShort_25 : decode b_X_leaderOfShort 25 = .ok (.if_icmp .ne 5, 3) := by decide +kernel
theorem d_X_leaderOfShort_28 : decode b_X_leaderOfShort 28 = .ok (.iload_n 3, 1) := by decide +kernel
theorem d_X_leaderOfShort_29 : decode b_X_leaderOfShort 29 = .ok (.ireturn, 1) := by decide +kernel
theorem d_X_leaderOfShort_30 : decode b_X_leaderOfShort 30 = .ok (.iinc 2 1, 3) := by decide +kernel
theorem d_X_leaderOfShort_33 : decode b_X_leaderOfShort 33 = .ok (.iinc 3 1, 3) := by decide +kernel
theorem d_X_leaderOfShort_36 : decode b_X_leaderOfShort 36 = .ok (.goto (-32), 3) := by decide +kernel
theorem d_X_leaderOfShort_39 : decode b_X_leaderOfShort 39 = .ok (.iconst (-1), 1) := by decide +kernel
theorem d_X_leaderOfShort_40 : decode b_X_leaderOfShort 40 = .ok (.ireturn, 1) := by decide +kernel
theorem d_X_belowThatShorts_0 : decode b_X_belowThatShorts 0 = .ok (.iconst 0, 1) := by decide +kernel
theorem d_X_belowThatShorts_1 : decode b_X_belowThatShorts 1 = .ok (.istore_n 2, 1) := by decide +kernel
theorem d_X_belowThatShorts_2 : decode b_X_belowThatShorts 2 = .ok (.iload_n 2, 1) := by decide +kernel
theorem d_X_belowThatShorts_3 : decode b_X_belowThatShorts 3 = .ok (.iload_n 1, 1) := by decide +kernel
theorem d_X_belowThatShorts_4 : decode b_X_belowThatShorts 4 = .ok (.if_icmp .ge 93, 3) := by decide +kernel
theorem d_X_belowThatShorts_7 : decode b_X_belowThatShorts 7 = .ok (.aload_n 0, 1) := by decide +kernel
theorem d_X_belowThatShorts_8 : decode b_X_belowThatShorts 8 = .ok (.getfield 34, 3) := by decide +kernel
theorem d_X_belowThatShorts_11 : decode b_X_belowThatShorts 11 = .ok (.iload_n 2, 1) := by decide +kernel
theorem d_X_belowThatShorts_12 : decode b_X_belowThatShorts 12 = .ok (.invokevirtual 115, 3) := by decide +kernel
theorem d_X_belowThatShorts_15 : decode b_X_belowThatShorts 15 = .ok (.ifCond .eq 76, 3) := by decide +kernel
theorem d_X_belowThatShorts_18 : decode b_X_belowThatShorts 18 = .ok (.aload_n 0, 1) := by decide +kernel
theorem d_X_belowThatShorts_19 : decode b_X_belowThatShorts 19 = .ok (.getfield 16, 3) := by decide +kernel
theorem d_X_belowThatShorts_22 : decode b_X_belowThatShorts 22 = .ok (.iload_n 2, 1) := by decide +kernel
theorem d_X_belowThatShorts_23 : decode b_X_belowThatShorts 23 = .ok (.iload_n 1, 1) := by decide +kernel
theorem d_X_belowThatShorts_24 : decode b_X_belowThatShorts 24 = .ok (.invokevirtual 218, 3) := by decide +kernel
theorem d_X_belowThatShorts_27 : decode b_X_belowThatShorts 27 = .ok (.ifCond .eq 64, 3) := by decide +kernel
theorem d_X_belowThatShorts_30 : decode b_X_belowThatShorts 30 = .ok (.aload_n 0, 1) := by decide +kernel
theorem d_X_belowThatShorts_31 : decode b_X_belowThatShorts 31 = .ok (.getfield 40, 3) := by decide +kernel
theorem d_X_belowThatShorts_34 : decode b_X_belowThatShorts 34 = .ok (.aload_n 0, 1) := by decide +kernel
theorem d_X_belowThatShorts_35 : decode b_X_belowThatShorts 35 = .ok (.getfield 34, 3) := by decide +kernel
theorem d_X_belowThatShorts_38 : decode b_X_belowThatShorts 38 = .ok (.iload_n 2, 1) := by decide +kernel
theorem d_X_belowThatShorts_39 : decode b_X_belowThatShorts 39 = .ok (.invokevirtual 118, 3) := by decide +kernel
theorem d_X_belowThatShorts_42 : decode b_X_belowThatShorts 42 = .ok (.iaload, 1) := by decide +kernel
theorem d_X_belowThatShorts_43 : decode b_X_belowThatShorts 43 = .ok (.aload_n 0, 1) := by decide +kernel
theorem d_X_belowThatShorts_44 : decode b_X_belowThatShorts 44 = .ok (.getfield 40, 3) := by decide +kernel
theorem d_X_belowThatShorts_47 : decode b_X_belowThatShorts 47 = .ok (.aload_n 0, 1) := by decide +kernel
theorem d_X_belowThatShorts_48 : decode b_X_belowThatShorts 48 = .ok (.getfield 34, 3) := by decide +kernel
theorem d_X_belowThatShorts_51 : decode b_X_belowThatShorts 51 = .ok (.iload_n 1, 1) := by decide +kernel
theorem d_X_belowThatShorts_52 : decode b_X_belowThatShorts 52 = .ok (.invokevirtual 118, 3) := by decide +kernel
theorem d_X_belowThatShorts_55 : decode b_X_belowThatShorts 55 = .ok (.iaload, 1) := by decide +kernel
theorem d_X_belowThatShorts_56 : decode b_X_belowThatShorts 56 = .ok (.ior, 1) := by decide +kernel
theorem d_X_belowThatShorts_57 : decode b_X_belowThatShorts 57 = .ok (.istore_n 3, 1) := by decide +kernel
theorem d_X_belowThatShorts_58 : decode b_X_belowThatShorts 58 = .ok (.iload_n 3, 1) := by decide +kernel
theorem d_X_belowThatShorts_59 : decode b_X_belowThatShorts 59 = .ok (.invokestatic 240, 3) := by decide +kernel
theorem d_X_belowThatShorts_62 : decode b_X_belowThatShorts 62 = .ok (.iconst 2, 1) := by decide +kernel
theorem d_X_belowThatShorts_63 : decode b_X_belowThatShorts 63 = .ok (.if_icmp .lt 5, 3) := by decide +kernel
theorem d_X_belowThatShorts_66 : decode b_X_belowThatShorts 66 = .ok (.iload_n 2, 1) := by decide +kernel
theorem d_X_belowThatShorts_67 : decode b_X_belowThatShorts 67 = .ok (.ireturn, 1) := by decide +kernel
theorem d_X_belowThatShorts_68 : decode b_X_belowThatShorts 68 = .ok (.aload_n 0, 1) := by decide +kernel
theorem d_X_belowThatShorts_69 : decode b_X_belowThatShorts 69 = .ok (.getfield 34, 3) := by decide +kernel
theorem d_X_belowThatShorts_72 : decode b_X_belowThatShorts 72 = .ok (.iload_n 2, 1) := by decide +kernel
theorem d_X_belowThatShorts_73 : decode b_X_belowThatShorts 73 = .ok (.iload_n 1, 1) := by decide +kernel
theorem d_X_belowThatShorts_74 : decode b_X_belowThatShorts 74 = .ok (.invokevirtual 222, 3) := by decide +kernel
theorem d_X_belowThatShorts_77 : decode b_X_belowThatShorts 77 = .ok (.aload_n 0, 1) := by decide +kernel
theorem d_X_belowThatShorts_78 : decode b_X_belowThatShorts 78 = .ok (.getfield 40, 3) := by decide +kernel
theorem d_X_belowThatShorts_81 : decode b_X_belowThatShorts 81 = .ok (.aload_n 0, 1) := by decide +kernel
theorem d_X_belowThatShorts_82 : decode b_X_belowThatShorts 82 = .ok (.getfield 34, 3) := by decide +kernel
theorem d_X_belowThatShorts_85 : decode b_X_belowThatShorts 85 = .ok (.iload_n 1, 1) := by decide +kernel
theorem d_X_belowThatShorts_86 : decode b_X_belowThatShorts 86 = .ok (.invokevirtual 118, 3) := by decide +kernel
theorem d_X_belowThatShorts_89 : decode b_X_belowThatShorts 89 = .ok (.iload_n 3, 1) := by decide +kernel
theorem d_X_belowThatShorts_90 : decode b_X_belowThatShorts 90 = .ok (.iastore, 1) := by decide +kernel
theorem d_X_belowThatShorts_91 : decode b_X_belowThatShorts 91 = .ok (.iinc 2 1, 3) := by decide +kernel
theorem d_X_belowThatShorts_94 : decode b_X_belowThatShorts 94 = .ok (.goto (-92), 3) := by decide +kernel
theorem d_X_belowThatShorts_97 : decode b_X_belowThatShorts 97 = .ok (.iconst (-1), 1) := by decide +kernel
theorem d_X_belowThatShorts_98 : decode b_X_belowThatShorts 98 = .ok (.ireturn, 1) := by decide +kernel
theorem d_X_joinThatShorted_0 : decode b_X_joinThatShorted 0 = .ok (.aload_n 0, 1) := by decide +kernel
theorem d_X_joinThatShorted_1 : decode b_X_joinThatShorted 1 = .ok (.getfield 34, 3) := by decide +kernel
theorem d_X_joinThatShorted_4 : decode b_X_joinThatShorted 4 = .ok (.invokevirtual 178, 3) := by decide +kernel
theorem d_X_joinThatShorted_7 : decode b_X_joinThatShorted 7 = .ok (.iconst 0, 1) := by decide +kernel
theorem d_X_joinThatShorted_8 : decode b_X_joinThatShorted 8 = .ok (.istore_n 2, 1) := by decide +kernel
theorem d_X_joinThatShorted_9 : decode b_X_joinThatShorted 9 = .ok (.iload_n 2, 1) := by decide +kernel
theorem d_X_joinThatShorted_10 : decode b_X_joinThatShorted 10 = .ok (.aload_n 0, 1) := by decide +kernel
theorem d_X_joinThatShorted_11 : decode b_X_joinThatShorted 11 = .ok (.getfield 16, 3) := by decide +kernel
theorem d_X_joinThatShorted_14 : decode b_X_joinThatShorted 14 = .ok (.getfield 106, 3) := by decide +kernel
theorem d_X_joinThatShorted_17 : decode b_X_joinThatShorted 17 = .ok (.if_icmp .ge 58, 3) := by decide +kernel
theorem d_X_joinThatShorted_20 : decode b_X_joinThatShorted 20 = .ok (.aload_n 0, 1) := by decide +kernel
theorem d_X_joinThatShorted_21 : decode b_X_joinThatShorted 21 = .ok (.getfield 23, 3) := by decide +kernel
theorem d_X_joinThatShorted_24 : decode b_X_joinThatShorted 24 = .ok (.iload_n 2, 1) := by decide +kernel
theorem d_X_joinThatShorted_25 : decode b_X_joinThatShorted 25 = .ok (.invokevirtual 118, 3) := by decide +kernel
theorem d_X_joinThatShorted_28 : decode b_X_joinThatShorted 28 = .ok (.iload_n 1, 1) := by decide +kernel
theorem d_X_joinThatShorted_29 : decode b_X_joinThatShorted 29 = .ok (.if_icmp .ne 40, 3) := by decide +kernel
theorem d_X_joinThatShorted_32 : decode b_X_joinThatShorted 32 = .ok (.aload_n 0, 1) := by decide +kernel
theorem d_X_joinThatShorted_33 : decode b_X_joinThatShorted 33 = .ok (.getfield 34, 3) := by decide +kernel
theorem d_X_joinThatShorted_36 : decode b_X_joinThatShorted 36 = .ok (.iload_n 2, 1) := by decide +kernel
theorem d_X_joinThatShorted_37 : decode b_X_joinThatShorted 37 = .ok (.invokevirtual 215, 3) := by decide +kernel
theorem d_X_joinThatShorted_40 : decode b_X_joinThatShorted 40 = .ok (.aload_n 0, 1) := by decide +kernel
theorem d_X_joinThatShorted_41 : decode b_X_joinThatShorted 41 = .ok (.getfield 40, 3) := by decide +kernel
theorem d_X_joinThatShorted_44 : decode b_X_joinThatShorted 44 = .ok (.iload_n 2, 1) := by decide +kernel
theorem d_X_joinThatShorted_45 : decode b_X_joinThatShorted 45 = .ok (.aload_n 0, 1) := by decide +kernel
theorem d_X_joinThatShorted_46 : decode b_X_joinThatShorted 46 = .ok (.iload_n 2, 1) := by decide +kernel
theorem d_X_joinThatShorted_47 : decode b_X_joinThatShorted 47 = .ok (.invokevirtual 237, 3) := by decide +kernel
theorem d_X_joinThatShorted_50 : decode b_X_joinThatShorted 50 = .ok (.iastore, 1) := by decide +kernel
theorem d_X_joinThatShorted_51 : decode b_X_joinThatShorted 51 = .ok (.aload_n 0, 1) := by decide +kernel
theorem d_X_joinThatShorted_52 : decode b_X_joinThatShorted 52 = .ok (.iload_n 2, 1) := by decide +kernel
theorem d_X_joinThatShorted_53 : decode b_X_joinThatShorted 53 = .ok (.invokevirtual 245, 3) := by decide +kernel
theorem d_X_joinThatShorted_56 : decode b_X_joinThatShorted 56 = .ok (.istore_n 3, 1) := by decide +kernel
theorem d_X_joinThatShorted_57 : decode b_X_joinThatShorted 57 = .ok (.iload_n 3, 1) := by decide +kernel
theorem d_X_joinThatShorted_58 : decode b_X_joinThatShorted 58 = .ok (.iconst (-1), 1) := by decide +kernel
theorem d_X_joinThatShorted_59 : decode b_X_joinThatShorted 59 = .ok (.if_icmp .eq 10, 3) := by decide +kernel
theorem d_X_joinThatShorted_62 : decode b_X_joinThatShorted 62 = .ok (.lconst 0, 1) := by decide +kernel
theorem d_X_joinThatShorted_63 : decode b_X_joinThatShorted 63 = .ok (.iload_n 3, 1) := by decide +kernel
theorem d_X_joinThatShorted_64 : decode b_X_joinThatShorted 64 = .ok (.iload_n 2, 1) := by decide +kernel
theorem d_X_joinThatShorted_65 : decode b_X_joinThatShorted 65 = .ok (.invokestatic 248, 3) := by decide +kernel
theorem d_X_joinThatShorted_68 : decode b_X_joinThatShorted 68 = .ok (.lreturn, 1) := by decide +kernel
theorem d_X_joinThatShorted_69 : decode b_X_joinThatShorted 69 = .ok (.iinc 2 1, 3) := by decide +kernel
theorem d_X_joinThatShorted_72 : decode b_X_joinThatShorted 72 = .ok (.goto (-63), 3) := by decide +kernel
theorem d_X_joinThatShorted_75 : decode b_X_joinThatShorted 75 = .ok (.lconst 0, 1) := by decide +kernel
theorem d_X_joinThatShorted_76 : decode b_X_joinThatShorted 76 = .ok (.iload_n 1, 1) := by decide +kernel
theorem d_X_joinThatShorted_77 : decode b_X_joinThatShorted 77 = .ok (.iload_n 1, 1) := by decide +kernel
theorem d_X_joinThatShorted_78 : decode b_X_joinThatShorted 78 = .ok (.invokestatic 248, 3) := by decide +kernel
theorem d_X_joinThatShorted_81 : decode b_X_joinThatShorted 81 = .ok (.lreturn, 1) := by decide +kernel
theorem d_X_checkLayer_0 : decode b_X_checkLayer 0 = .ok (.iload_n 1, 1) := by decide +kernel
theorem d_X_checkLayer_1 : decode b_X_checkLayer 1 = .ok (.ifCond .lt 11, 3) := by decide +kernel
theorem d_X_checkLayer_4 : decode b_X_checkLayer 4 = .ok (.iload_n 1, 1) := by decide +kernel
theorem d_X_checkLayer_5 : decode b_X_checkLayer 5 = .ok (.aload_n 0, 1) := by decide +kernel
theorem d_X_checkLayer_6 : decode b_X_checkLayer 6 = .ok (.getfield 52, 3) := by decide +kernel
theorem d_X_checkLayer_9 : decode b_X_checkLayer 9 = .ok (.if_icmp .lt 13, 3) := by decide +kernel
theorem d_X_checkLayer_12 : decode b_X_checkLayer 12 = .ok (.new 133, 3) := by decide +kernel
theorem d_X_checkLayer_15 : decode b_X_checkLayer 15 = .ok (.dup, 1) := by decide +kernel
theorem d_X_checkLayer_16 : decode b_X_checkLayer 16 = .ok (.ldc 199, 2) := by decide +kernel
theorem d_X_checkLayer_18 : decode b_X_checkLayer 18 = .ok (.invokespecial 137, 3) := by decide +kernel
theorem d_X_checkLayer_21 : decode b_X_checkLayer 21 = .ok (.athrow, 1) := by decide +kernel
theorem d_X_checkLayer_22 : decode b_X_checkLayer 22 = .ok (.return_, 1) := by decide +kernel
theorem d_X_checkPlace_0 : decode b_X_checkPlace 0 = .ok (.lload_n 0, 1) := by decide +kernel
theorem d_X_checkPlace_1 : decode b_X_checkPlace 1 = .ok (.ldc2_w 207, 3) := by decide +kernel
theorem d_X_checkPlace_4 : decode b_X_checkPlace 4 = .ok (.lcmp, 1) := by decide +kernel
theorem d_X_checkPlace_5 : decode b_X_checkPlace 5 = .ok (.ifCond .lt 27, 3) := by decide +kernel
theorem d_X_checkPlace_8 : decode b_X_checkPlace 8 = .ok (.lload_n 0, 1) := by decide +kernel
theorem d_X_checkPlace_9 : decode b_X_checkPlace 9 = .ok (.ldc2_w 209, 3) := by decide +kernel
theorem d_X_checkPlace_12 : decode b_X_checkPlace 12 = .ok (.lcmp, 1) := by decide +kernel
theorem d_X_checkPlace_13 : decode b_X_checkPlace 13 = .ok (.ifCond .gt 19, 3) := by decide +kernel
theorem d_X_checkPlace_16 : decode b_X_checkPlace 16 = .ok (.lload_n 2, 1) := by decide +kernel
theorem d_X_checkPlace_17 : decode b_X_checkPlace 17 = .ok (.ldc2_w 207, 3) := by decide +kernel
theorem d_X_checkPlace_20 : decode b_X_checkPlace 20 = .ok (.lcmp, 1) := by decide +kernel
theorem d_X_checkPlace_21 : decode b_X_checkPlace 21 = .ok (.ifCond .lt 11, 3) := by decide +kernel
theorem d_X_checkPlace_24 : decode b_X_checkPlace 24 = .ok (.lload_n 2, 1) := by decide +kernel
theorem d_X_checkPlace_25 : decode b_X_checkPlace 25 = .ok (.ldc2_w 209, 3) := by decide +kernel
theorem d_X_checkPlace_28 : decode b_X_checkPlace 28 = .ok (.lcmp, 1) := by decide +kernel
theorem d_X_checkPlace_29 : decode b_X_checkPlace 29 = .ok (.ifCond .le 13, 3) := by decide +kernel
theorem d_X_checkPlace_32 : decode b_X_checkPlace 32 = .ok (.new 86, 3) := by decide +kernel
theorem d_X_checkPlace_35 : decode b_X_checkPlace 35 = .ok (.dup, 1) := by decide +kernel
theorem d_X_checkPlace_36 : decode b_X_checkPlace 36 = .ok (.ldc 211, 2) := by decide +kernel
theorem d_X_checkPlace_38 : decode b_X_checkPlace 38 = .ok (.invokespecial 90, 3) := by decide +kernel
theorem d_X_checkPlace_41 : decode b_X_checkPlace 41 = .ok (.athrow, 1) := by decide +kernel
theorem d_X_checkPlace_42 : decode b_X_checkPlace 42 = .ok (.return_, 1) := by decide +kernel
theorem d_X_checkSize_0 : decode b_X_checkSize 0 = .ok (.lload_n 0, 1) := by decide +kernel
theorem d_X_checkSize_1 : decode b_X_checkSize 1 = .ok (.lconst 1, 1) := by decide +kernel
theorem d_X_checkSize_2 : decode b_X_checkSize 2 = .ok (.lcmp, 1) := by decide +kernel
theorem d_X_checkSize_3 : decode b_X_checkSize 3 = .ok (.ifCond .lt 11, 3) := by decide +kernel
theorem d_X_checkSize_6 : decode b_X_checkSize 6 = .ok (.lload_n 0, 1) := by decide +kernel
theorem d_X_checkSize_7 : decode b_X_checkSize 7 = .ok (.ldc2_w 209, 3) := by decide +kernel
theorem d_X_checkSize_10 : decode b_X_checkSize 10 = .ok (.lcmp, 1) := by decide +kernel
theorem d_X_checkSize_11 : decode b_X_checkSize 11 = .ok (.ifCond .le 13, 3) := by decide +kernel
theorem d_X_checkSize_14 : decode b_X_checkSize 14 = .ok (.new 86, 3) := by decide +kernel
theorem d_X_checkSize_17 : decode b_X_checkSize 17 = .ok (.dup, 1) := by decide +kernel
theorem d_X_checkSize_18 : decode b_X_checkSize 18 = .ok (.ldc 213, 2) := by decide +kernel
theorem d_X_checkSize_20 : decode b_X_checkSize 20 = .ok (.invokespecial 90, 3) := by decide +kernel
theorem d_X_checkSize_23 : decode b_X_checkSize 23 = .ok (.athrow, 1) := by decide +kernel
theorem d_X_checkSize_24 : decode b_X_checkSize 24 = .ok (.return_, 1) := by decide +kernel
theorem d_X_shape_0 : decode b_X_shape 0 = .ok (.aload_n 0, 1) := by decide +kernel
theorem d_X_shape_1 : decode b_X_shape 1 = .ok (.iload_n 1, 1) := by decide +kernel
theorem d_X_shape_2 : decode b_X_shape 2 = .ok (.invokevirtual 62, 3) := by decide +kernel
theorem d_X_shape_5 : decode b_X_shape 5 = .ok (.lload_n 2, 1) := by decide +kernel
theorem d_X_shape_6 : decode b_X_shape 6 = .ok (.lload 4, 2) := by decide +kernel
theorem d_X_shape_8 : decode b_X_shape 8 = .ok (.invokestatic 66, 3) := by decide +kernel
theorem d_X_shape_11 : decode b_X_shape 11 = .ok (.lload 6, 2) := by decide +kernel
theorem d_X_shape_13 : decode b_X_shape 13 = .ok (.invokestatic 70, 3) := by decide +kernel
theorem d_X_shape_16 : decode b_X_shape 16 = .ok (.lload 8, 2) := by decide +kernel
theorem d_X_shape_18 : decode b_X_shape 18 = .ok (.invokestatic 70, 3) := by decide +kernel
theorem d_X_shape_21 : decode b_X_shape 21 = .ok (.aload_n 0, 1) := by decide +kernel
theorem d_X_shape_22 : decode b_X_shape 22 = .ok (.getfield 16, 3) := by decide +kernel
theorem d_X_shape_25 : decode b_X_shape 25 = .ok (.invokevirtual 74, 3) := by decide +kernel
theorem d_X_shape_28 : decode b_X_shape 28 = .ok (.ifCond .eq 5, 3) := by decide +kernel
theorem d_X_shape_31 : decode b_X_shape 31 = .ok (.iconst (-1), 1) := by decide +kernel
theorem d_X_shape_32 : decode b_X_shape 32 = .ok (.ireturn, 1) := by decide +kernel
theorem d_X_shape_33 : decode b_X_shape 33 = .ok (.aload_n 0, 1) := by decide +kernel
theorem d_X_shape_34 : decode b_X_shape 34 = .ok (.aload_n 0, 1) := by decide +kernel
theorem d_X_shape_35 : decode b_X_shape 35 = .ok (.getfield 16, 3) := by decide +kernel
theorem d_X_shape_38 : decode b_X_shape 38 = .ok (.iload_n 1, 1) := by decide +kernel
theorem d_X_shape_39 : decode b_X_shape 39 = .ok (.lload_n 2, 1) := by decide +kernel
theorem d_X_shape_40 : decode b_X_shape 40 = .ok (.lload 4, 2) := by decide +kernel
theorem d_X_shape_42 : decode b_X_shape 42 = .ok (.lload 6, 2) := by decide +kernel
theorem d_X_shape_44 : decode b_X_shape 44 = .ok (.lload 8, 2) := by decide +kernel
theorem d_X_shape_46 : decode b_X_shape 46 = .ok (.invokevirtual 78, 3) := by decide +kernel
theorem d_X_shape_49 : decode b_X_shape 49 = .ok (.invokevirtual 82, 3) := by decide +kernel
theorem d_X_shape_52 : decode b_X_shape 52 = .ok (.ireturn, 1) := by decide +kernel
theorem d_X_via_0 : decode b_X_via 0 = .ok (.aload_n 0, 1) := by decide +kernel
theorem d_X_via_1 : decode b_X_via 1 = .ok (.iload_n 1, 1) := by decide +kernel
theorem d_X_via_2 : decode b_X_via 2 = .ok (.invokevirtual 62, 3) := by decide +kernel
theorem d_X_via_5 : decode b_X_via 5 = .ok (.aload_n 0, 1) := by decide +kernel
theorem d_X_via_6 : decode b_X_via 6 = .ok (.iload_n 2, 1) := by decide +kernel
theorem d_X_via_7 : decode b_X_via 7 = .ok (.invokevirtual 62, 3) := by decide +kernel
theorem d_X_via_10 : decode b_X_via 10 = .ok (.iload_n 1, 1) := by decide +kernel
theorem d_X_via_11 : decode b_X_via 11 = .ok (.iload_n 2, 1) := by decide +kernel
theorem d_X_via_12 : decode b_X_via 12 = .ok (.if_icmp .le 13, 3) := by decide +kernel
theorem d_X_via_15 : decode b_X_via 15 = .ok (.new 86, 3) := by decide +kernel
theorem d_X_via_18 : decode b_X_via 18 = .ok (.dup, 1) := by decide +kernel
theorem d_X_via_19 : decode b_X_via 19 = .ok (.ldc 88, 2) := by decide +kernel
theorem d_X_via_21 : decode b_X_via 21 = .ok (.invokespecial 90, 3) := by decide +kernel
theorem d_X_via_24 : decode b_X_via 24 = .ok (.athrow, 1) := by decide +kernel
theorem d_X_via_25 : decode b_X_via 25 = .ok (.lload_n 3, 1) := by decide +kernel
theorem d_X_via_26 : decode b_X_via 26 = .ok (.lload 5, 2) := by decide +kernel
theorem d_X_via_28 : decode b_X_via 28 = .ok (.invokestatic 66, 3) := by decide +kernel
theorem d_X_via_31 : decode b_X_via 31 = .ok (.lload 7, 2) := by decide +kernel
theorem d_X_via_33 : decode b_X_via 33 = .ok (.invokestatic 70, 3) := by decide +kernel
theorem d_X_via_36 : decode b_X_via 36 = .ok (.aload_n 0, 1) := by decide +kernel
theorem d_X_via_37 : decode b_X_via 37 = .ok (.getfield 16, 3) := by decide +kernel
theorem d_X_via_40 : decode b_X_via 40 = .ok (.invokevirtual 74, 3) := by decide +kernel
theorem d_X_via_43 : decode b_X_via 43 = .ok (.ifCond .eq 5, 3) := by decide +kernel
theorem d_X_via_46 : decode b_X_via 46 = .ok (.iconst (-1), 1) := by decide +kernel
theorem d_X_via_47 : decode b_X_via 47 = .ok (.ireturn, 1) := by decide +kernel
theorem d_X_via_48 : decode b_X_via 48 = .ok (.aload_n 0, 1) := by decide +kernel
theorem d_X_via_49 : decode b_X_via 49 = .ok (.aload_n 0, 1) := by decide +kernel
theorem d_X_via_50 : decode b_X_via 50 = .ok (.getfield 16, 3) := by decide +kernel
theorem d_X_via_53 : decode b_X_via 53 = .ok (.iconst (-1), 1) := by decide +kernel
theorem d_X_via_54 : decode b_X_via 54 = .ok (.iload_n 1, 1) := by decide +kernel
theorem d_X_via_55 : decode b_X_via 55 = .ok (.iload_n 2, 1) := by decide +kernel
theorem d_X_via_56 : decode b_X_via 56 = .ok (.lload_n 3, 1) := by decide +kernel
theorem d_X_via_57 : decode b_X_via 57 = .ok (.lload 5, 2) := by decide +kernel
theorem d_X_via_59 : decode b_X_via 59 = .ok (.lload 7, 2) := by decide +kernel
theorem d_X_via_61 : decode b_X_via 61 = .ok (.invokevirtual 93, 3) := by decide +kernel
theorem d_X_via_64 : decode b_X_via 64 = .ok (.invokevirtual 82, 3) := by decide +kernel
theorem d_X_via_67 : decode b_X_via 67 = .ok (.ireturn, 1) := by decide +kernel
theorem d_X_checkPin_0 : decode b_X_checkPin 0 = .ok (.iload_n 0, 1) := by decide +kernel
theorem d_X_checkPin_1 : decode b_X_checkPin 1 = .ok (.ifCond .lt 9, 3) := by decide +kernel
theorem d_X_checkPin_4 : decode b_X_checkPin 4 = .ok (.iload_n 0, 1) := by decide +kernel
theorem d_X_checkPin_5 : decode b_X_checkPin 5 = .ok (.bipush 40, 2) := by decide +kernel
theorem d_X_checkPin_7 : decode b_X_checkPin 7 = .ok (.if_icmp .lt 13, 3) := by decide +kernel
theorem d_X_checkPin_10 : decode b_X_checkPin 10 = .ok (.new 133, 3) := by decide +kernel
theorem d_X_checkPin_13 : decode b_X_checkPin 13 = .ok (.dup, 1) := by decide +kernel
theorem d_X_checkPin_14 : decode b_X_checkPin 14 = .ok (.ldc 201, 2) := by decide +kernel
theorem d_X_checkPin_16 : decode b_X_checkPin 16 = .ok (.invokespecial 137, 3) := by decide +kernel
theorem d_X_checkPin_19 : decode b_X_checkPin 19 = .ok (.athrow, 1) := by decide +kernel
theorem d_X_checkPin_20 : decode b_X_checkPin 20 = .ok (.return_, 1) := by decide +kernel
theorem d_X_pad_0 : decode b_X_pad 0 = .ok (.iload_n 1, 1) := by decide +kernel
theorem d_X_pad_1 : decode b_X_pad 1 = .ok (.invokestatic 97, 3) := by decide +kernel
theorem d_X_pad_4 : decode b_X_pad 4 = .ok (.aload_n 0, 1) := by decide +kernel
theorem d_X_pad_5 : decode b_X_pad 5 = .ok (.iload_n 2, 1) := by decide +kernel
theorem d_X_pad_6 : decode b_X_pad 6 = .ok (.invokevirtual 62, 3) := by decide +kernel
theorem d_X_pad_9 : decode b_X_pad 9 = .ok (.lload_n 3, 1) := by decide +kernel
theorem d_X_pad_10 : decode b_X_pad 10 = .ok (.lload 5, 2) := by decide +kernel
theorem d_X_pad_12 : decode b_X_pad 12 = .ok (.invokestatic 66, 3) := by decide +kernel
theorem d_X_pad_15 : decode b_X_pad 15 = .ok (.lload 7, 2) := by decide +kernel
theorem d_X_pad_17 : decode b_X_pad 17 = .ok (.invokestatic 70, 3) := by decide +kernel
theorem d_X_pad_20 : decode b_X_pad 20 = .ok (.aload_n 0, 1) := by decide +kernel
theorem d_X_pad_21 : decode b_X_pad 21 = .ok (.getfield 16, 3) := by decide +kernel
theorem d_X_pad_24 : decode b_X_pad 24 = .ok (.invokevirtual 74, 3) := by decide +kernel
theorem d_X_pad_27 : decode b_X_pad 27 = .ok (.ifCond .eq 5, 3) := by decide +kernel
theorem d_X_pad_30 : decode b_X_pad 30 = .ok (.iconst (-1), 1) := by decide +kernel
theorem d_X_pad_31 : decode b_X_pad 31 = .ok (.ireturn, 1) := by decide +kernel
theorem d_X_pad_32 : decode b_X_pad 32 = .ok (.aload_n 0, 1) := by decide +kernel
theorem d_X_pad_33 : decode b_X_pad 33 = .ok (.aload_n 0, 1) := by decide +kernel
theorem d_X_pad_34 : decode b_X_pad 34 = .ok (.getfield 16, 3) := by decide +kernel
theorem d_X_pad_37 : decode b_X_pad 37 = .ok (.iload_n 1, 1) := by decide +kernel
theorem d_X_pad_38 : decode b_X_pad 38 = .ok (.iload_n 2, 1) := by decide +kernel
theorem d_X_pad_39 : decode b_X_pad 39 = .ok (.iload_n 2, 1) := by decide +kernel
theorem d_X_pad_40 : decode b_X_pad 40 = .ok (.lload_n 3, 1) := by decide +kernel
theorem d_X_pad_41 : decode b_X_pad 41 = .ok (.lload 5, 2) := by decide +kernel
theorem d_X_pad_43 : decode b_X_pad 43 = .ok (.lload 7, 2) := by decide +kernel
theorem d_X_pad_45 : decode b_X_pad 45 = .ok (.invokevirtual 93, 3) := by decide +kernel
theorem d_X_pad_48 : decode b_X_pad 48 = .ok (.invokevirtual 82, 3) := by decide +kernel
theorem d_X_pad_51 : decode b_X_pad 51 = .ok (.ireturn, 1) := by decide +kernel
theorem d_X_isNet_0 : decode b_X_isNet 0 = .ok (.iload_n 0, 1) := by decide +kernel
theorem d_X_isNet_1 : decode b_X_isNet 1 = .ok (.ifCond .lt 13, 3) := by decide +kernel
theorem d_X_isNet_4 : decode b_X_isNet 4 = .ok (.iload_n 0, 1) := by decide +kernel
theorem d_X_isNet_5 : decode b_X_isNet 5 = .ok (.bipush 20, 2) := by decide +kernel
theorem d_X_isNet_7 : decode b_X_isNet 7 = .ok (.if_icmp .ge 7, 3) := by decide +kernel
theorem d_X_isNet_10 : decode b_X_isNet 10 = .ok (.iconst 1, 1) := by decide +kernel
theorem d_X_isNet_11 : decode b_X_isNet 11 = .ok (.goto 4, 3) := by decide +kernel
theorem d_X_isNet_14 : decode b_X_isNet 14 = .ok (.iconst 0, 1) := by decide +kernel
theorem d_X_isNet_15 : decode b_X_isNet 15 = .ok (.ireturn, 1) := by decide +kernel
theorem d_X_plans_0 : decode b_X_plans 0 = .ok (.iload_n 1, 1) := by decide +kernel
theorem d_X_plans_1 : decode b_X_plans 1 = .ok (.invokestatic 97, 3) := by decide +kernel
theorem d_X_plans_4 : decode b_X_plans 4 = .ok (.iload_n 2, 1) := by decide +kernel
theorem d_X_plans_5 : decode b_X_plans 5 = .ok (.iconst (-1), 1) := by decide +kernel
theorem d_X_plans_6 : decode b_X_plans 6 = .ok (.if_icmp .eq 20, 3) := by decide +kernel
theorem d_X_plans_9 : decode b_X_plans 9 = .ok (.iload_n 2, 1) := by decide +kernel
theorem d_X_plans_10 : decode b_X_plans 10 = .ok (.invokestatic 100, 3) := by decide +kernel
theorem d_X_plans_13 : decode b_X_plans 13 = .ok (.ifCond .ne 13, 3) := by decide +kernel
theorem d_X_plans_16 : decode b_X_plans 16 = .ok (.new 86, 3) := by decide +kernel
theorem d_X_plans_19 : decode b_X_plans 19 = .ok (.dup, 1) := by decide +kernel
theorem d_X_plans_20 : decode b_X_plans 20 = .ok (.ldc 104, 2) := by decide +kernel
theorem d_X_plans_22 : decode b_X_plans 22 = .ok (.invokespecial 90, 3) := by decide +kernel
theorem d_X_plans_25 : decode b_X_plans 25 = .ok (.athrow, 1) := by decide +kernel
theorem d_X_plans_26 : decode b_X_plans 26 = .ok (.aload_n 0, 1) := by decide +kernel
theorem d_X_plans_27 : decode b_X_plans 27 = .ok (.getfield 9, 3) := by decide +kernel
theorem d_X_plans_30 : decode b_X_plans 30 = .ok (.iload_n 1, 1) := by decide +kernel
theorem d_X_plans_31 : decode b_X_plans 31 = .ok (.iaload, 1) := by decide +kernel
theorem d_X_plans_32 : decode b_X_plans 32 = .ok (.iload_n 2, 1) := by decide +kernel
theorem d_X_plans_33 : decode b_X_plans 33 = .ok (.if_icmp .eq 7, 3) := by decide +kernel
theorem d_X_plans_36 : decode b_X_plans 36 = .ok (.iconst 1, 1) := by decide +kernel
theorem d_X_plans_37 : decode b_X_plans 37 = .ok (.goto 4, 3) := by decide +kernel
theorem d_X_plans_40 : decode b_X_plans 40 = .ok (.iconst 0, 1) := by decide +kernel
theorem d_X_plans_41 : decode b_X_plans 41 = .ok (.istore_n 3, 1) := by decide +kernel
theorem d_X_plans_42 : decode b_X_plans 42 = .ok (.aload_n 0, 1) := by decide +kernel
theorem d_X_plans_43 : decode b_X_plans 43 = .ok (.getfield 9, 3) := by decide +kernel
theorem d_X_plans_46 : decode b_X_plans 46 = .ok (.iload_n 1, 1) := by decide +kernel
theorem d_X_plans_47 : decode b_X_plans 47 = .ok (.iload_n 2, 1) := by decide +kernel
theorem d_X_plans_48 : decode b_X_plans 48 = .ok (.iastore, 1) := by decide +kernel
theorem d_X_plans_49 : decode b_X_plans 49 = .ok (.iload_n 3, 1) := by decide +kernel
theorem d_X_plans_50 : decode b_X_plans 50 = .ok (.ireturn, 1) := by decide +kernel
theorem d_X_checkPiece_0 : decode b_X_checkPiece 0 = .ok (.iload_n 1, 1) := by decide +kernel
theorem d_X_checkPiece_1 : decode b_X_checkPiece 1 = .ok (.ifCond .lt 14, 3) := by decide +kernel
theorem d_X_checkPiece_4 : decode b_X_checkPiece 4 = .ok (.iload_n 1, 1) := by decide +kernel
theorem d_X_checkPiece_5 : decode b_X_checkPiece 5 = .ok (.aload_n 0, 1) := by decide +kernel
theorem d_X_checkPiece_6 : decode b_X_checkPiece 6 = .ok (.getfield 16, 3) := by decide +kernel
theorem d_X_checkPiece_9 : decode b_X_checkPiece 9 = .ok (.getfield 106, 3) := by decide +kernel
theorem d_X_checkPiece_12 : decode b_X_checkPiece 12 = .ok (.if_icmp .lt 13, 3) := by decide +kernel
theorem d_X_checkPiece_15 : decode b_X_checkPiece 15 = .ok (.new 133, 3) := by decide +kernel
theorem d_X_checkPiece_18 : decode b_X_checkPiece 18 = .ok (.dup, 1) := by decide +kernel
theorem d_X_checkPiece_19 : decode b_X_checkPiece 19 = .ok (.ldc 203, 2) := by decide +kernel
theorem d_X_checkPiece_21 : decode b_X_checkPiece 21 = .ok (.invokespecial 137, 3) := by decide +kernel
theorem d_X_checkPiece_24 : decode b_X_checkPiece 24 = .ok (.athrow, 1) := by decide +kernel
theorem d_X_checkPiece_25 : decode b_X_checkPiece 25 = .ok (.return_, 1) := by decide +kernel
theorem d_X_netOf_0 : decode b_X_netOf 0 = .ok (.aload_n 0, 1) := by decide +kernel
theorem d_X_netOf_1 : decode b_X_netOf 1 = .ok (.iload_n 1, 1) := by decide +kernel
theorem d_X_netOf_2 : decode b_X_netOf 2 = .ok (.invokevirtual 112, 3) := by decide +kernel
theorem d_X_netOf_5 : decode b_X_netOf 5 = .ok (.aload_n 0, 1) := by decide +kernel
theorem d_X_netOf_6 : decode b_X_netOf 6 = .ok (.getfield 23, 3) := by decide +kernel
theorem d_X_netOf_9 : decode b_X_netOf 9 = .ok (.iload_n 1, 1) := by decide +kernel
theorem d_X_netOf_10 : decode b_X_netOf 10 = .ok (.invokevirtual 115, 3) := by decide +kernel
theorem d_X_netOf_13 : decode b_X_netOf 13 = .ok (.ifCond .eq 18, 3) := by decide +kernel
theorem d_X_netOf_16 : decode b_X_netOf 16 = .ok (.aload_n 0, 1) := by decide +kernel
theorem d_X_netOf_17 : decode b_X_netOf 17 = .ok (.aload_n 0, 1) := by decide +kernel
theorem d_X_netOf_18 : decode b_X_netOf 18 = .ok (.getfield 23, 3) := by decide +kernel
theorem d_X_netOf_21 : decode b_X_netOf 21 = .ok (.iload_n 1, 1) := by decide +kernel
theorem d_X_netOf_22 : decode b_X_netOf 22 = .ok (.invokevirtual 118, 3) := by decide +kernel
theorem d_X_netOf_25 : decode b_X_netOf 25 = .ok (.invokevirtual 109, 3) := by decide +kernel
theorem d_X_netOf_28 : decode b_X_netOf 28 = .ok (.goto 4, 3) := by decide +kernel
theorem d_X_netOf_31 : decode b_X_netOf 31 = .ok (.iconst (-1), 1) := by decide +kernel
theorem d_X_netOf_32 : decode b_X_netOf 32 = .ok (.ireturn, 1) := by decide +kernel
theorem d_X_checkNet_0 : decode b_X_checkNet 0 = .ok (.iload_n 0, 1) := by decide +kernel
theorem d_X_checkNet_1 : decode b_X_checkNet 1 = .ok (.invokestatic 100, 3) := by decide +kernel
theorem d_X_checkNet_4 : decode b_X_checkNet 4 = .ok (.ifCond .ne 13, 3) := by decide +kernel
theorem d_X_checkNet_7 : decode b_X_checkNet 7 = .ok (.new 133, 3) := by decide +kernel
theorem d_X_checkNet_10 : decode b_X_checkNet 10 = .ok (.dup, 1) := by decide +kernel
theorem d_X_checkNet_11 : decode b_X_checkNet 11 = .ok (.ldc 104, 2) := by decide +kernel
theorem d_X_checkNet_13 : decode b_X_checkNet 13 = .ok (.invokespecial 137, 3) := by decide +kernel
theorem d_X_checkNet_16 : decode b_X_checkNet 16 = .ok (.athrow, 1) := by decide +kernel
theorem d_X_checkNet_17 : decode b_X_checkNet 17 = .ok (.return_, 1) := by decide +kernel
theorem d_X_opens_0 : decode b_X_opens 0 = .ok (.iload_n 1, 1) := by decide +kernel
theorem d_X_opens_1 : decode b_X_opens 1 = .ok (.invokestatic 121, 3) := by decide +kernel
theorem d_X_opens_4 : decode b_X_opens 4 = .ok (.aload_n 0, 1) := by decide +kernel
theorem d_X_opens_5 : decode b_X_opens 5 = .ok (.iload_n 1, 1) := by decide +kernel
theorem d_X_opens_6 : decode b_X_opens 6 = .ok (.invokevirtual 124, 3) := by decide +kernel
theorem d_X_opens_9 : decode b_X_opens 9 = .ok (.aload_n 0, 1) := by decide +kernel
theorem d_X_opens_10 : decode b_X_opens 10 = .ok (.getfield 30, 3) := by decide +kernel
theorem d_X_opens_13 : decode b_X_opens 13 = .ok (.getfield 127, 3) := by decide +kernel
theorem d_X_opens_16 : decode b_X_opens 16 = .ok (.ireturn, 1) := by decide +kernel
theorem d_X_checkWhat_0 : decode b_X_checkWhat 0 = .ok (.iload_n 0, 1) := by decide +kernel
theorem d_X_checkWhat_1 : decode b_X_checkWhat 1 = .ok (.ifCond .lt 8, 3) := by decide +kernel
theorem d_X_checkWhat_4 : decode b_X_checkWhat 4 = .ok (.iload_n 0, 1) := by decide +kernel
theorem d_X_checkWhat_5 : decode b_X_checkWhat 5 = .ok (.iload_n 1, 1) := by decide +kernel
theorem d_X_checkWhat_6 : decode b_X_checkWhat 6 = .ok (.if_icmp .le 13, 3) := by decide +kernel
theorem d_X_checkWhat_9 : decode b_X_checkWhat 9 = .ok (.new 133, 3) := by decide +kernel
theorem d_X_checkWhat_12 : decode b_X_checkWhat 12 = .ok (.dup, 1) := by decide +kernel
theorem d_X_checkWhat_13 : decode b_X_checkWhat 13 = .ok (.ldc 205, 2) := by decide +kernel
theorem d_X_checkWhat_15 : decode b_X_checkWhat 15 = .ok (.invokespecial 137, 3) := by decide +kernel
theorem d_X_checkWhat_18 : decode b_X_checkWhat 18 = .ok (.athrow, 1) := by decide +kernel
theorem d_X_checkWhat_19 : decode b_X_checkWhat 19 = .ok (.return_, 1) := by decide +kernel
theorem d_X_open_0 : decode b_X_open 0 = .ok (.iload_n 1, 1) := by decide +kernel
theorem d_X_open_1 : decode b_X_open 1 = .ok (.invokestatic 121, 3) := by decide +kernel
theorem d_X_open_4 : decode b_X_open 4 = .ok (.iload_n 3, 1) := by decide +kernel
theorem d_X_open_5 : decode b_X_open 5 = .ok (.iconst 2, 1) := by decide +kernel
theorem d_X_open_6 : decode b_X_open 6 = .ok (.invokestatic 128, 3) := by decide +kernel
theorem d_X_open_9 : decode b_X_open 9 = .ok (.aload_n 0, 1) := by decide +kernel
theorem d_X_open_10 : decode b_X_open 10 = .ok (.iload_n 1, 1) := by decide +kernel
theorem d_X_open_11 : decode b_X_open 11 = .ok (.invokevirtual 124, 3) := by decide +kernel
theorem d_X_open_14 : decode b_X_open 14 = .ok (.aload_n 0, 1) := by decide +kernel
theorem d_X_open_15 : decode b_X_open 15 = .ok (.getfield 30, 3) := by decide +kernel
theorem d_X_open_18 : decode b_X_open 18 = .ok (.iload_n 2, 1) := by decide +kernel
theorem d_X_open_19 : decode b_X_open 19 = .ok (.invokevirtual 132, 3) := by decide +kernel
theorem d_X_open_22 : decode b_X_open 22 = .ok (.ifCond .ne 13, 3) := by decide +kernel
theorem d_X_open_25 : decode b_X_open 25 = .ok (.new 133, 3) := by decide +kernel
theorem d_X_open_28 : decode b_X_open 28 = .ok (.dup, 1) := by decide +kernel
theorem d_X_open_29 : decode b_X_open 29 = .ok (.ldc 135, 2) := by decide +kernel
theorem d_X_open_31 : decode b_X_open 31 = .ok (.invokespecial 137, 3) := by decide +kernel
theorem d_X_open_34 : decode b_X_open 34 = .ok (.athrow, 1) := by decide +kernel
theorem d_X_open_35 : decode b_X_open 35 = .ok (.aload_n 0, 1) := by decide +kernel
theorem d_X_open_36 : decode b_X_open 36 = .ok (.getfield 30, 3) := by decide +kernel
theorem d_X_open_39 : decode b_X_open 39 = .ok (.iload_n 2, 1) := by decide +kernel
theorem d_X_open_40 : decode b_X_open 40 = .ok (.invokevirtual 138, 3) := by decide +kernel
theorem d_X_open_43 : decode b_X_open 43 = .ok (.lstore 4, 2) := by decide +kernel
theorem d_X_open_45 : decode b_X_open 45 = .ok (.iload_n 3, 1) := by decide +kernel
theorem d_X_open_46 : decode b_X_open 46 = .ok (.iconst 2, 1) := by decide +kernel
theorem d_X_open_47 : decode b_X_open 47 = .ok (.if_icmp .ne 11, 3) := by decide +kernel
theorem d_X_open_50 : decode b_X_open 50 = .ok (.lload 4, 2) := by decide +kernel
theorem d_X_open_52 : decode b_X_open 52 = .ok (.invokestatic 142, 3) := by decide +kernel
theorem d_X_open_55 : decode b_X_open 55 = .ok (.goto 10, 3) := by decide +kernel
theorem d_X_open_58 : decode b_X_open 58 = .ok (.lload 4, 2) := by decide +kernel
theorem d_X_open_60 : decode b_X_open 60 = .ok (.iload_n 3, 1) := by decide +kernel
theorem d_X_open_61 : decode b_X_open 61 = .ok (.invokestatic 148, 3) := by decide +kernel
theorem d_X_open_64 : decode b_X_open 64 = .ok (.i2l, 1) := by decide +kernel
theorem d_X_open_65 : decode b_X_open 65 = .ok (.lreturn, 1) := by decide +kernel
theorem d_X_short2_0 : decode b_X_short2 0 = .ok (.iload_n 2, 1) := by decide +kernel
theorem d_X_short2_1 : decode b_X_short2 1 = .ok (.iconst 4, 1) := by decide +kernel
theorem d_X_short2_2 : decode b_X_short2 2 = .ok (.invokestatic 128, 3) := by decide +kernel
theorem d_X_short2_5 : decode b_X_short2 5 = .ok (.aload_n 0, 1) := by decide +kernel
theorem d_X_short2_6 : decode b_X_short2 6 = .ok (.invokevirtual 152, 3) := by decide +kernel
theorem d_X_short2_9 : decode b_X_short2 9 = .ok (.aload_n 0, 1) := by decide +kernel
theorem d_X_short2_10 : decode b_X_short2 10 = .ok (.iload_n 1, 1) := by decide +kernel
theorem d_X_short2_11 : decode b_X_short2 11 = .ok (.invokevirtual 158, 3) := by decide +kernel
theorem d_X_short2_14 : decode b_X_short2 14 = .ok (.istore_n 3, 1) := by decide +kernel
theorem d_X_short2_15 : decode b_X_short2 15 = .ok (.iload_n 3, 1) := by decide +kernel
theorem d_X_short2_16 : decode b_X_short2 16 = .ok (.iconst (-1), 1) := by decide +kernel
theorem d_X_short2_17 : decode b_X_short2 17 = .ok (.if_icmp .ne 13, 3) := by decide +kernel
theorem d_X_short2_20 : decode b_X_short2 20 = .ok (.new 133, 3) := by decide +kernel
theorem d_X_short2_23 : decode b_X_short2 23 = .ok (.dup, 1) := by decide +kernel
theorem d_X_short2_24 : decode b_X_short2 24 = .ok (.ldc 161, 2) := by decide +kernel
theorem d_X_short2_26 : decode b_X_short2 26 = .ok (.invokespecial 137, 3) := by decide +kernel
theorem d_X_short2_29 : decode b_X_short2 29 = .ok (.athrow, 1) := by decide +kernel
theorem d_X_short2_30 : decode b_X_short2 30 = .ok (.aload_n 0, 1) := by decide +kernel
theorem d_X_short2_31 : decode b_X_short2 31 = .ok (.getfield 37, 3) := by decide +kernel
theorem d_X_short2_34 : decode b_X_short2 34 = .ok (.iload_n 3, 1) := by decide +kernel
theorem d_X_short2_35 : decode b_X_short2 35 = .ok (.iaload, 1) := by decide +kernel
theorem d_X_short2_36 : decode b_X_short2 36 = .ok (.istore 4, 2) := by decide +kernel
theorem d_X_short2_38 : decode b_X_short2 38 = .ok (.iload_n 2, 1) := by decide +kernel
theorem d_X_short2_39 : decode b_X_short2 39 = .ok (.tableswitch 51 0 2 #[25, 32, 39], 25) := by decide +kernel
theorem d_X_short2_64 : decode b_X_short2 64 = .ok (.aload_n 0, 1) := by decide +kernel
theorem d_X_short2_65 : decode b_X_short2 65 = .ok (.iload_n 3, 1) := by decide +kernel
theorem d_X_short2_66 : decode b_X_short2 66 = .ok (.invokevirtual 109, 3) := by decide +kernel
theorem d_X_short2_69 : decode b_X_short2 69 = .ok (.i2l, 1) := by decide +kernel
theorem d_X_short2_70 : decode b_X_short2 70 = .ok (.lreturn, 1) := by decide +kernel
theorem d_X_short2_71 : decode b_X_short2 71 = .ok (.iload 4, 2) := by decide +kernel
theorem d_X_short2_73 : decode b_X_short2 73 = .ok (.invokestatic 163, 3) := by decide +kernel
theorem d_X_short2_76 : decode b_X_short2 76 = .ok (.i2l, 1) := by decide +kernel
theorem d_X_short2_77 : decode b_X_short2 77 = .ok (.lreturn, 1) := by decide +kernel
theorem d_X_short2_78 : decode b_X_short2 78 = .ok (.iload 4, 2) := by decide +kernel
theorem d_X_short2_80 : decode b_X_short2 80 = .ok (.iload 4, 2) := by decide +kernel
theorem d_X_short2_82 : decode b_X_short2 82 = .ok (.iconst 1, 1) := by decide +kernel
theorem d_X_short2_83 : decode b_X_short2 83 = .ok (.isub, 1) := by decide +kernel
theorem d_X_short2_84 : decode b_X_short2 84 = .ok (.iand, 1) := by decide +kernel
theorem d_X_short2_85 : decode b_X_short2 85 = .ok (.invokestatic 163, 3) := by decide +kernel
theorem d_X_short2_88 : decode b_X_short2 88 = .ok (.i2l, 1) := by decide +kernel
theorem d_X_short2_89 : decode b_X_short2 89 = .ok (.lreturn, 1) := by decide +kernel
theorem d_X_short2_90 : decode b_X_short2 90 = .ok (.aload_n 0, 1) := by decide +kernel
theorem d_X_short2_91 : decode b_X_short2 91 = .ok (.iload_n 3, 1) := by decide +kernel
theorem d_X_short2_92 : decode b_X_short2 92 = .ok (.invokevirtual 166, 3) := by decide +kernel
theorem d_X_short2_95 : decode b_X_short2 95 = .ok (.iload_n 2, 1) := by decide +kernel
theorem d_X_short2_96 : decode b_X_short2 96 = .ok (.iconst 3, 1) := by decide +kernel
theorem d_X_short2_97 : decode b_X_short2 97 = .ok (.isub, 1) := by decide +kernel
theorem d_X_short2_98 : decode b_X_short2 98 = .ok (.invokestatic 148, 3) := by decide +kernel
theorem d_X_short2_101 : decode b_X_short2 101 = .ok (.i2l, 1) := by decide +kernel
theorem d_X_short2_102 : decode b_X_short2 102 = .ok (.lreturn, 1) := by decide +kernel
theorem d_X_line_0 : decode b_X_line 0 = .ok (.iload_n 1, 1) := by decide +kernel
theorem d_X_line_1 : decode b_X_line 1 = .ok (.invokestatic 121, 3) := by decide +kernel
theorem d_X_line_4 : decode b_X_line 4 = .ok (.iload_n 3, 1) := by decide +kernel
theorem d_X_line_5 : decode b_X_line 5 = .ok (.iconst 1, 1) := by decide +kernel
theorem d_X_line_6 : decode b_X_line 6 = .ok (.invokestatic 128, 3) := by decide +kernel
theorem d_X_line_9 : decode b_X_line 9 = .ok (.aload_n 0, 1) := by decide +kernel
theorem d_X_line_10 : decode b_X_line 10 = .ok (.iload_n 1, 1) := by decide +kernel
theorem d_X_line_11 : decode b_X_line 11 = .ok (.invokevirtual 124, 3) := by decide +kernel
theorem d_X_line_14 : decode b_X_line 14 = .ok (.aload_n 0, 1) := by decide +kernel
theorem d_X_line_15 : decode b_X_line 15 = .ok (.getfield 30, 3) := by decide +kernel
theorem d_X_line_18 : decode b_X_line 18 = .ok (.iload_n 2, 1) := by decide +kernel
theorem d_X_line_19 : decode b_X_line 19 = .ok (.invokevirtual 132, 3) := by decide +kernel
theorem d_X_line_22 : decode b_X_line 22 = .ok (.ifCond .eq 18, 3) := by decide +kernel
theorem d_X_line_25 : decode b_X_line 25 = .ok (.aload_n 0, 1) := by decide +kernel
theorem d_X_line_26 : decode b_X_line 26 = .ok (.getfield 30, 3) := by decide +kernel
theorem d_X_line_29 : decode b_X_line 29 = .ok (.iload_n 2, 1) := by decide +kernel
theorem d_X_line_30 : decode b_X_line 30 = .ok (.invokevirtual 138, 3) := by decide +kernel
theorem d_X_line_33 : decode b_X_line 33 = .ok (.iload_n 3, 1) := by decide +kernel
theorem d_X_line_34 : decode b_X_line 34 = .ok (.invokestatic 148, 3) := by decide +kernel
theorem d_X_line_37 : decode b_X_line 37 = .ok (.goto 4, 3) := by decide +kernel
theorem d_X_line_40 : decode b_X_line 40 = .ok (.iconst (-1), 1) := by decide +kernel
theorem d_X_line_41 : decode b_X_line 41 = .ok (.ireturn, 1) := by decide +kernel
theorem d_X_drop_0 : decode b_X_drop 0 = .ok (.aload_n 0, 1) := by decide +kernel
theorem d_X_drop_1 : decode b_X_drop 1 = .ok (.iload_n 1, 1) := by decide +kernel
theorem d_X_drop_2 : decode b_X_drop 2 = .ok (.invokevirtual 112, 3) := by decide +kernel
theorem d_X_drop_5 : decode b_X_drop 5 = .ok (.aload_n 0, 1) := by decide +kernel
theorem d_X_drop_6 : decode b_X_drop 6 = .ok (.getfield 16, 3) := by decide +kernel
theorem d_X_drop_9 : decode b_X_drop 9 = .ok (.iload_n 1, 1) := by decide +kernel
theorem d_X_drop_10 : decode b_X_drop 10 = .ok (.invokevirtual 169, 3) := by decide +kernel
theorem d_X_drop_13 : decode b_X_drop 13 = .ok (.ifCond .ne 5, 3) := by decide +kernel
theorem d_X_drop_16 : decode b_X_drop 16 = .ok (.iconst 0, 1) := by decide +kernel
theorem d_X_drop_17 : decode b_X_drop 17 = .ok (.ireturn, 1) := by decide +kernel
theorem d_X_drop_18 : decode b_X_drop 18 = .ok (.aload_n 0, 1) := by decide +kernel
theorem d_X_drop_19 : decode b_X_drop 19 = .ok (.getfield 16, 3) := by decide +kernel
theorem d_X_drop_22 : decode b_X_drop 22 = .ok (.iload_n 1, 1) := by decide +kernel
theorem d_X_drop_23 : decode b_X_drop 23 = .ok (.invokevirtual 172, 3) := by decide +kernel
theorem d_X_drop_26 : decode b_X_drop 26 = .ok (.aload_n 0, 1) := by decide +kernel
theorem d_X_drop_27 : decode b_X_drop 27 = .ok (.iload_n 1, 1) := by decide +kernel
theorem d_X_drop_28 : decode b_X_drop 28 = .ok (.invokevirtual 175, 3) := by decide +kernel
theorem d_X_drop_31 : decode b_X_drop 31 = .ok (.iconst 1, 1) := by decide +kernel
theorem d_X_drop_32 : decode b_X_drop 32 = .ok (.ireturn, 1) := by decide +kernel
