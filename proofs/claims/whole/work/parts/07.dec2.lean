theorem d_M_thrown_0 : decode b_M_thrown 0 = .ok (.aload_n 0, 1) := by decide +kernel
theorem d_M_thrown_1 : decode b_M_thrown 1 = .ok (.getfield 55, 3) := by decide +kernel
theorem d_M_thrown_4 : decode b_M_thrown 4 = .ok (.ireturn, 1) := by decide +kernel
theorem d_M_isPlace_0 : decode b_M_isPlace 0 = .ok (.lload_n 0, 1) := by decide +kernel
theorem d_M_isPlace_1 : decode b_M_isPlace 1 = .ok (.ldc2_w 61, 3) := by decide +kernel
theorem d_M_isPlace_4 : decode b_M_isPlace 4 = .ok (.lcmp, 1) := by decide +kernel
theorem d_M_isPlace_5 : decode b_M_isPlace 5 = .ok (.ifCond .lt 31, 3) := by decide +kernel
theorem d_M_isPlace_8 : decode b_M_isPlace 8 = .ok (.lload_n 0, 1) := by decide +kernel
theorem d_M_isPlace_9 : decode b_M_isPlace 9 = .ok (.ldc2_w 63, 3) := by decide +kernel
theorem d_M_isPlace_12 : decode b_M_isPlace 12 = .ok (.lcmp, 1) := by decide +kernel
theorem d_M_isPlace_13 : decode b_M_isPlace 13 = .ok (.ifCond .gt 23, 3) := by decide +kernel
theorem d_M_isPlace_16 : decode b_M_isPlace 16 = .ok (.lload_n 2, 1) := by decide +kernel
theorem d_M_isPlace_17 : decode b_M_isPlace 17 = .ok (.ldc2_w 61, 3) := by decide +kernel
theorem d_M_isPlace_20 : decode b_M_isPlace 20 = .ok (.lcmp, 1) := by decide +kernel
theorem d_M_isPlace_21 : decode b_M_isPlace 21 = .ok (.ifCond .lt 15, 3) := by decide +kernel
theorem d_M_isPlace_24 : decode b_M_isPlace 24 = .ok (.lload_n 2, 1) := by decide +kernel
theorem d_M_isPlace_25 : decode b_M_isPlace 25 = .ok (.ldc2_w 63, 3) := by decide +kernel
theorem d_M_isPlace_28 : decode b_M_isPlace 28 = .ok (.lcmp, 1) := by decide +kernel
theorem d_M_isPlace_29 : decode b_M_isPlace 29 = .ok (.ifCond .gt 7, 3) := by decide +kernel
theorem d_M_isPlace_32 : decode b_M_isPlace 32 = .ok (.iconst 1, 1) := by decide +kernel
theorem d_M_isPlace_33 : decode b_M_isPlace 33 = .ok (.goto 4, 3) := by decide +kernel
theorem d_M_isPlace_36 : decode b_M_isPlace 36 = .ok (.iconst 0, 1) := by decide +kernel
theorem d_M_isPlace_37 : decode b_M_isPlace 37 = .ok (.ireturn, 1) := by decide +kernel
theorem d_M_isSize_0 : decode b_M_isSize 0 = .ok (.lload_n 0, 1) := by decide +kernel
theorem d_M_isSize_1 : decode b_M_isSize 1 = .ok (.lconst 1, 1) := by decide +kernel
theorem d_M_isSize_2 : decode b_M_isSize 2 = .ok (.lcmp, 1) := by decide +kernel
theorem d_M_isSize_3 : decode b_M_isSize 3 = .ok (.ifCond .lt 15, 3) := by decide +kernel
theorem d_M_isSize_6 : decode b_M_isSize 6 = .ok (.lload_n 0, 1) := by decide +kernel
theorem d_M_isSize_7 : decode b_M_isSize 7 = .ok (.ldc2_w 63, 3) := by decide +kernel
theorem d_M_isSize_10 : decode b_M_isSize 10 = .ok (.lcmp, 1) := by decide +kernel
theorem d_M_isSize_11 : decode b_M_isSize 11 = .ok (.ifCond .gt 7, 3) := by decide +kernel
theorem d_M_isSize_14 : decode b_M_isSize 14 = .ok (.iconst 1, 1) := by decide +kernel
theorem d_M_isSize_15 : decode b_M_isSize 15 = .ok (.goto 4, 3) := by decide +kernel
theorem d_M_isSize_18 : decode b_M_isSize 18 = .ok (.iconst 0, 1) := by decide +kernel
theorem d_M_isSize_19 : decode b_M_isSize 19 = .ok (.ireturn, 1) := by decide +kernel
theorem d_M_isLayer_0 : decode b_M_isLayer 0 = .ok (.iload_n 1, 1) := by decide +kernel
theorem d_M_isLayer_1 : decode b_M_isLayer 1 = .ok (.ifCond .lt 15, 3) := by decide +kernel
theorem d_M_isLayer_4 : decode b_M_isLayer 4 = .ok (.iload_n 1, 1) := by decide +kernel
theorem d_M_isLayer_5 : decode b_M_isLayer 5 = .ok (.aload_n 0, 1) := by decide +kernel
theorem d_M_isLayer_6 : decode b_M_isLayer 6 = .ok (.getfield 51, 3) := by decide +kernel
theorem d_M_isLayer_9 : decode b_M_isLayer 9 = .ok (.if_icmp .ge 7, 3) := by decide +kernel
theorem d_M_isLayer_12 : decode b_M_isLayer 12 = .ok (.iconst 1, 1) := by decide +kernel
theorem d_M_isLayer_13 : decode b_M_isLayer 13 = .ok (.goto 4, 3) := by decide +kernel
theorem d_M_isLayer_16 : decode b_M_isLayer 16 = .ok (.iconst 0, 1) := by decide +kernel
theorem d_M_isLayer_17 : decode b_M_isLayer 17 = .ok (.ireturn, 1) := by decide +kernel
theorem d_M_add_0 : decode b_M_add 0 = .ok (.aload_n 0, 1) := by decide +kernel
theorem d_M_add_1 : decode b_M_add 1 = .ok (.getfield 58, 3) := by decide +kernel
theorem d_M_add_4 : decode b_M_add 4 = .ok (.bipush 60, 2) := by decide +kernel
theorem d_M_add_6 : decode b_M_add 6 = .ok (.if_icmp .ne 5, 3) := by decide +kernel
theorem d_M_add_9 : decode b_M_add 9 = .ok (.iconst (-1), 1) := by decide +kernel
theorem d_M_add_10 : decode b_M_add 10 = .ok (.ireturn, 1) := by decide +kernel
theorem d_M_add_11 : decode b_M_add 11 = .ok (.aload_n 0, 1) := by decide +kernel
theorem d_M_add_12 : decode b_M_add 12 = .ok (.getfield 7, 3) := by decide +kernel
theorem d_M_add_15 : decode b_M_add 15 = .ok (.aload_n 0, 1) := by decide +kernel
theorem d_M_add_16 : decode b_M_add 16 = .ok (.getfield 58, 3) := by decide +kernel
theorem d_M_add_19 : decode b_M_add 19 = .ok (.iconst 1, 1) := by decide +kernel
theorem d_M_add_20 : decode b_M_add 20 = .ok (.bastore, 1) := by decide +kernel
theorem d_M_add_21 : decode b_M_add 21 = .ok (.aload_n 0, 1) := by decide +kernel
theorem d_M_add_22 : decode b_M_add 22 = .ok (.getfield 13, 3) := by decide +kernel
theorem d_M_add_25 : decode b_M_add 25 = .ok (.aload_n 0, 1) := by decide +kernel
theorem d_M_add_26 : decode b_M_add 26 = .ok (.getfield 58, 3) := by decide +kernel
theorem d_M_add_29 : decode b_M_add 29 = .ok (.iload_n 1, 1) := by decide +kernel
theorem d_M_add_30 : decode b_M_add 30 = .ok (.iastore, 1) := by decide +kernel
theorem d_M_add_31 : decode b_M_add 31 = .ok (.aload_n 0, 1) := by decide +kernel
theorem d_M_add_32 : decode b_M_add 32 = .ok (.getfield 17, 3) := by decide +kernel
theorem d_M_add_35 : decode b_M_add 35 = .ok (.aload_n 0, 1) := by decide +kernel
theorem d_M_add_36 : decode b_M_add 36 = .ok (.getfield 58, 3) := by decide +kernel
theorem d_M_add_39 : decode b_M_add 39 = .ok (.iload_n 2, 1) := by decide +kernel
theorem d_M_add_40 : decode b_M_add 40 = .ok (.iastore, 1) := by decide +kernel
theorem d_M_add_41 : decode b_M_add 41 = .ok (.aload_n 0, 1) := by decide +kernel
theorem d_M_add_42 : decode b_M_add 42 = .ok (.getfield 20, 3) := by decide +kernel
theorem d_M_add_45 : decode b_M_add 45 = .ok (.aload_n 0, 1) := by decide +kernel
theorem d_M_add_46 : decode b_M_add 46 = .ok (.getfield 58, 3) := by decide +kernel
theorem d_M_add_49 : decode b_M_add 49 = .ok (.lload_n 3, 1) := by decide +kernel
theorem d_M_add_50 : decode b_M_add 50 = .ok (.lastore, 1) := by decide +kernel
theorem d_M_add_51 : decode b_M_add 51 = .ok (.aload_n 0, 1) := by decide +kernel
theorem d_M_add_52 : decode b_M_add 52 = .ok (.getfield 24, 3) := by decide +kernel
theorem d_M_add_55 : decode b_M_add 55 = .ok (.aload_n 0, 1) := by decide +kernel
theorem d_M_add_56 : decode b_M_add 56 = .ok (.getfield 58, 3) := by decide +kernel
theorem d_M_add_59 : decode b_M_add 59 = .ok (.lload 5, 2) := by decide +kernel
theorem d_M_add_61 : decode b_M_add 61 = .ok (.lastore, 1) := by decide +kernel
theorem d_M_add_62 : decode b_M_add 62 = .ok (.aload_n 0, 1) := by decide +kernel
theorem d_M_add_63 : decode b_M_add 63 = .ok (.getfield 27, 3) := by decide +kernel
theorem d_M_add_66 : decode b_M_add 66 = .ok (.aload_n 0, 1) := by decide +kernel
theorem d_M_add_67 : decode b_M_add 67 = .ok (.getfield 58, 3) := by decide +kernel
theorem d_M_add_70 : decode b_M_add 70 = .ok (.lload 7, 2) := by decide +kernel
theorem d_M_add_72 : decode b_M_add 72 = .ok (.lastore, 1) := by decide +kernel
theorem d_M_add_73 : decode b_M_add 73 = .ok (.aload_n 0, 1) := by decide +kernel
theorem d_M_add_74 : decode b_M_add 74 = .ok (.getfield 30, 3) := by decide +kernel
theorem d_M_add_77 : decode b_M_add 77 = .ok (.aload_n 0, 1) := by decide +kernel
theorem d_M_add_78 : decode b_M_add 78 = .ok (.getfield 58, 3) := by decide +kernel
theorem d_M_add_81 : decode b_M_add 81 = .ok (.lload 9, 2) := by decide +kernel
theorem d_M_add_83 : decode b_M_add 83 = .ok (.lastore, 1) := by decide +kernel
theorem d_M_add_84 : decode b_M_add 84 = .ok (.aload_n 0, 1) := by decide +kernel
theorem d_M_add_85 : decode b_M_add 85 = .ok (.getfield 33, 3) := by decide +kernel
theorem d_M_add_88 : decode b_M_add 88 = .ok (.aload_n 0, 1) := by decide +kernel
theorem d_M_add_89 : decode b_M_add 89 = .ok (.getfield 58, 3) := by decide +kernel
theorem d_M_add_92 : decode b_M_add 92 = .ok (.lload 11, 2) := by decide +kernel
theorem d_M_add_94 : decode b_M_add 94 = .ok (.lastore, 1) := by decide +kernel
theorem d_M_add_95 : decode b_M_add 95 = .ok (.aload_n 0, 1) := by decide +kernel
theorem d_M_add_96 : decode b_M_add 96 = .ok (.getfield 36, 3) := by decide +kernel
theorem d_M_add_99 : decode b_M_add 99 = .ok (.aload_n 0, 1) := by decide +kernel
theorem d_M_add_100 : decode b_M_add 100 = .ok (.getfield 58, 3) := by decide +kernel
theorem d_M_add_103 : decode b_M_add 103 = .ok (.iload 13, 2) := by decide +kernel
theorem d_M_add_105 : decode b_M_add 105 = .ok (.iastore, 1) := by decide +kernel
theorem d_M_add_106 : decode b_M_add 106 = .ok (.aload_n 0, 1) := by decide +kernel
theorem d_M_add_107 : decode b_M_add 107 = .ok (.dup, 1) := by decide +kernel
theorem d_M_add_108 : decode b_M_add 108 = .ok (.getfield 58, 3) := by decide +kernel
theorem d_M_add_111 : decode b_M_add 111 = .ok (.iconst 1, 1) := by decide +kernel
theorem d_M_add_112 : decode b_M_add 112 = .ok (.iadd, 1) := by decide +kernel
theorem d_M_add_113 : decode b_M_add 113 = .ok (.putfield 58, 3) := by decide +kernel
theorem d_M_add_116 : decode b_M_add 116 = .ok (.aload_n 0, 1) := by decide +kernel
theorem d_M_add_117 : decode b_M_add 117 = .ok (.getfield 58, 3) := by decide +kernel
theorem d_M_add_120 : decode b_M_add 120 = .ok (.iconst 1, 1) := by decide +kernel
theorem d_M_add_121 : decode b_M_add 121 = .ok (.isub, 1) := by decide +kernel
theorem d_M_add_122 : decode b_M_add 122 = .ok (.ireturn, 1) := by decide +kernel
theorem d_M_shape_0 : decode b_M_shape 0 = .ok (.lload_n 2, 1) := by decide +kernel
theorem d_M_shape_1 : decode b_M_shape 1 = .ok (.lload 4, 2) := by decide +kernel
theorem d_M_shape_3 : decode b_M_shape 3 = .ok (.invokestatic 65, 3) := by decide +kernel
theorem d_M_shape_6 : decode b_M_shape 6 = .ok (.ifCond .eq 23, 3) := by decide +kernel
theorem d_M_shape_9 : decode b_M_shape 9 = .ok (.lload 6, 2) := by decide +kernel
theorem d_M_shape_11 : decode b_M_shape 11 = .ok (.invokestatic 69, 3) := by decide +kernel
theorem d_M_shape_14 : decode b_M_shape 14 = .ok (.ifCond .eq 15, 3) := by decide +kernel
theorem d_M_shape_17 : decode b_M_shape 17 = .ok (.lload 8, 2) := by decide +kernel
theorem d_M_shape_19 : decode b_M_shape 19 = .ok (.invokestatic 69, 3) := by decide +kernel
theorem d_M_shape_22 : decode b_M_shape 22 = .ok (.ifCond .eq 7, 3) := by decide +kernel
theorem d_M_shape_25 : decode b_M_shape 25 = .ok (.iconst 1, 1) := by decide +kernel
theorem d_M_shape_26 : decode b_M_shape 26 = .ok (.goto 4, 3) := by decide +kernel
theorem d_M_shape_29 : decode b_M_shape 29 = .ok (.iconst 0, 1) := by decide +kernel
theorem d_M_shape_30 : decode b_M_shape 30 = .ok (.istore 10, 2) := by decide +kernel
theorem d_M_shape_32 : decode b_M_shape 32 = .ok (.aload_n 0, 1) := by decide +kernel
theorem d_M_shape_33 : decode b_M_shape 33 = .ok (.aload_n 0, 1) := by decide +kernel
theorem d_M_shape_34 : decode b_M_shape 34 = .ok (.iload_n 1, 1) := by decide +kernel
theorem d_M_shape_35 : decode b_M_shape 35 = .ok (.invokevirtual 73, 3) := by decide +kernel
theorem d_M_shape_38 : decode b_M_shape 38 = .ok (.ifCond .ne 7, 3) := by decide +kernel
theorem d_M_shape_41 : decode b_M_shape 41 = .ok (.iconst 1, 1) := by decide +kernel
theorem d_M_shape_42 : decode b_M_shape 42 = .ok (.goto 13, 3) := by decide +kernel
theorem d_M_shape_45 : decode b_M_shape 45 = .ok (.iload 10, 2) := by decide +kernel
theorem d_M_shape_47 : decode b_M_shape 47 = .ok (.ifCond .eq 7, 3) := by decide +kernel
theorem d_M_shape_50 : decode b_M_shape 50 = .ok (.iconst 0, 1) := by decide +kernel
theorem d_M_shape_51 : decode b_M_shape 51 = .ok (.goto 4, 3) := by decide +kernel
theorem d_M_shape_54 : decode b_M_shape 54 = .ok (.iconst 2, 1) := by decide +kernel
theorem d_M_shape_55 : decode b_M_shape 55 = .ok (.putfield 55, 3) := by decide +kernel
theorem d_M_shape_58 : decode b_M_shape 58 = .ok (.aload_n 0, 1) := by decide +kernel
theorem d_M_shape_59 : decode b_M_shape 59 = .ok (.getfield 55, 3) := by decide +kernel
theorem d_M_shape_62 : decode b_M_shape 62 = .ok (.ifCond .ne 21, 3) := by decide +kernel
theorem d_M_shape_65 : decode b_M_shape 65 = .ok (.aload_n 0, 1) := by decide +kernel
theorem d_M_shape_66 : decode b_M_shape 66 = .ok (.iload_n 1, 1) := by decide +kernel
theorem d_M_shape_67 : decode b_M_shape 67 = .ok (.iload_n 1, 1) := by decide +kernel
theorem d_M_shape_68 : decode b_M_shape 68 = .ok (.lload_n 2, 1) := by decide +kernel
theorem d_M_shape_69 : decode b_M_shape 69 = .ok (.lload 4, 2) := by decide +kernel
theorem d_M_shape_71 : decode b_M_shape 71 = .ok (.lload 6, 2) := by decide +kernel
theorem d_M_shape_73 : decode b_M_shape 73 = .ok (.lload 8, 2) := by decide +kernel
theorem d_M_shape_75 : decode b_M_shape 75 = .ok (.lconst 0, 1) := by decide +kernel
theorem d_M_shape_76 : decode b_M_shape 76 = .ok (.iconst (-1), 1) := by decide +kernel
theorem d_M_shape_77 : decode b_M_shape 77 = .ok (.invokevirtual 77, 3) := by decide +kernel
theorem d_M_shape_80 : decode b_M_shape 80 = .ok (.goto 4, 3) := by decide +kernel
theorem d_M_shape_83 : decode b_M_shape 83 = .ok (.iconst 0, 1) := by decide +kernel
theorem d_M_shape_84 : decode b_M_shape 84 = .ok (.ireturn, 1) := by decide +kernel
theorem d_M_via_0 : decode b_M_via 0 = .ok (.iload_n 1, 1) := by decide +kernel
theorem d_M_via_1 : decode b_M_via 1 = .ok (.iload_n 2, 1) := by decide +kernel
theorem d_M_via_2 : decode b_M_via 2 = .ok (.if_icmp .gt 24, 3) := by decide +kernel
theorem d_M_via_5 : decode b_M_via 5 = .ok (.lload_n 3, 1) := by decide +kernel
theorem d_M_via_6 : decode b_M_via 6 = .ok (.lload 5, 2) := by decide +kernel
theorem d_M_via_8 : decode b_M_via 8 = .ok (.invokestatic 65, 3) := by decide +kernel
theorem d_M_via_11 : decode b_M_via 11 = .ok (.ifCond .eq 15, 3) := by decide +kernel
theorem d_M_via_14 : decode b_M_via 14 = .ok (.lload 7, 2) := by decide +kernel
theorem d_M_via_16 : decode b_M_via 16 = .ok (.invokestatic 69, 3) := by decide +kernel
theorem d_M_via_19 : decode b_M_via 19 = .ok (.ifCond .eq 7, 3) := by decide +kernel
theorem d_M_via_22 : decode b_M_via 22 = .ok (.iconst 1, 1) := by decide +kernel
theorem d_M_via_23 : decode b_M_via 23 = .ok (.goto 4, 3) := by decide +kernel
theorem d_M_via_26 : decode b_M_via 26 = .ok (.iconst 0, 1) := by decide +kernel
theorem d_M_via_27 : decode b_M_via 27 = .ok (.istore 9, 2) := by decide +kernel
theorem d_M_via_29 : decode b_M_via 29 = .ok (.aload_n 0, 1) := by decide +kernel
theorem d_M_via_30 : decode b_M_via 30 = .ok (.aload_n 0, 1) := by decide +kernel
theorem d_M_via_31 : decode b_M_via 31 = .ok (.iload_n 1, 1) := by decide +kernel
theorem d_M_via_32 : decode b_M_via 32 = .ok (.invokevirtual 73, 3) := by decide +kernel
theorem d_M_via_35 : decode b_M_via 35 = .ok (.ifCond .eq 11, 3) := by decide +kernel
theorem d_M_via_38 : decode b_M_via 38 = .ok (.aload_n 0, 1) := by decide +kernel
theorem d_M_via_39 : decode b_M_via 39 = .ok (.iload_n 2, 1) := by decide +kernel
theorem d_M_via_40 : decode b_M_via 40 = .ok (.invokevirtual 73, 3) := by decide +kernel
theorem d_M_via_43 : decode b_M_via 43 = .ok (.ifCond .ne 7, 3) := by decide +kernel
theorem d_M_via_46 : decode b_M_via 46 = .ok (.iconst 1, 1) := by decide +kernel
theorem d_M_via_47 : decode b_M_via 47 = .ok (.goto 13, 3) := by decide +kernel
theorem d_M_via_50 : decode b_M_via 50 = .ok (.iload 9, 2) := by decide +kernel
theorem d_M_via_52 : decode b_M_via 52 = .ok (.ifCond .eq 7, 3) := by decide +kernel
theorem d_M_via_55 : decode b_M_via 55 = .ok (.iconst 0, 1) := by decide +kernel
theorem d_M_via_56 : decode b_M_via 56 = .ok (.goto 4, 3) := by decide +kernel
theorem d_M_via_59 : decode b_M_via 59 = .ok (.iconst 2, 1) := by decide +kernel
theorem d_M_via_60 : decode b_M_via 60 = .ok (.putfield 55, 3) := by decide +kernel
theorem d_M_via_63 : decode b_M_via 63 = .ok (.aload_n 0, 1) := by decide +kernel
theorem d_M_via_64 : decode b_M_via 64 = .ok (.getfield 55, 3) := by decide +kernel
theorem d_M_via_67 : decode b_M_via 67 = .ok (.ifCond .ne 20, 3) := by decide +kernel
theorem d_M_via_70 : decode b_M_via 70 = .ok (.aload_n 0, 1) := by decide +kernel
theorem d_M_via_71 : decode b_M_via 71 = .ok (.iload_n 1, 1) := by decide +kernel
theorem d_M_via_72 : decode b_M_via 72 = .ok (.iload_n 2, 1) := by decide +kernel
theorem d_M_via_73 : decode b_M_via 73 = .ok (.lload_n 3, 1) := by decide +kernel
theorem d_M_via_74 : decode b_M_via 74 = .ok (.lload 5, 2) := by decide +kernel
theorem d_M_via_76 : decode b_M_via 76 = .ok (.lconst 0, 1) := by decide +kernel
theorem d_M_via_77 : decode b_M_via 77 = .ok (.lconst 0, 1) := by decide +kernel
theorem d_M_via_78 : decode b_M_via 78 = .ok (.lload 7, 2) := by decide +kernel
theorem d_M_via_80 : decode b_M_via 80 = .ok (.iconst (-1), 1) := by decide +kernel
theorem d_M_via_81 : decode b_M_via 81 = .ok (.invokevirtual 77, 3) := by decide +kernel
theorem d_M_via_84 : decode b_M_via 84 = .ok (.goto 4, 3) := by decide +kernel
theorem d_M_via_87 : decode b_M_via 87 = .ok (.iconst 0, 1) := by decide +kernel
theorem d_M_via_88 : decode b_M_via 88 = .ok (.ireturn, 1) := by decide +kernel
theorem d_M_isPin_0 : decode b_M_isPin 0 = .ok (.iload_n 0, 1) := by decide +kernel
theorem d_M_isPin_1 : decode b_M_isPin 1 = .ok (.ifCond .lt 13, 3) := by decide +kernel
theorem d_M_isPin_4 : decode b_M_isPin 4 = .ok (.iload_n 0, 1) := by decide +kernel
theorem d_M_isPin_5 : decode b_M_isPin 5 = .ok (.bipush 40, 2) := by decide +kernel
theorem d_M_isPin_7 : decode b_M_isPin 7 = .ok (.if_icmp .ge 7, 3) := by decide +kernel
theorem d_M_isPin_10 : decode b_M_isPin 10 = .ok (.iconst 1, 1) := by decide +kernel
theorem d_M_isPin_11 : decode b_M_isPin 11 = .ok (.goto 4, 3) := by decide +kernel
theorem d_M_isPin_14 : decode b_M_isPin 14 = .ok (.iconst 0, 1) := by decide +kernel
theorem d_M_isPin_15 : decode b_M_isPin 15 = .ok (.ireturn, 1) := by decide +kernel
theorem d_M_pad_0 : decode b_M_pad 0 = .ok (.aload_n 0, 1) := by decide +kernel
theorem d_M_pad_1 : decode b_M_pad 1 = .ok (.iload_n 1, 1) := by decide +kernel
theorem d_M_pad_2 : decode b_M_pad 2 = .ok (.invokestatic 81, 3) := by decide +kernel
theorem d_M_pad_5 : decode b_M_pad 5 = .ok (.ifCond .eq 11, 3) := by decide +kernel
theorem d_M_pad_8 : decode b_M_pad 8 = .ok (.aload_n 0, 1) := by decide +kernel
theorem d_M_pad_9 : decode b_M_pad 9 = .ok (.iload_n 2, 1) := by decide +kernel
theorem d_M_pad_10 : decode b_M_pad 10 = .ok (.invokevirtual 73, 3) := by decide +kernel
theorem d_M_pad_13 : decode b_M_pad 13 = .ok (.ifCond .ne 7, 3) := by decide +kernel
theorem d_M_pad_16 : decode b_M_pad 16 = .ok (.iconst 1, 1) := by decide +kernel
theorem d_M_pad_17 : decode b_M_pad 17 = .ok (.goto 25, 3) := by decide +kernel
theorem d_M_pad_20 : decode b_M_pad 20 = .ok (.lload_n 3, 1) := by decide +kernel
theorem d_M_pad_21 : decode b_M_pad 21 = .ok (.lload 5, 2) := by decide +kernel
theorem d_M_pad_23 : decode b_M_pad 23 = .ok (.invokestatic 65, 3) := by decide +kernel
theorem d_M_pad_26 : decode b_M_pad 26 = .ok (.ifCond .eq 15, 3) := by decide +kernel
theorem d_M_pad_29 : decode b_M_pad 29 = .ok (.lload 7, 2) := by decide +kernel
theorem d_M_pad_31 : decode b_M_pad 31 = .ok (.invokestatic 69, 3) := by decide +kernel
theorem d_M_pad_34 : decode b_M_pad 34 = .ok (.ifCond .eq 7, 3) := by decide +kernel
theorem d_M_pad_37 : decode b_M_pad 37 = .ok (.iconst 0, 1) := by decide +kernel
theorem d_M_pad_38 : decode b_M_pad 38 = .ok (.goto 4, 3) := by decide +kernel
theorem d_M_pad_41 : decode b_M_pad 41 = .ok (.iconst 2, 1) := by decide +kernel
theorem d_M_pad_42 : decode b_M_pad 42 = .ok (.putfield 55, 3) := by decide +kernel
theorem d_M_pad_45 : decode b_M_pad 45 = .ok (.aload_n 0, 1) := by decide +kernel
theorem d_M_pad_46 : decode b_M_pad 46 = .ok (.getfield 55, 3) := by decide +kernel
theorem d_M_pad_49 : decode b_M_pad 49 = .ok (.ifCond .ne 20, 3) := by decide +kernel
theorem d_M_pad_52 : decode b_M_pad 52 = .ok (.aload_n 0, 1) := by decide +kernel
theorem d_M_pad_53 : decode b_M_pad 53 = .ok (.iload_n 2, 1) := by decide +kernel
theorem d_M_pad_54 : decode b_M_pad 54 = .ok (.iload_n 2, 1) := by decide +kernel
theorem d_M_pad_55 : decode b_M_pad 55 = .ok (.lload_n 3, 1) := by decide +kernel
theorem d_M_pad_56 : decode b_M_pad 56 = .ok (.lload 5, 2) := by decide +kernel
theorem d_M_pad_58 : decode b_M_pad 58 = .ok (.lconst 0, 1) := by decide +kernel
theorem d_M_pad_59 : decode b_M_pad 59 = .ok (.lconst 0, 1) := by decide +kernel
theorem d_M_pad_60 : decode b_M_pad 60 = .ok (.lload 7, 2) := by decide +kernel
theorem d_M_pad_62 : decode b_M_pad 62 = .ok (.iload_n 1, 1) := by decide +kernel
theorem d_M_pad_63 : decode b_M_pad 63 = .ok (.invokevirtual 77, 3) := by decide +kernel
theorem d_M_pad_66 : decode b_M_pad 66 = .ok (.goto 4, 3) := by decide +kernel
theorem d_M_pad_69 : decode b_M_pad 69 = .ok (.iconst 0, 1) := by decide +kernel
theorem d_M_pad_70 : decode b_M_pad 70 = .ok (.ireturn, 1) := by decide +kernel
theorem d_M_isNet_0 : decode b_M_isNet 0 = .ok (.iload_n 0, 1) := by decide +kernel
theorem d_M_isNet_1 : decode b_M_isNet 1 = .ok (.ifCond .lt 13, 3) := by decide +kernel
theorem d_M_isNet_4 : decode b_M_isNet 4 = .ok (.iload_n 0, 1) := by decide +kernel
theorem d_M_isNet_5 : decode b_M_isNet 5 = .ok (.bipush 20, 2) := by decide +kernel
theorem d_M_isNet_7 : decode b_M_isNet 7 = .ok (.if_icmp .ge 7, 3) := by decide +kernel
theorem d_M_isNet_10 : decode b_M_isNet 10 = .ok (.iconst 1, 1) := by decide +kernel
theorem d_M_isNet_11 : decode b_M_isNet 11 = .ok (.goto 4, 3) := by decide +kernel
theorem d_M_isNet_14 : decode b_M_isNet 14 = .ok (.iconst 0, 1) := by decide +kernel
theorem d_M_isNet_15 : decode b_M_isNet 15 = .ok (.ireturn, 1) := by decide +kernel
theorem d_M_plans_0 : decode b_M_plans 0 = .ok (.aload_n 0, 1) := by decide +kernel
theorem d_M_plans_1 : decode b_M_plans 1 = .ok (.iload_n 1, 1) := by decide +kernel
theorem d_M_plans_2 : decode b_M_plans 2 = .ok (.invokestatic 81, 3) := by decide +kernel
theorem d_M_plans_5 : decode b_M_plans 5 = .ok (.ifCond .ne 7, 3) := by decide +kernel
theorem d_M_plans_8 : decode b_M_plans 8 = .ok (.iconst 1, 1) := by decide +kernel
theorem d_M_plans_9 : decode b_M_plans 9 = .ok (.goto 20, 3) := by decide +kernel
theorem d_M_plans_12 : decode b_M_plans 12 = .ok (.iload_n 2, 1) := by decide +kernel
theorem d_M_plans_13 : decode b_M_plans 13 = .ok (.iconst (-1), 1) := by decide +kernel
theorem d_M_plans_14 : decode b_M_plans 14 = .ok (.if_icmp .eq 10, 3) := by decide +kernel
theorem d_M_plans_17 : decode b_M_plans 17 = .ok (.iload_n 2, 1) := by decide +kernel
theorem d_M_plans_18 : decode b_M_plans 18 = .ok (.invokestatic 84, 3) := by decide +kernel
theorem d_M_plans_21 : decode b_M_plans 21 = .ok (.ifCond .eq 7, 3) := by decide +kernel
theorem d_M_plans_24 : decode b_M_plans 24 = .ok (.iconst 0, 1) := by decide +kernel
theorem d_M_plans_25 : decode b_M_plans 25 = .ok (.goto 4, 3) := by decide +kernel
theorem d_M_plans_28 : decode b_M_plans 28 = .ok (.iconst 2, 1) := by decide +kernel
theorem d_M_plans_29 : decode b_M_plans 29 = .ok (.putfield 55, 3) := by decide +kernel
theorem d_M_plans_32 : decode b_M_plans 32 = .ok (.aload_n 0, 1) := by decide +kernel
theorem d_M_plans_33 : decode b_M_plans 33 = .ok (.getfield 55, 3) := by decide +kernel
theorem d_M_plans_36 : decode b_M_plans 36 = .ok (.ifCond .ne 13, 3) := by decide +kernel
theorem d_M_plans_39 : decode b_M_plans 39 = .ok (.aload_n 0, 1) := by decide +kernel
theorem d_M_plans_40 : decode b_M_plans 40 = .ok (.getfield 39, 3) := by decide +kernel
theorem d_M_plans_43 : decode b_M_plans 43 = .ok (.iload_n 1, 1) := by decide +kernel
theorem d_M_plans_44 : decode b_M_plans 44 = .ok (.iaload, 1) := by decide +kernel
theorem d_M_plans_45 : decode b_M_plans 45 = .ok (.iload_n 2, 1) := by decide +kernel
theorem d_M_plans_46 : decode b_M_plans 46 = .ok (.if_icmp .ne 5, 3) := by decide +kernel
theorem d_M_plans_49 : decode b_M_plans 49 = .ok (.iconst 0, 1) := by decide +kernel
theorem d_M_plans_50 : decode b_M_plans 50 = .ok (.ireturn, 1) := by decide +kernel
theorem d_M_plans_51 : decode b_M_plans 51 = .ok (.aload_n 0, 1) := by decide +kernel
theorem d_M_plans_52 : decode b_M_plans 52 = .ok (.getfield 39, 3) := by decide +kernel
theorem d_M_plans_55 : decode b_M_plans 55 = .ok (.iload_n 1, 1) := by decide +kernel
theorem d_M_plans_56 : decode b_M_plans 56 = .ok (.iload_n 2, 1) := by decide +kernel
theorem d_M_plans_57 : decode b_M_plans 57 = .ok (.iastore, 1) := by decide +kernel
theorem d_M_plans_58 : decode b_M_plans 58 = .ok (.iconst 1, 1) := by decide +kernel
theorem d_M_plans_59 : decode b_M_plans 59 = .ok (.ireturn, 1) := by decide +kernel
theorem d_M_isPiece_0 : decode b_M_isPiece 0 = .ok (.iload_n 1, 1) := by decide +kernel
theorem d_M_isPiece_1 : decode b_M_isPiece 1 = .ok (.ifCond .lt 15, 3) := by decide +kernel
theorem d_M_isPiece_4 : decode b_M_isPiece 4 = .ok (.iload_n 1, 1) := by decide +kernel
theorem d_M_isPiece_5 : decode b_M_isPiece 5 = .ok (.aload_n 0, 1) := by decide +kernel
theorem d_M_isPiece_6 : decode b_M_isPiece 6 = .ok (.getfield 58, 3) := by decide +kernel
theorem d_M_isPiece_9 : decode b_M_isPiece 9 = .ok (.if_icmp .ge 7, 3) := by decide +kernel
theorem d_M_isPiece_12 : decode b_M_isPiece 12 = .ok (.iconst 1, 1) := by decide +kernel
theorem d_M_isPiece_13 : decode b_M_isPiece 13 = .ok (.goto 4, 3) := by decide +kernel
theorem d_M_isPiece_16 : decode b_M_isPiece 16 = .ok (.iconst 0, 1) := by decide +kernel
theorem d_M_isPiece_17 : decode b_M_isPiece 17 = .ok (.ireturn, 1) := by decide +kernel
theorem d_M_drop_0 : decode b_M_drop 0 = .ok (.aload_n 0, 1) := by decide +kernel
theorem d_M_drop_1 : decode b_M_drop 1 = .ok (.aload_n 0, 1) := by decide +kernel
theorem d_M_drop_2 : decode b_M_drop 2 = .ok (.iload_n 1, 1) := by decide +kernel
theorem d_M_drop_3 : decode b_M_drop 3 = .ok (.invokevirtual 87, 3) := by decide +kernel
theorem d_M_drop_6 : decode b_M_drop 6 = .ok (.ifCond .eq 7, 3) := by decide +kernel
theorem d_M_drop_9 : decode b_M_drop 9 = .ok (.iconst 0, 1) := by decide +kernel
theorem d_M_drop_10 : decode b_M_drop 10 = .ok (.goto 4, 3) := by decide +kernel
theorem d_M_drop_13 : decode b_M_drop 13 = .ok (.iconst 1, 1) := by decide +kernel
theorem d_M_drop_14 : decode b_M_drop 14 = .ok (.putfield 55, 3) := by decide +kernel
theorem d_M_drop_17 : decode b_M_drop 17 = .ok (.aload_n 0, 1) := by decide +kernel
theorem d_M_drop_18 : decode b_M_drop 18 = .ok (.getfield 55, 3) := by decide +kernel
theorem d_M_drop_21 : decode b_M_drop 21 = .ok (.ifCond .ne 12, 3) := by decide +kernel
theorem d_M_drop_24 : decode b_M_drop 24 = .ok (.aload_n 0, 1) := by decide +kernel
theorem d_M_drop_25 : decode b_M_drop 25 = .ok (.getfield 7, 3) := by decide +kernel
theorem d_M_drop_28 : decode b_M_drop 28 = .ok (.iload_n 1, 1) := by decide +kernel
theorem d_M_drop_29 : decode b_M_drop 29 = .ok (.baload, 1) := by decide +kernel
theorem d_M_drop_30 : decode b_M_drop 30 = .ok (.ifCond .ne 5, 3) := by decide +kernel
theorem d_M_drop_33 : decode b_M_drop 33 = .ok (.iconst 0, 1) := by decide +kernel
theorem d_M_drop_34 : decode b_M_drop 34 = .ok (.ireturn, 1) := by decide +kernel
theorem d_M_drop_35 : decode b_M_drop 35 = .ok (.aload_n 0, 1) := by decide +kernel
theorem d_M_drop_36 : decode b_M_drop 36 = .ok (.getfield 7, 3) := by decide +kernel
theorem d_M_drop_39 : decode b_M_drop 39 = .ok (.iload_n 1, 1) := by decide +kernel
theorem d_M_drop_40 : decode b_M_drop 40 = .ok (.iconst 0, 1) := by decide +kernel
theorem d_M_drop_41 : decode b_M_drop 41 = .ok (.bastore, 1) := by decide +kernel
theorem d_M_drop_42 : decode b_M_drop 42 = .ok (.iconst 1, 1) := by decide +kernel
theorem d_M_drop_43 : decode b_M_drop 43 = .ok (.ireturn, 1) := by decide +kernel
theorem d_M_gap_0 : decode b_M_gap 0 = .ok (.lload 4, 2) := by decide +kernel
theorem d_M_gap_2 : decode b_M_gap 2 = .ok (.lload_n 2, 1) := by decide +kernel
theorem d_M_gap_3 : decode b_M_gap 3 = .ok (.lcmp, 1) := by decide +kernel
theorem d_M_gap_4 : decode b_M_gap 4 = .ok (.ifCond .le 10, 3) := by decide +kernel
theorem d_M_gap_7 : decode b_M_gap 7 = .ok (.lload 4, 2) := by decide +kernel
theorem d_M_gap_9 : decode b_M_gap 9 = .ok (.lload_n 2, 1) := by decide +kernel
theorem d_M_gap_10 : decode b_M_gap 10 = .ok (.lsub, 1) := by decide +kernel
theorem d_M_gap_11 : decode b_M_gap 11 = .ok (.goto 18, 3) := by decide +kernel
theorem d_M_gap_14 : decode b_M_gap 14 = .ok (.lload_n 0, 1) := by decide +kernel
theorem d_M_gap_15 : decode b_M_gap 15 = .ok (.lload 6, 2) := by decide +kernel
theorem d_M_gap_17 : decode b_M_gap 17 = .ok (.lcmp, 1) := by decide +kernel
theorem d_M_gap_18 : decode b_M_gap 18 = .ok (.ifCond .le 10, 3) := by decide +kernel
theorem d_M_gap_21 : decode b_M_gap 21 = .ok (.lload_n 0, 1) := by decide +kernel
theorem d_M_gap_22 : decode b_M_gap 22 = .ok (.lload 6, 2) := by decide +kernel
theorem d_M_gap_24 : decode b_M_gap 24 = .ok (.lsub, 1) := by decide +kernel
theorem d_M_gap_25 : decode b_M_gap 25 = .ok (.goto 4, 3) := by decide +kernel
theorem d_M_gap_28 : decode b_M_gap 28 = .ok (.lconst 0, 1) := by decide +kernel
theorem d_M_gap_29 : decode b_M_gap 29 = .ok (.lreturn, 1) := by decide +kernel
theorem d_M_touch_0 : decode b_M_touch 0 = .ok (.aload_n 0, 1) := by decide +kernel
theorem d_M_touch_1 : decode b_M_touch 1 = .ok (.getfield 7, 3) := by decide +kernel
theorem d_M_touch_4 : decode b_M_touch 4 = .ok (.iload_n 1, 1) := by decide +kernel
theorem d_M_touch_5 : decode b_M_touch 5 = .ok (.baload, 1) := by decide +kernel
theorem d_M_touch_6 : decode b_M_touch 6 = .ok (.ifCond .eq 42, 3) := by decide +kernel
theorem d_M_touch_9 : decode b_M_touch 9 = .ok (.aload_n 0, 1) := by decide +kernel
theorem d_M_touch_10 : decode b_M_touch 10 = .ok (.getfield 7, 3) := by decide +kernel
theorem d_M_touch_13 : decode b_M_touch 13 = .ok (.iload_n 2, 1) := by decide +kernel
theorem d_M_touch_14 : decode b_M_touch 14 = .ok (.baload, 1) := by decide +kernel
theorem d_M_touch_15 : decode b_M_touch 15 = .ok (.ifCond .eq 33, 3) := by decide +kernel
theorem d_M_touch_18 : decode b_M_touch 18 = .ok (.aload_n 0, 1) := by decide +kernel
theorem d_M_touch_19 : decode b_M_touch 19 = .ok (.getfield 13, 3) := by decide +kernel
theorem d_M_touch_22 : decode b_M_touch 22 = .ok (.iload_n 1, 1) := by decide +kernel
theorem d_M_touch_23 : decode b_M_touch 23 = .ok (.iaload, 1) := by decide +kernel
theorem d_M_touch_24 : decode b_M_touch 24 = .ok (.aload_n 0, 1) := by decide +kernel
theorem d_M_touch_25 : decode b_M_touch 25 = .ok (.getfield 17, 3) := by decide +kernel
theorem d_M_touch_28 : decode b_M_touch 28 = .ok (.iload_n 2, 1) := by decide +kernel
theorem d_M_touch_29 : decode b_M_touch 29 = .ok (.iaload, 1) := by decide +kernel
theorem d_M_touch_30 : decode b_M_touch 30 = .ok (.if_icmp .gt 18, 3) := by decide +kernel
theorem d_M_touch_33 : decode b_M_touch 33 = .ok (.aload_n 0, 1) := by decide +kernel
theorem d_M_touch_34 : decode b_M_touch 34 = .ok (.getfield 13, 3) := by decide +kernel
theorem d_M_touch_37 : decode b_M_touch 37 = .ok (.iload_n 2, 1) := by decide +kernel
theorem d_M_touch_38 : decode b_M_touch 38 = .ok (.iaload, 1) := by decide +kernel
theorem d_M_touch_39 : decode b_M_touch 39 = .ok (.aload_n 0, 1) := by decide +kernel
theorem d_M_touch_40 : decode b_M_touch 40 = .ok (.getfield 17, 3) := by decide +kernel
theorem d_M_touch_43 : decode b_M_touch 43 = .ok (.iload_n 1, 1) := by decide +kernel
theorem d_M_touch_44 : decode b_M_touch 44 = .ok (.iaload, 1) := by decide +kernel
theorem d_M_touch_45 : decode b_M_touch 45 = .ok (.if_icmp .le 5, 3) := by decide +kernel
theorem d_M_touch_48 : decode b_M_touch 48 = .ok (.iconst 0, 1) := by decide +kernel
theorem d_M_touch_49 : decode b_M_touch 49 = .ok (.ireturn, 1) := by decide +kernel
theorem d_M_touch_50 : decode b_M_touch 50 = .ok (.aload_n 0, 1) := by decide +kernel
theorem d_M_touch_51 : decode b_M_touch 51 = .ok (.getfield 20, 3) := by decide +kernel
theorem d_M_touch_54 : decode b_M_touch 54 = .ok (.iload_n 1, 1) := by decide +kernel
theorem d_M_touch_55 : decode b_M_touch 55 = .ok (.laload, 1) := by decide +kernel
theorem d_M_touch_56 : decode b_M_touch 56 = .ok (.aload_n 0, 1) := by decide +kernel
theorem d_M_touch_57 : decode b_M_touch 57 = .ok (.getfield 20, 3) := by decide +kernel
theorem d_M_touch_60 : decode b_M_touch 60 = .ok (.iload_n 1, 1) := by decide +kernel
theorem d_M_touch_61 : decode b_M_touch 61 = .ok (.laload, 1) := by decide +kernel
theorem d_M_touch_62 : decode b_M_touch 62 = .ok (.aload_n 0, 1) := by decide +kernel
theorem d_M_touch_63 : decode b_M_touch 63 = .ok (.getfield 27, 3) := by decide +kernel
theorem d_M_touch_66 : decode b_M_touch 66 = .ok (.iload_n 1, 1) := by decide +kernel
theorem d_M_touch_67 : decode b_M_touch 67 = .ok (.laload, 1) := by decide +kernel
theorem d_M_touch_68 : decode b_M_touch 68 = .ok (.ladd, 1) := by decide +kernel
theorem d_M_touch_69 : decode b_M_touch 69 = .ok (.aload_n 0, 1) := by decide +kernel
theorem d_M_touch_70 : decode b_M_touch 70 = .ok (.getfield 20, 3) := by decide +kernel
theorem d_M_touch_73 : decode b_M_touch 73 = .ok (.iload_n 2, 1) := by decide +kernel
theorem d_M_touch_74 : decode b_M_touch 74 = .ok (.laload, 1) := by decide +kernel
theorem d_M_touch_75 : decode b_M_touch 75 = .ok (.aload_n 0, 1) := by decide +kernel
theorem d_M_touch_76 : decode b_M_touch 76 = .ok (.getfield 20, 3) := by decide +kernel
theorem d_M_touch_79 : decode b_M_touch 79 = .ok (.iload_n 2, 1) := by decide +kernel
theorem d_M_touch_80 : decode b_M_touch 80 = .ok (.laload, 1) := by decide +kernel
theorem d_M_touch_81 : decode b_M_touch 81 = .ok (.aload_n 0, 1) := by decide +kernel
theorem d_M_touch_82 : decode b_M_touch 82 = .ok (.getfield 27, 3) := by decide +kernel
theorem d_M_touch_85 : decode b_M_touch 85 = .ok (.iload_n 2, 1) := by decide +kernel
theorem d_M_touch_86 : decode b_M_touch 86 = .ok (.laload, 1) := by decide +kernel
theorem d_M_touch_87 : decode b_M_touch 87 = .ok (.ladd, 1) := by decide +kernel
theorem d_M_touch_88 : decode b_M_touch 88 = .ok (.invokestatic 90, 3) := by decide +kernel
theorem d_M_touch_91 : decode b_M_touch 91 = .ok (.lstore_n 3, 1) := by decide +kernel
theorem d_M_touch_92 : decode b_M_touch 92 = .ok (.aload_n 0, 1) := by decide +kernel
theorem d_M_touch_93 : decode b_M_touch 93 = .ok (.getfield 24, 3) := by decide +kernel
theorem d_M_touch_96 : decode b_M_touch 96 = .ok (.iload_n 1, 1) := by decide +kernel
theorem d_M_touch_97 : decode b_M_touch 97 = .ok (.laload, 1) := by decide +kernel
theorem d_M_touch_98 : decode b_M_touch 98 = .ok (.aload_n 0, 1) := by decide +kernel
theorem d_M_touch_99 : decode b_M_touch 99 = .ok (.getfield 24, 3) := by decide +kernel
theorem d_M_touch_102 : decode b_M_touch 102 = .ok (.iload_n 1, 1) := by decide +kernel
theorem d_M_touch_103 : decode b_M_touch 103 = .ok (.laload, 1) := by decide +kernel
theorem d_M_touch_104 : decode b_M_touch 104 = .ok (.aload_n 0, 1) := by decide +kernel
theorem d_M_touch_105 : decode b_M_touch 105 = .ok (.getfield 30, 3) := by decide +kernel
theorem d_M_touch_108 : decode b_M_touch 108 = .ok (.iload_n 1, 1) := by decide +kernel
theorem d_M_touch_109 : decode b_M_touch 109 = .ok (.laload, 1) := by decide +kernel
theorem d_M_touch_110 : decode b_M_touch 110 = .ok (.ladd, 1) := by decide +kernel
theorem d_M_touch_111 : decode b_M_touch 111 = .ok (.aload_n 0, 1) := by decide +kernel
theorem d_M_touch_112 : decode b_M_touch 112 = .ok (.getfield 24, 3) := by decide +kernel
theorem d_M_touch_115 : decode b_M_touch 115 = .ok (.iload_n 2, 1) := by decide +kernel
theorem d_M_touch_116 : decode b_M_touch 116 = .ok (.laload, 1) := by decide +kernel
theorem d_M_touch_117 : decode b_M_touch 117 = .ok (.aload_n 0, 1) := by decide +kernel
theorem d_M_touch_118 : decode b_M_touch 118 = .ok (.getfield 24, 3) := by decide +kernel
theorem d_M_touch_121 : decode b_M_touch 121 = .ok (.iload_n 2, 1) := by decide +kernel
theorem d_M_touch_122 : decode b_M_touch 122 = .ok (.laload, 1) := by decide +kernel
theorem d_M_touch_123 : decode b_M_touch 123 = .ok (.aload_n 0, 1) := by decide +kernel
theorem d_M_touch_124 : decode b_M_touch 124 = .ok (.getfield 30, 3) := by decide +kernel
theorem d_M_touch_127 : decode b_M_touch 127 = .ok (.iload_n 2, 1) := by decide +kernel
theorem d_M_touch_128 : decode b_M_touch 128 = .ok (.laload, 1) := by decide +kernel
theorem d_M_touch_129 : decode b_M_touch 129 = .ok (.ladd, 1) := by decide +kernel
theorem d_M_touch_130 : decode b_M_touch 130 = .ok (.invokestatic 90, 3) := by decide +kernel
theorem d_M_touch_133 : decode b_M_touch 133 = .ok (.lstore 5, 2) := by decide +kernel
theorem d_M_touch_135 : decode b_M_touch 135 = .ok (.aload_n 0, 1) := by decide +kernel
theorem d_M_touch_136 : decode b_M_touch 136 = .ok (.getfield 33, 3) := by decide +kernel
theorem d_M_touch_139 : decode b_M_touch 139 = .ok (.iload_n 1, 1) := by decide +kernel
theorem d_M_touch_140 : decode b_M_touch 140 = .ok (.laload, 1) := by decide +kernel
theorem d_M_touch_141 : decode b_M_touch 141 = .ok (.aload_n 0, 1) := by decide +kernel
theorem d_M_touch_142 : decode b_M_touch 142 = .ok (.getfield 33, 3) := by decide +kernel
theorem d_M_touch_145 : decode b_M_touch 145 = .ok (.iload_n 2, 1) := by decide +kernel
theorem d_M_touch_146 : decode b_M_touch 146 = .ok (.laload, 1) := by decide +kernel
theorem d_M_touch_147 : decode b_M_touch 147 = .ok (.ladd, 1) := by decide +kernel
theorem d_M_touch_148 : decode b_M_touch 148 = .ok (.lstore 7, 2) := by decide +kernel
theorem d_M_touch_150 : decode b_M_touch 150 = .ok (.lload_n 3, 1) := by decide +kernel
theorem d_M_touch_151 : decode b_M_touch 151 = .ok (.lload_n 3, 1) := by decide +kernel
theorem d_M_touch_152 : decode b_M_touch 152 = .ok (.lmul, 1) := by decide +kernel
theorem d_M_touch_153 : decode b_M_touch 153 = .ok (.lload 5, 2) := by decide +kernel
theorem d_M_touch_155 : decode b_M_touch 155 = .ok (.lload 5, 2) := by decide +kernel
theorem d_M_touch_157 : decode b_M_touch 157 = .ok (.lmul, 1) := by decide +kernel
theorem d_M_touch_158 : decode b_M_touch 158 = .ok (.ladd, 1) := by decide +kernel
theorem d_M_touch_159 : decode b_M_touch 159 = .ok (.lload 7, 2) := by decide +kernel
theorem d_M_touch_161 : decode b_M_touch 161 = .ok (.lload 7, 2) := by decide +kernel
theorem d_M_touch_163 : decode b_M_touch 163 = .ok (.lmul, 1) := by decide +kernel
theorem d_M_touch_164 : decode b_M_touch 164 = .ok (.lcmp, 1) := by decide +kernel
theorem d_M_touch_165 : decode b_M_touch 165 = .ok (.ifCond .gt 7, 3) := by decide +kernel
theorem d_M_touch_168 : decode b_M_touch 168 = .ok (.iconst 1, 1) := by decide +kernel
theorem d_M_touch_169 : decode b_M_touch 169 = .ok (.goto 4, 3) := by decide +kernel
theorem d_M_touch_172 : decode b_M_touch 172 = .ok (.iconst 0, 1) := by decide +kernel
theorem d_M_touch_173 : decode b_M_touch 173 = .ok (.ireturn, 1) := by decide +kernel
theorem d_M_findLabels_0 : decode b_M_findLabels 0 = .ok (.iconst 0, 1) := by decide +kernel
theorem d_M_findLabels_1 : decode b_M_findLabels 1 = .ok (.istore_n 1, 1) := by decide +kernel
theorem d_M_findLabels_2 : decode b_M_findLabels 2 = .ok (.iload_n 1, 1) := by decide +kernel
theorem d_M_findLabels_3 : decode b_M_findLabels 3 = .ok (.aload_n 0, 1) := by decide +kernel
theorem d_M_findLabels_4 : decode b_M_findLabels 4 = .ok (.getfield 58, 3) := by decide +kernel
theorem d_M_findLabels_7 : decode b_M_findLabels 7 = .ok (.if_icmp .ge 29, 3) := by decide +kernel
theorem d_M_findLabels_10 : decode b_M_findLabels 10 = .ok (.aload_n 0, 1) := by decide +kernel
theorem d_M_findLabels_11 : decode b_M_findLabels 11 = .ok (.getfield 42, 3) := by decide +kernel
theorem d_M_findLabels_14 : decode b_M_findLabels 14 = .ok (.iload_n 1, 1) := by decide +kernel
theorem d_M_findLabels_15 : decode b_M_findLabels 15 = .ok (.aload_n 0, 1) := by decide +kernel
theorem d_M_findLabels_16 : decode b_M_findLabels 16 = .ok (.getfield 7, 3) := by decide +kernel
theorem d_M_findLabels_19 : decode b_M_findLabels 19 = .ok (.iload_n 1, 1) := by decide +kernel
theorem d_M_findLabels_20 : decode b_M_findLabels 20 = .ok (.baload, 1) := by decide +kernel
theorem d_M_findLabels_21 : decode b_M_findLabels 21 = .ok (.ifCond .eq 7, 3) := by decide +kernel
theorem d_M_findLabels_24 : decode b_M_findLabels 24 = .ok (.iload_n 1, 1) := by decide +kernel
theorem d_M_findLabels_25 : decode b_M_findLabels 25 = .ok (.goto 4, 3) := by decide +kernel
theorem d_M_findLabels_28 : decode b_M_findLabels 28 = .ok (.iconst (-1), 1) := by decide +kernel
theorem d_M_findLabels_29 : decode b_M_findLabels 29 = .ok (.iastore, 1) := by decide +kernel
theorem d_M_findLabels_30 : decode b_M_findLabels 30 = .ok (.iinc 1 1, 3) := by decide +kernel
theorem d_M_findLabels_33 : decode b_M_findLabels 33 = .ok (.goto (-31), 3) := by decide +kernel
theorem d_M_findLabels_36 : decode b_M_findLabels 36 = .ok (.iconst 1, 1) := by decide +kernel
theorem d_M_findLabels_37 : decode b_M_findLabels 37 = .ok (.istore_n 1, 1) := by decide +kernel
theorem d_M_findLabels_38 : decode b_M_findLabels 38 = .ok (.iload_n 1, 1) := by decide +kernel
theorem d_M_findLabels_39 : decode b_M_findLabels 39 = .ok (.ifCond .eq 114, 3) := by decide +kernel
theorem d_M_findLabels_42 : decode b_M_findLabels 42 = .ok (.iconst 0, 1) := by decide +kernel
theorem d_M_findLabels_43 : decode b_M_findLabels 43 = .ok (.istore_n 1, 1) := by decide +kernel
theorem d_M_findLabels_44 : decode b_M_findLabels 44 = .ok (.iconst 0, 1) := by decide +kernel
theorem d_M_findLabels_45 : decode b_M_findLabels 45 = .ok (.istore_n 2, 1) := by decide +kernel
theorem d_M_findLabels_46 : decode b_M_findLabels 46 = .ok (.iload_n 2, 1) := by decide +kernel
theorem d_M_findLabels_47 : decode b_M_findLabels 47 = .ok (.aload_n 0, 1) := by decide +kernel
theorem d_M_findLabels_48 : decode b_M_findLabels 48 = .ok (.getfield 58, 3) := by decide +kernel
theorem d_M_findLabels_51 : decode b_M_findLabels 51 = .ok (.if_icmp .ge 99, 3) := by decide +kernel
theorem d_M_findLabels_54 : decode b_M_findLabels 54 = .ok (.iconst 0, 1) := by decide +kernel
theorem d_M_findLabels_55 : decode b_M_findLabels 55 = .ok (.istore_n 3, 1) := by decide +kernel
theorem d_M_findLabels_56 : decode b_M_findLabels 56 = .ok (.iload_n 3, 1) := by decide +kernel
theorem d_M_findLabels_57 : decode b_M_findLabels 57 = .ok (.iload_n 2, 1) := by decide +kernel
theorem d_M_findLabels_58 : decode b_M_findLabels 58 = .ok (.if_icmp .ge 86, 3) := by decide +kernel
theorem d_M_findLabels_61 : decode b_M_findLabels 61 = .ok (.aload_n 0, 1) := by decide +kernel
theorem d_M_findLabels_62 : decode b_M_findLabels 62 = .ok (.getfield 42, 3) := by decide +kernel
theorem d_M_findLabels_65 : decode b_M_findLabels 65 = .ok (.iload_n 2, 1) := by decide +kernel
theorem d_M_findLabels_66 : decode b_M_findLabels 66 = .ok (.iaload, 1) := by decide +kernel
theorem d_M_findLabels_67 : decode b_M_findLabels 67 = .ok (.aload_n 0, 1) := by decide +kernel
theorem d_M_findLabels_68 : decode b_M_findLabels 68 = .ok (.getfield 42, 3) := by decide +kernel
theorem d_M_findLabels_71 : decode b_M_findLabels 71 = .ok (.iload_n 3, 1) := by decide +kernel
theorem d_M_findLabels_72 : decode b_M_findLabels 72 = .ok (.iaload, 1) := by decide +kernel
theorem d_M_findLabels_73 : decode b_M_findLabels 73 = .ok (.if_icmp .eq 65, 3) := by decide +kernel
theorem d_M_findLabels_76 : decode b_M_findLabels 76 = .ok (.aload_n 0, 1) := by decide +kernel
theorem d_M_findLabels_77 : decode b_M_findLabels 77 = .ok (.iload_n 2, 1) := by decide +kernel
theorem d_M_findLabels_78 : decode b_M_findLabels 78 = .ok (.iload_n 3, 1) := by decide +kernel
theorem d_M_findLabels_79 : decode b_M_findLabels 79 = .ok (.invokevirtual 94, 3) := by decide +kernel
theorem d_M_findLabels_82 : decode b_M_findLabels 82 = .ok (.ifCond .ne 6, 3) := by decide +kernel
theorem d_M_findLabels_85 : decode b_M_findLabels 85 = .ok (.goto 53, 3) := by decide +kernel
theorem d_M_findLabels_88 : decode b_M_findLabels 88 = .ok (.aload_n 0, 1) := by decide +kernel
theorem d_M_findLabels_89 : decode b_M_findLabels 89 = .ok (.getfield 42, 3) := by decide +kernel
theorem d_M_findLabels_92 : decode b_M_findLabels 92 = .ok (.iload_n 2, 1) := by decide +kernel
theorem d_M_findLabels_93 : decode b_M_findLabels 93 = .ok (.iaload, 1) := by decide +kernel
theorem d_M_findLabels_94 : decode b_M_findLabels 94 = .ok (.aload_n 0, 1) := by decide +kernel
theorem d_M_findLabels_95 : decode b_M_findLabels 95 = .ok (.getfield 42, 3) := by decide +kernel
theorem d_M_findLabels_98 : decode b_M_findLabels 98 = .ok (.iload_n 3, 1) := by decide +kernel
theorem d_M_findLabels_99 : decode b_M_findLabels 99 = .ok (.iaload, 1) := by decide +kernel
theorem d_M_findLabels_100 : decode b_M_findLabels 100 = .ok (.if_icmp .ge 12, 3) := by decide +kernel
theorem d_M_findLabels_103 : decode b_M_findLabels 103 = .ok (.aload_n 0, 1) := by decide +kernel
theorem d_M_findLabels_104 : decode b_M_findLabels 104 = .ok (.getfield 42, 3) := by decide +kernel
theorem d_M_findLabels_107 : decode b_M_findLabels 107 = .ok (.iload_n 2, 1) := by decide +kernel
theorem d_M_findLabels_108 : decode b_M_findLabels 108 = .ok (.iaload, 1) := by decide +kernel
theorem d_M_findLabels_109 : decode b_M_findLabels 109 = .ok (.goto 9, 3) := by decide +kernel
theorem d_M_findLabels_112 : decode b_M_findLabels 112 = .ok (.aload_n 0, 1) := by decide +kernel
theorem d_M_findLabels_113 : decode b_M_findLabels 113 = .ok (.getfield 42, 3) := by decide +kernel
theorem d_M_findLabels_116 : decode b_M_findLabels 116 = .ok (.iload_n 3, 1) := by decide +kernel
theorem d_M_findLabels_117 : decode b_M_findLabels 117 = .ok (.iaload, 1) := by decide +kernel
theorem d_M_findLabels_118 : decode b_M_findLabels 118 = .ok (.istore 4, 2) := by decide +kernel
theorem d_M_findLabels_120 : decode b_M_findLabels 120 = .ok (.aload_n 0, 1) := by decide +kernel
theorem d_M_findLabels_121 : decode b_M_findLabels 121 = .ok (.getfield 42, 3) := by decide +kernel
theorem d_M_findLabels_124 : decode b_M_findLabels 124 = .ok (.iload_n 2, 1) := by decide +kernel
theorem d_M_findLabels_125 : decode b_M_findLabels 125 = .ok (.iload 4, 2) := by decide +kernel
theorem d_M_findLabels_127 : decode b_M_findLabels 127 = .ok (.iastore, 1) := by decide +kernel
theorem d_M_findLabels_128 : decode b_M_findLabels 128 = .ok (.aload_n 0, 1) := by decide +kernel
theorem d_M_findLabels_129 : decode b_M_findLabels 129 = .ok (.getfield 42, 3) := by decide +kernel
theorem d_M_findLabels_132 : decode b_M_findLabels 132 = .ok (.iload_n 3, 1) := by decide +kernel
theorem d_M_findLabels_133 : decode b_M_findLabels 133 = .ok (.iload 4, 2) := by decide +kernel
theorem d_M_findLabels_135 : decode b_M_findLabels 135 = .ok (.iastore, 1) := by decide +kernel
theorem d_M_findLabels_136 : decode b_M_findLabels 136 = .ok (.iconst 1, 1) := by decide +kernel
theorem d_M_findLabels_137 : decode b_M_findLabels 137 = .ok (.istore_n 1, 1) := by decide +kernel
theorem d_M_findLabels_138 : decode b_M_findLabels 138 = .ok (.iinc 3 1, 3) := by decide +kernel
theorem d_M_findLabels_141 : decode b_M_findLabels 141 = .ok (.goto (-85), 3) := by decide +kernel
theorem d_M_findLabels_144 : decode b_M_findLabels 144 = .ok (.iinc 2 1, 3) := by decide +kernel
theorem d_M_findLabels_147 : decode b_M_findLabels 147 = .ok (.goto (-101), 3) := by decide +kernel
theorem d_M_findLabels_150 : decode b_M_findLabels 150 = .ok (.goto (-112), 3) := by decide +kernel
theorem d_M_findLabels_153 : decode b_M_findLabels 153 = .ok (.return_, 1) := by decide +kernel
theorem d_M_findNets_0 : decode b_M_findNets 0 = .ok (.aload_n 0, 1) := by decide +kernel
theorem d_M_findNets_1 : decode b_M_findNets 1 = .ok (.invokevirtual 98, 3) := by decide +kernel
theorem d_M_findNets_4 : decode b_M_findNets 4 = .ok (.iconst 0, 1) := by decide +kernel
theorem d_M_findNets_5 : decode b_M_findNets 5 = .ok (.istore_n 1, 1) := by decide +kernel
theorem d_M_findNets_6 : decode b_M_findNets 6 = .ok (.iconst 0, 1) := by decide +kernel
theorem d_M_findNets_7 : decode b_M_findNets 7 = .ok (.istore_n 2, 1) := by decide +kernel
theorem d_M_findNets_8 : decode b_M_findNets 8 = .ok (.iload_n 2, 1) := by decide +kernel
theorem d_M_findNets_9 : decode b_M_findNets 9 = .ok (.aload_n 0, 1) := by decide +kernel
theorem d_M_findNets_10 : decode b_M_findNets 10 = .ok (.getfield 58, 3) := by decide +kernel
theorem d_M_findNets_13 : decode b_M_findNets 13 = .ok (.if_icmp .ge 69, 3) := by decide +kernel
theorem d_M_findNets_16 : decode b_M_findNets 16 = .ok (.aload_n 0, 1) := by decide +kernel
theorem d_M_findNets_17 : decode b_M_findNets 17 = .ok (.getfield 42, 3) := by decide +kernel
theorem d_M_findNets_20 : decode b_M_findNets 20 = .ok (.iload_n 2, 1) := by decide +kernel
theorem d_M_findNets_21 : decode b_M_findNets 21 = .ok (.iaload, 1) := by decide +kernel
theorem d_M_findNets_22 : decode b_M_findNets 22 = .ok (.iconst (-1), 1) := by decide +kernel
theorem d_M_findNets_23 : decode b_M_findNets 23 = .ok (.if_icmp .ne 13, 3) := by decide +kernel
theorem d_M_findNets_26 : decode b_M_findNets 26 = .ok (.aload_n 0, 1) := by decide +kernel
theorem d_M_findNets_27 : decode b_M_findNets 27 = .ok (.getfield 45, 3) := by decide +kernel
theorem d_M_findNets_30 : decode b_M_findNets 30 = .ok (.iload_n 2, 1) := by decide +kernel
theorem d_M_findNets_31 : decode b_M_findNets 31 = .ok (.iconst (-1), 1) := by decide +kernel
theorem d_M_findNets_32 : decode b_M_findNets 32 = .ok (.iastore, 1) := by decide +kernel
theorem d_M_findNets_33 : decode b_M_findNets 33 = .ok (.goto 43, 3) := by decide +kernel
theorem d_M_findNets_36 : decode b_M_findNets 36 = .ok (.aload_n 0, 1) := by decide +kernel
theorem d_M_findNets_37 : decode b_M_findNets 37 = .ok (.getfield 42, 3) := by decide +kernel
theorem d_M_findNets_40 : decode b_M_findNets 40 = .ok (.iload_n 2, 1) := by decide +kernel
theorem d_M_findNets_41 : decode b_M_findNets 41 = .ok (.iaload, 1) := by decide +kernel
theorem d_M_findNets_42 : decode b_M_findNets 42 = .ok (.iload_n 2, 1) := by decide +kernel
theorem d_M_findNets_43 : decode b_M_findNets 43 = .ok (.if_icmp .ne 16, 3) := by decide +kernel
theorem d_M_findNets_46 : decode b_M_findNets 46 = .ok (.aload_n 0, 1) := by decide +kernel
theorem d_M_findNets_47 : decode b_M_findNets 47 = .ok (.getfield 45, 3) := by decide +kernel
theorem d_M_findNets_50 : decode b_M_findNets 50 = .ok (.iload_n 2, 1) := by decide +kernel
theorem d_M_findNets_51 : decode b_M_findNets 51 = .ok (.iload_n 1, 1) := by decide +kernel
theorem d_M_findNets_52 : decode b_M_findNets 52 = .ok (.iastore, 1) := by decide +kernel
theorem d_M_findNets_53 : decode b_M_findNets 53 = .ok (.iinc 1 1, 3) := by decide +kernel
theorem d_M_findNets_56 : decode b_M_findNets 56 = .ok (.goto 20, 3) := by decide +kernel
theorem d_M_findNets_59 : decode b_M_findNets 59 = .ok (.aload_n 0, 1) := by decide +kernel
theorem d_M_findNets_60 : decode b_M_findNets 60 = .ok (.getfield 45, 3) := by decide +kernel
theorem d_M_findNets_63 : decode b_M_findNets 63 = .ok (.iload_n 2, 1) := by decide +kernel
theorem d_M_findNets_64 : decode b_M_findNets 64 = .ok (.aload_n 0, 1) := by decide +kernel
theorem d_M_findNets_65 : decode b_M_findNets 65 = .ok (.getfield 45, 3) := by decide +kernel
theorem d_M_findNets_68 : decode b_M_findNets 68 = .ok (.aload_n 0, 1) := by decide +kernel
theorem d_M_findNets_69 : decode b_M_findNets 69 = .ok (.getfield 42, 3) := by decide +kernel
theorem d_M_findNets_72 : decode b_M_findNets 72 = .ok (.iload_n 2, 1) := by decide +kernel
theorem d_M_findNets_73 : decode b_M_findNets 73 = .ok (.iaload, 1) := by decide +kernel
theorem d_M_findNets_74 : decode b_M_findNets 74 = .ok (.iaload, 1) := by decide +kernel
theorem d_M_findNets_75 : decode b_M_findNets 75 = .ok (.iastore, 1) := by decide +kernel
theorem d_M_findNets_76 : decode b_M_findNets 76 = .ok (.iinc 2 1, 3) := by decide +kernel
theorem d_M_findNets_79 : decode b_M_findNets 79 = .ok (.goto (-71), 3) := by decide +kernel
theorem d_M_findNets_82 : decode b_M_findNets 82 = .ok (.iload_n 1, 1) := by decide +kernel
theorem d_M_findNets_83 : decode b_M_findNets 83 = .ok (.ireturn, 1) := by decide +kernel
theorem d_M_run_0 : decode b_M_run 0 = .ok (.aload_n 0, 1) := by decide +kernel
theorem d_M_run_1 : decode b_M_run 1 = .ok (.iconst 0, 1) := by decide +kernel
theorem d_M_run_2 : decode b_M_run 2 = .ok (.putfield 55, 3) := by decide +kernel
theorem d_M_run_5 : decode b_M_run 5 = .ok (.aload_n 0, 1) := by decide +kernel
theorem d_M_run_6 : decode b_M_run 6 = .ok (.invokevirtual 101, 3) := by decide +kernel
theorem d_M_run_9 : decode b_M_run 9 = .ok (.ireturn, 1) := by decide +kernel
theorem d_M_netOf_0 : decode b_M_netOf 0 = .ok (.aload_n 0, 1) := by decide +kernel
theorem d_M_netOf_1 : decode b_M_netOf 1 = .ok (.aload_n 0, 1) := by decide +kernel
theorem d_M_netOf_2 : decode b_M_netOf 2 = .ok (.iload_n 1, 1) := by decide +kernel
theorem d_M_netOf_3 : decode b_M_netOf 3 = .ok (.invokevirtual 87, 3) := by decide +kernel
theorem d_M_netOf_6 : decode b_M_netOf 6 = .ok (.ifCond .eq 7, 3) := by decide +kernel
theorem d_M_netOf_9 : decode b_M_netOf 9 = .ok (.iconst 0, 1) := by decide +kernel
theorem d_M_netOf_10 : decode b_M_netOf 10 = .ok (.goto 4, 3) := by decide +kernel
theorem d_M_netOf_13 : decode b_M_netOf 13 = .ok (.iconst 1, 1) := by decide +kernel
theorem d_M_netOf_14 : decode b_M_netOf 14 = .ok (.putfield 55, 3) := by decide +kernel
theorem d_M_netOf_17 : decode b_M_netOf 17 = .ok (.aload_n 0, 1) := by decide +kernel
theorem d_M_netOf_18 : decode b_M_netOf 18 = .ok (.getfield 55, 3) := by decide +kernel
theorem d_M_netOf_21 : decode b_M_netOf 21 = .ok (.ifCond .eq 5, 3) := by decide +kernel
theorem d_M_netOf_24 : decode b_M_netOf 24 = .ok (.iconst 0, 1) := by decide +kernel
theorem d_M_netOf_25 : decode b_M_netOf 25 = .ok (.ireturn, 1) := by decide +kernel
theorem d_M_netOf_26 : decode b_M_netOf 26 = .ok (.aload_n 0, 1) := by decide +kernel
theorem d_M_netOf_27 : decode b_M_netOf 27 = .ok (.invokevirtual 101, 3) := by decide +kernel
theorem d_M_netOf_30 : decode b_M_netOf 30 = .ok (.pop, 1) := by decide +kernel
theorem d_M_netOf_31 : decode b_M_netOf 31 = .ok (.aload_n 0, 1) := by decide +kernel
theorem d_M_netOf_32 : decode b_M_netOf 32 = .ok (.getfield 45, 3) := by decide +kernel
theorem d_M_netOf_35 : decode b_M_netOf 35 = .ok (.iload_n 1, 1) := by decide +kernel
theorem d_M_netOf_36 : decode b_M_netOf 36 = .ok (.iaload, 1) := by decide +kernel
theorem d_M_netOf_37 : decode b_M_netOf 37 = .ok (.ireturn, 1) := by decide +kernel
theorem d_M_planOf_0 : decode b_M_planOf 0 = .ok (.aload_n 0, 1) := by decide +kernel
theorem d_M_planOf_1 : decode b_M_planOf 1 = .ok (.getfield 36, 3) := by decide +kernel
theorem d_M_planOf_4 : decode b_M_planOf 4 = .ok (.iload_n 1, 1) := by decide +kernel
theorem d_M_planOf_5 : decode b_M_planOf 5 = .ok (.iaload, 1) := by decide +kernel
theorem d_M_planOf_6 : decode b_M_planOf 6 = .ok (.iconst (-1), 1) := by decide +kernel
theorem d_M_planOf_7 : decode b_M_planOf 7 = .ok (.if_icmp .eq 12, 3) := by decide +kernel
theorem d_M_planOf_10 : decode b_M_planOf 10 = .ok (.aload_n 0, 1) := by decide +kernel
theorem d_M_planOf_11 : decode b_M_planOf 11 = .ok (.getfield 7, 3) := by decide +kernel
theorem d_M_planOf_14 : decode b_M_planOf 14 = .ok (.iload_n 1, 1) := by decide +kernel
theorem d_M_planOf_15 : decode b_M_planOf 15 = .ok (.baload, 1) := by decide +kernel
theorem d_M_planOf_16 : decode b_M_planOf 16 = .ok (.ifCond .ne 7, 3) := by decide +kernel
theorem d_M_planOf_19 : decode b_M_planOf 19 = .ok (.iconst (-1), 1) := by decide +kernel
theorem d_M_planOf_20 : decode b_M_planOf 20 = .ok (.goto 14, 3) := by decide +kernel
theorem d_M_planOf_23 : decode b_M_planOf 23 = .ok (.aload_n 0, 1) := by decide +kernel
theorem d_M_planOf_24 : decode b_M_planOf 24 = .ok (.getfield 39, 3) := by decide +kernel
theorem d_M_planOf_27 : decode b_M_planOf 27 = .ok (.aload_n 0, 1) := by decide +kernel
theorem d_M_planOf_28 : decode b_M_planOf 28 = .ok (.getfield 36, 3) := by decide +kernel
theorem d_M_planOf_31 : decode b_M_planOf 31 = .ok (.iload_n 1, 1) := by decide +kernel
theorem d_M_planOf_32 : decode b_M_planOf 32 = .ok (.iaload, 1) := by decide +kernel
theorem d_M_planOf_33 : decode b_M_planOf 33 = .ok (.iaload, 1) := by decide +kernel
theorem d_M_planOf_34 : decode b_M_planOf 34 = .ok (.ireturn, 1) := by decide +kernel
theorem d_M_nextAirline_0 : decode b_M_nextAirline 0 = .ok (.iconst 0, 1) := by decide +kernel
theorem d_M_nextAirline_1 : decode b_M_nextAirline 1 = .ok (.istore_n 2, 1) := by decide +kernel
theorem d_M_nextAirline_2 : decode b_M_nextAirline 2 = .ok (.iconst 0, 1) := by decide +kernel
theorem d_M_nextAirline_3 : decode b_M_nextAirline 3 = .ok (.istore_n 3, 1) := by decide +kernel
theorem d_M_nextAirline_4 : decode b_M_nextAirline 4 = .ok (.iload_n 3, 1) := by decide +kernel
theorem d_M_nextAirline_5 : decode b_M_nextAirline 5 = .ok (.aload_n 0, 1) := by decide +kernel
theorem d_M_nextAirline_6 : decode b_M_nextAirline 6 = .ok (.getfield 58, 3) := by decide +kernel
theorem d_M_nextAirline_9 : decode b_M_nextAirline 9 = .ok (.if_icmp .ge 207, 3) := by decide +kernel
theorem d_M_nextAirline_12 : decode b_M_nextAirline 12 = .ok (.iconst 0, 1) := by decide +kernel
theorem d_M_nextAirline_13 : decode b_M_nextAirline 13 = .ok (.istore 4, 2) := by decide +kernel
theorem d_M_nextAirline_15 : decode b_M_nextAirline 15 = .ok (.iload 4, 2) := by decide +kernel
theorem d_M_nextAirline_17 : decode b_M_nextAirline 17 = .ok (.iload_n 3, 1) := by decide +kernel
theorem d_M_nextAirline_18 : decode b_M_nextAirline 18 = .ok (.if_icmp .ge 192, 3) := by decide +kernel
theorem d_M_nextAirline_21 : decode b_M_nextAirline 21 = .ok (.aload_n 0, 1) := by decide +kernel
theorem d_M_nextAirline_22 : decode b_M_nextAirline 22 = .ok (.iload 4, 2) := by decide +kernel
theorem d_M_nextAirline_24 : decode b_M_nextAirline 24 = .ok (.invokevirtual 105, 3) := by decide +kernel
theorem d_M_nextAirline_27 : decode b_M_nextAirline 27 = .ok (.iload_n 1, 1) := by decide +kernel
theorem d_M_nextAirline_28 : decode b_M_nextAirline 28 = .ok (.if_icmp .ne 176, 3) := by decide +kernel
theorem d_M_nextAirline_31 : decode b_M_nextAirline 31 = .ok (.aload_n 0, 1) := by decide +kernel
theorem d_M_nextAirline_32 : decode b_M_nextAirline 32 = .ok (.iload_n 3, 1) := by decide +kernel
theorem d_M_nextAirline_33 : decode b_M_nextAirline 33 = .ok (.invokevirtual 105, 3) := by decide +kernel
theorem d_M_nextAirline_36 : decode b_M_nextAirline 36 = .ok (.iload_n 1, 1) := by decide +kernel
theorem d_M_nextAirline_37 : decode b_M_nextAirline 37 = .ok (.if_icmp .ne 167, 3) := by decide +kernel
theorem d_M_nextAirline_40 : decode b_M_nextAirline 40 = .ok (.aload_n 0, 1) := by decide +kernel
theorem d_M_nextAirline_41 : decode b_M_nextAirline 41 = .ok (.getfield 48, 3) := by decide +kernel
theorem d_M_nextAirline_44 : decode b_M_nextAirline 44 = .ok (.iload 4, 2) := by decide +kernel
theorem d_M_nextAirline_46 : decode b_M_nextAirline 46 = .ok (.iaload, 1) := by decide +kernel
theorem d_M_nextAirline_47 : decode b_M_nextAirline 47 = .ok (.aload_n 0, 1) := by decide +kernel
theorem d_M_nextAirline_48 : decode b_M_nextAirline 48 = .ok (.getfield 48, 3) := by decide +kernel
theorem d_M_nextAirline_51 : decode b_M_nextAirline 51 = .ok (.iload_n 3, 1) := by decide +kernel
theorem d_M_nextAirline_52 : decode b_M_nextAirline 52 = .ok (.iaload, 1) := by decide +kernel
theorem d_M_nextAirline_53 : decode b_M_nextAirline 53 = .ok (.if_icmp .ne 6, 3) := by decide +kernel
theorem d_M_nextAirline_56 : decode b_M_nextAirline 56 = .ok (.goto 148, 3) := by decide +kernel
theorem d_M_nextAirline_59 : decode b_M_nextAirline 59 = .ok (.aload_n 0, 1) := by decide +kernel
theorem d_M_nextAirline_60 : decode b_M_nextAirline 60 = .ok (.getfield 20, 3) := by decide +kernel
theorem d_M_nextAirline_63 : decode b_M_nextAirline 63 = .ok (.iload 4, 2) := by decide +kernel
theorem d_M_nextAirline_65 : decode b_M_nextAirline 65 = .ok (.laload, 1) := by decide +kernel
theorem d_M_nextAirline_66 : decode b_M_nextAirline 66 = .ok (.aload_n 0, 1) := by decide +kernel
theorem d_M_nextAirline_67 : decode b_M_nextAirline 67 = .ok (.getfield 20, 3) := by decide +kernel
theorem d_M_nextAirline_70 : decode b_M_nextAirline 70 = .ok (.iload_n 3, 1) := by decide +kernel
theorem d_M_nextAirline_71 : decode b_M_nextAirline 71 = .ok (.laload, 1) := by decide +kernel
theorem d_M_nextAirline_72 : decode b_M_nextAirline 72 = .ok (.lsub, 1) := by decide +kernel
theorem d_M_nextAirline_73 : decode b_M_nextAirline 73 = .ok (.aload_n 0, 1) := by decide +kernel
theorem d_M_nextAirline_74 : decode b_M_nextAirline 74 = .ok (.getfield 20, 3) := by decide +kernel
theorem d_M_nextAirline_77 : decode b_M_nextAirline 77 = .ok (.iload 4, 2) := by decide +kernel
theorem d_M_nextAirline_79 : decode b_M_nextAirline 79 = .ok (.laload, 1) := by decide +kernel
theorem d_M_nextAirline_80 : decode b_M_nextAirline 80 = .ok (.aload_n 0, 1) := by decide +kernel
theorem d_M_nextAirline_81 : decode b_M_nextAirline 81 = .ok (.getfield 20, 3) := by decide +kernel
theorem d_M_nextAirline_84 : decode b_M_nextAirline 84 = .ok (.iload_n 3, 1) := by decide +kernel
theorem d_M_nextAirline_85 : decode b_M_nextAirline 85 = .ok (.laload, 1) := by decide +kernel
theorem d_M_nextAirline_86 : decode b_M_nextAirline 86 = .ok (.lsub, 1) := by decide +kernel
theorem d_M_nextAirline_87 : decode b_M_nextAirline 87 = .ok (.lmul, 1) := by decide +kernel
theorem d_M_nextAirline_88 : decode b_M_nextAirline 88 = .ok (.aload_n 0, 1) := by decide +kernel
theorem d_M_nextAirline_89 : decode b_M_nextAirline 89 = .ok (.getfield 24, 3) := by decide +kernel
theorem d_M_nextAirline_92 : decode b_M_nextAirline 92 = .ok (.iload 4, 2) := by decide +kernel
theorem d_M_nextAirline_94 : decode b_M_nextAirline 94 = .ok (.laload, 1) := by decide +kernel
theorem d_M_nextAirline_95 : decode b_M_nextAirline 95 = .ok (.aload_n 0, 1) := by decide +kernel
theorem d_M_nextAirline_96 : decode b_M_nextAirline 96 = .ok (.getfield 24, 3) := by decide +kernel
theorem d_M_nextAirline_99 : decode b_M_nextAirline 99 = .ok (.iload_n 3, 1) := by decide +kernel
theorem d_M_nextAirline_100 : decode b_M_nextAirline 100 = .ok (.laload, 1) := by decide +kernel
theorem d_M_nextAirline_101 : decode b_M_nextAirline 101 = .ok (.lsub, 1) := by decide +kernel
theorem d_M_nextAirline_102 : decode b_M_nextAirline 102 = .ok (.aload_n 0, 1) := by decide +kernel
theorem d_M_nextAirline_103 : decode b_M_nextAirline 103 = .ok (.getfield 24, 3) := by decide +kernel
theorem d_M_nextAirline_106 : decode b_M_nextAirline 106 = .ok (.iload 4, 2) := by decide +kernel
theorem d_M_nextAirline_108 : decode b_M_nextAirline 108 = .ok (.laload, 1) := by decide +kernel
theorem d_M_nextAirline_109 : decode b_M_nextAirline 109 = .ok (.aload_n 0, 1) := by decide +kernel
theorem d_M_nextAirline_110 : decode b_M_nextAirline 110 = .ok (.getfield 24, 3) := by decide +kernel
theorem d_M_nextAirline_113 : decode b_M_nextAirline 113 = .ok (.iload_n 3, 1) := by decide +kernel
theorem d_M_nextAirline_114 : decode b_M_nextAirline 114 = .ok (.laload, 1) := by decide +kernel
theorem d_M_nextAirline_115 : decode b_M_nextAirline 115 = .ok (.lsub, 1) := by decide +kernel
theorem d_M_nextAirline_116 : decode b_M_nextAirline 116 = .ok (.lmul, 1) := by decide +kernel
theorem d_M_nextAirline_117 : decode b_M_nextAirline 117 = .ok (.ladd, 1) := by decide +kernel
theorem d_M_nextAirline_118 : decode b_M_nextAirline 118 = .ok (.lstore 5, 2) := by decide +kernel
theorem d_M_nextAirline_120 : decode b_M_nextAirline 120 = .ok (.iload_n 2, 1) := by decide +kernel
theorem d_M_nextAirline_121 : decode b_M_nextAirline 121 = .ok (.ifCond .eq 49, 3) := by decide +kernel
theorem d_M_nextAirline_124 : decode b_M_nextAirline 124 = .ok (.lload 5, 2) := by decide +kernel
theorem d_M_nextAirline_126 : decode b_M_nextAirline 126 = .ok (.aload_n 0, 1) := by decide +kernel
theorem d_M_nextAirline_127 : decode b_M_nextAirline 127 = .ok (.getfield 109, 3) := by decide +kernel
theorem d_M_nextAirline_130 : decode b_M_nextAirline 130 = .ok (.lcmp, 1) := by decide +kernel
theorem d_M_nextAirline_131 : decode b_M_nextAirline 131 = .ok (.ifCond .lt 39, 3) := by decide +kernel
theorem d_M_nextAirline_134 : decode b_M_nextAirline 134 = .ok (.lload 5, 2) := by decide +kernel
theorem d_M_nextAirline_136 : decode b_M_nextAirline 136 = .ok (.aload_n 0, 1) := by decide +kernel
theorem d_M_nextAirline_137 : decode b_M_nextAirline 137 = .ok (.getfield 109, 3) := by decide +kernel
theorem d_M_nextAirline_140 : decode b_M_nextAirline 140 = .ok (.lcmp, 1) := by decide +kernel
theorem d_M_nextAirline_141 : decode b_M_nextAirline 141 = .ok (.ifCond .ne 33, 3) := by decide +kernel
theorem d_M_nextAirline_144 : decode b_M_nextAirline 144 = .ok (.iload 4, 2) := by decide +kernel
theorem d_M_nextAirline_146 : decode b_M_nextAirline 146 = .ok (.aload_n 0, 1) := by decide +kernel
theorem d_M_nextAirline_147 : decode b_M_nextAirline 147 = .ok (.getfield 113, 3) := by decide +kernel
theorem d_M_nextAirline_150 : decode b_M_nextAirline 150 = .ok (.if_icmp .lt 20, 3) := by decide +kernel
theorem d_M_nextAirline_153 : decode b_M_nextAirline 153 = .ok (.iload 4, 2) := by decide +kernel
theorem d_M_nextAirline_155 : decode b_M_nextAirline 155 = .ok (.aload_n 0, 1) := by decide +kernel
theorem d_M_nextAirline_156 : decode b_M_nextAirline 156 = .ok (.getfield 113, 3) := by decide +kernel
theorem d_M_nextAirline_159 : decode b_M_nextAirline 159 = .ok (.if_icmp .ne 15, 3) := by decide +kernel
theorem d_M_nextAirline_162 : decode b_M_nextAirline 162 = .ok (.iload_n 3, 1) := by decide +kernel
theorem d_M_nextAirline_163 : decode b_M_nextAirline 163 = .ok (.aload_n 0, 1) := by decide +kernel
theorem d_M_nextAirline_164 : decode b_M_nextAirline 164 = .ok (.getfield 116, 3) := by decide +kernel
theorem d_M_nextAirline_167 : decode b_M_nextAirline 167 = .ok (.if_icmp .ge 7, 3) := by decide +kernel
theorem d_M_nextAirline_170 : decode b_M_nextAirline 170 = .ok (.iconst 1, 1) := by decide +kernel
theorem d_M_nextAirline_171 : decode b_M_nextAirline 171 = .ok (.goto 4, 3) := by decide +kernel
theorem d_M_nextAirline_174 : decode b_M_nextAirline 174 = .ok (.iconst 0, 1) := by decide +kernel
theorem d_M_nextAirline_175 : decode b_M_nextAirline 175 = .ok (.istore 7, 2) := by decide +kernel
theorem d_M_nextAirline_177 : decode b_M_nextAirline 177 = .ok (.iload 7, 2) := by decide +kernel
theorem d_M_nextAirline_179 : decode b_M_nextAirline 179 = .ok (.ifCond .ne 6, 3) := by decide +kernel
theorem d_M_nextAirline_182 : decode b_M_nextAirline 182 = .ok (.goto 22, 3) := by decide +kernel
theorem d_M_nextAirline_185 : decode b_M_nextAirline 185 = .ok (.iconst 1, 1) := by decide +kernel
theorem d_M_nextAirline_186 : decode b_M_nextAirline 186 = .ok (.istore_n 2, 1) := by decide +kernel
theorem d_M_nextAirline_187 : decode b_M_nextAirline 187 = .ok (.aload_n 0, 1) := by decide +kernel
theorem d_M_nextAirline_188 : decode b_M_nextAirline 188 = .ok (.lload 5, 2) := by decide +kernel
theorem d_M_nextAirline_190 : decode b_M_nextAirline 190 = .ok (.putfield 109, 3) := by decide +kernel
theorem d_M_nextAirline_193 : decode b_M_nextAirline 193 = .ok (.aload_n 0, 1) := by decide +kernel
theorem d_M_nextAirline_194 : decode b_M_nextAirline 194 = .ok (.iload 4, 2) := by decide +kernel
theorem d_M_nextAirline_196 : decode b_M_nextAirline 196 = .ok (.putfield 113, 3) := by decide +kernel
theorem d_M_nextAirline_199 : decode b_M_nextAirline 199 = .ok (.aload_n 0, 1) := by decide +kernel
theorem d_M_nextAirline_200 : decode b_M_nextAirline 200 = .ok (.iload_n 3, 1) := by decide +kernel
theorem d_M_nextAirline_201 : decode b_M_nextAirline 201 = .ok (.putfield 116, 3) := by decide +kernel
theorem d_M_nextAirline_204 : decode b_M_nextAirline 204 = .ok (.iinc 4 1, 3) := by decide +kernel
theorem d_M_nextAirline_207 : decode b_M_nextAirline 207 = .ok (.goto (-192), 3) := by decide +kernel
theorem d_M_nextAirline_210 : decode b_M_nextAirline 210 = .ok (.iinc 3 1, 3) := by decide +kernel
theorem d_M_nextAirline_213 : decode b_M_nextAirline 213 = .ok (.goto (-209), 3) := by decide +kernel
theorem d_M_nextAirline_216 : decode b_M_nextAirline 216 = .ok (.iload_n 2, 1) := by decide +kernel
theorem d_M_nextAirline_217 : decode b_M_nextAirline 217 = .ok (.ifCond .ne 5, 3) := by decide +kernel
theorem d_M_nextAirline_220 : decode b_M_nextAirline 220 = .ok (.iconst 0, 1) := by decide +kernel
theorem d_M_nextAirline_221 : decode b_M_nextAirline 221 = .ok (.ireturn, 1) := by decide +kernel
theorem d_M_nextAirline_222 : decode b_M_nextAirline 222 = .ok (.aload_n 0, 1) := by decide +kernel
theorem d_M_nextAirline_223 : decode b_M_nextAirline 223 = .ok (.getfield 48, 3) := by decide +kernel
theorem d_M_nextAirline_226 : decode b_M_nextAirline 226 = .ok (.aload_n 0, 1) := by decide +kernel
theorem d_M_nextAirline_227 : decode b_M_nextAirline 227 = .ok (.getfield 113, 3) := by decide +kernel
theorem d_M_nextAirline_230 : decode b_M_nextAirline 230 = .ok (.iaload, 1) := by decide +kernel
theorem d_M_nextAirline_231 : decode b_M_nextAirline 231 = .ok (.istore_n 3, 1) := by decide +kernel
theorem d_M_nextAirline_232 : decode b_M_nextAirline 232 = .ok (.aload_n 0, 1) := by decide +kernel
theorem d_M_nextAirline_233 : decode b_M_nextAirline 233 = .ok (.getfield 48, 3) := by decide +kernel
theorem d_M_nextAirline_236 : decode b_M_nextAirline 236 = .ok (.aload_n 0, 1) := by decide +kernel
theorem d_M_nextAirline_237 : decode b_M_nextAirline 237 = .ok (.getfield 116, 3) := by decide +kernel
theorem d_M_nextAirline_240 : decode b_M_nextAirline 240 = .ok (.iaload, 1) := by decide +kernel
theorem d_M_nextAirline_241 : decode b_M_nextAirline 241 = .ok (.istore 4, 2) := by decide +kernel
theorem d_M_nextAirline_243 : decode b_M_nextAirline 243 = .ok (.iconst 0, 1) := by decide +kernel
theorem d_M_nextAirline_244 : decode b_M_nextAirline 244 = .ok (.istore 5, 2) := by decide +kernel
theorem d_M_nextAirline_246 : decode b_M_nextAirline 246 = .ok (.iload 5, 2) := by decide +kernel
theorem d_M_nextAirline_248 : decode b_M_nextAirline 248 = .ok (.aload_n 0, 1) := by decide +kernel
theorem d_M_nextAirline_249 : decode b_M_nextAirline 249 = .ok (.getfield 58, 3) := by decide +kernel
theorem d_M_nextAirline_252 : decode b_M_nextAirline 252 = .ok (.if_icmp .ge 39, 3) := by decide +kernel
theorem d_M_nextAirline_255 : decode b_M_nextAirline 255 = .ok (.aload_n 0, 1) := by decide +kernel
theorem d_M_nextAirline_256 : decode b_M_nextAirline 256 = .ok (.getfield 48, 3) := by decide +kernel
theorem d_M_nextAirline_259 : decode b_M_nextAirline 259 = .ok (.iload 5, 2) := by decide +kernel
theorem d_M_nextAirline_261 : decode b_M_nextAirline 261 = .ok (.aload_n 0, 1) := by decide +kernel
theorem d_M_nextAirline_262 : decode b_M_nextAirline 262 = .ok (.getfield 48, 3) := by decide +kernel
theorem d_M_nextAirline_265 : decode b_M_nextAirline 265 = .ok (.iload 5, 2) := by decide +kernel
theorem d_M_nextAirline_267 : decode b_M_nextAirline 267 = .ok (.iaload, 1) := by decide +kernel
theorem d_M_nextAirline_268 : decode b_M_nextAirline 268 = .ok (.iload 4, 2) := by decide +kernel
theorem d_M_nextAirline_270 : decode b_M_nextAirline 270 = .ok (.if_icmp .ne 7, 3) := by decide +kernel
theorem d_M_nextAirline_273 : decode b_M_nextAirline 273 = .ok (.iload_n 3, 1) := by decide +kernel
theorem d_M_nextAirline_274 : decode b_M_nextAirline 274 = .ok (.goto 10, 3) := by decide +kernel
theorem d_M_nextAirline_277 : decode b_M_nextAirline 277 = .ok (.aload_n 0, 1) := by decide +kernel
theorem d_M_nextAirline_278 : decode b_M_nextAirline 278 = .ok (.getfield 48, 3) := by decide +kernel
theorem d_M_nextAirline_281 : decode b_M_nextAirline 281 = .ok (.iload 5, 2) := by decide +kernel
theorem d_M_nextAirline_283 : decode b_M_nextAirline 283 = .ok (.iaload, 1) := by decide +kernel
theorem d_M_nextAirline_284 : decode b_M_nextAirline 284 = .ok (.iastore, 1) := by decide +kernel
theorem d_M_nextAirline_285 : decode b_M_nextAirline 285 = .ok (.iinc 5 1, 3) := by decide +kernel
theorem d_M_nextAirline_288 : decode b_M_nextAirline 288 = .ok (.goto (-42), 3) := by decide +kernel
theorem d_M_nextAirline_291 : decode b_M_nextAirline 291 = .ok (.iconst 1, 1) := by decide +kernel
theorem d_M_nextAirline_292 : decode b_M_nextAirline 292 = .ok (.ireturn, 1) := by decide +kernel
theorem d_M_countOpens_0 : decode b_M_countOpens 0 = .ok (.aload_n 0, 1) := by decide +kernel
theorem d_M_countOpens_1 : decode b_M_countOpens 1 = .ok (.invokevirtual 101, 3) := by decide +kernel
theorem d_M_countOpens_4 : decode b_M_countOpens 4 = .ok (.pop, 1) := by decide +kernel
theorem d_M_countOpens_5 : decode b_M_countOpens 5 = .ok (.iconst 0, 1) := by decide +kernel
theorem d_M_countOpens_6 : decode b_M_countOpens 6 = .ok (.istore_n 2, 1) := by decide +kernel
theorem d_M_countOpens_7 : decode b_M_countOpens 7 = .ok (.iload_n 2, 1) := by decide +kernel
theorem d_M_countOpens_8 : decode b_M_countOpens 8 = .ok (.aload_n 0, 1) := by decide +kernel
theorem d_M_countOpens_9 : decode b_M_countOpens 9 = .ok (.getfield 58, 3) := by decide +kernel
theorem d_M_countOpens_12 : decode b_M_countOpens 12 = .ok (.if_icmp .ge 21, 3) := by decide +kernel
theorem d_M_countOpens_15 : decode b_M_countOpens 15 = .ok (.aload_n 0, 1) := by decide +kernel
theorem d_M_countOpens_16 : decode b_M_countOpens 16 = .ok (.getfield 48, 3) := by decide +kernel
theorem d_M_countOpens_19 : decode b_M_countOpens 19 = .ok (.iload_n 2, 1) := by decide +kernel
theorem d_M_countOpens_20 : decode b_M_countOpens 20 = .ok (.aload_n 0, 1) := by decide +kernel
theorem d_M_countOpens_21 : decode b_M_countOpens 21 = .ok (.getfield 45, 3) := by decide +kernel
theorem d_M_countOpens_24 : decode b_M_countOpens 24 = .ok (.iload_n 2, 1) := by decide +kernel
theorem d_M_countOpens_25 : decode b_M_countOpens 25 = .ok (.iaload, 1) := by decide +kernel
theorem d_M_countOpens_26 : decode b_M_countOpens 26 = .ok (.iastore, 1) := by decide +kernel
theorem d_M_countOpens_27 : decode b_M_countOpens 27 = .ok (.iinc 2 1, 3) := by decide +kernel
theorem d_M_countOpens_30 : decode b_M_countOpens 30 = .ok (.goto (-23), 3) := by decide +kernel
theorem d_M_countOpens_33 : decode b_M_countOpens 33 = .ok (.iconst 0, 1) := by decide +kernel
theorem d_M_countOpens_34 : decode b_M_countOpens 34 = .ok (.istore_n 2, 1) := by decide +kernel
theorem d_M_countOpens_35 : decode b_M_countOpens 35 = .ok (.aload_n 0, 1) := by decide +kernel
theorem d_M_countOpens_36 : decode b_M_countOpens 36 = .ok (.iload_n 1, 1) := by decide +kernel
theorem d_M_countOpens_37 : decode b_M_countOpens 37 = .ok (.invokevirtual 119, 3) := by decide +kernel
theorem d_M_countOpens_40 : decode b_M_countOpens 40 = .ok (.ifCond .eq 9, 3) := by decide +kernel
theorem d_M_countOpens_43 : decode b_M_countOpens 43 = .ok (.iinc 2 1, 3) := by decide +kernel
theorem d_M_countOpens_46 : decode b_M_countOpens 46 = .ok (.goto (-11), 3) := by decide +kernel
theorem d_M_countOpens_49 : decode b_M_countOpens 49 = .ok (.iload_n 2, 1) := by decide +kernel
theorem d_M_countOpens_50 : decode b_M_countOpens 50 = .ok (.ireturn, 1) := by decide +kernel
theorem d_M_opens_0 : decode b_M_opens 0 = .ok (.aload_n 0, 1) := by decide +kernel
theorem d_M_opens_1 : decode b_M_opens 1 = .ok (.iload_n 1, 1) := by decide +kernel
theorem d_M_opens_2 : decode b_M_opens 2 = .ok (.invokestatic 84, 3) := by decide +kernel
theorem d_M_opens_5 : decode b_M_opens 5 = .ok (.ifCond .eq 7, 3) := by decide +kernel
theorem d_M_opens_8 : decode b_M_opens 8 = .ok (.iconst 0, 1) := by decide +kernel
theorem d_M_opens_9 : decode b_M_opens 9 = .ok (.goto 4, 3) := by decide +kernel
theorem d_M_opens_12 : decode b_M_opens 12 = .ok (.iconst 1, 1) := by decide +kernel
theorem d_M_opens_13 : decode b_M_opens 13 = .ok (.putfield 55, 3) := by decide +kernel
theorem d_M_opens_16 : decode b_M_opens 16 = .ok (.aload_n 0, 1) := by decide +kernel
theorem d_M_opens_17 : decode b_M_opens 17 = .ok (.getfield 55, 3) := by decide +kernel
theorem d_M_opens_20 : decode b_M_opens 20 = .ok (.ifCond .ne 11, 3) := by decide +kernel
theorem d_M_opens_23 : decode b_M_opens 23 = .ok (.aload_n 0, 1) := by decide +kernel
theorem d_M_opens_24 : decode b_M_opens 24 = .ok (.iload_n 1, 1) := by decide +kernel
theorem d_M_opens_25 : decode b_M_opens 25 = .ok (.invokevirtual 122, 3) := by decide +kernel
theorem d_M_opens_28 : decode b_M_opens 28 = .ok (.goto 4, 3) := by decide +kernel
theorem d_M_opens_31 : decode b_M_opens 31 = .ok (.iconst 0, 1) := by decide +kernel
theorem d_M_opens_32 : decode b_M_opens 32 = .ok (.ireturn, 1) := by decide +kernel
theorem d_M_findAirline_0 : decode b_M_findAirline 0 = .ok (.iload_n 2, 1) := by decide +kernel
theorem d_M_findAirline_1 : decode b_M_findAirline 1 = .ok (.ifCond .ge 5, 3) := by decide +kernel
theorem d_M_findAirline_4 : decode b_M_findAirline 4 = .ok (.iconst 0, 1) := by decide +kernel
theorem d_M_findAirline_5 : decode b_M_findAirline 5 = .ok (.ireturn, 1) := by decide +kernel
theorem d_M_findAirline_6 : decode b_M_findAirline 6 = .ok (.aload_n 0, 1) := by decide +kernel
theorem d_M_findAirline_7 : decode b_M_findAirline 7 = .ok (.invokevirtual 101, 3) := by decide +kernel
theorem d_M_findAirline_10 : decode b_M_findAirline 10 = .ok (.pop, 1) := by decide +kernel
theorem d_M_findAirline_11 : decode b_M_findAirline 11 = .ok (.iconst 0, 1) := by decide +kernel
theorem d_M_findAirline_12 : decode b_M_findAirline 12 = .ok (.istore_n 3, 1) := by decide +kernel
theorem d_M_findAirline_13 : decode b_M_findAirline 13 = .ok (.iload_n 3, 1) := by decide +kernel
theorem d_M_findAirline_14 : decode b_M_findAirline 14 = .ok (.aload_n 0, 1) := by decide +kernel
theorem d_M_findAirline_15 : decode b_M_findAirline 15 = .ok (.getfield 58, 3) := by decide +kernel
theorem d_M_findAirline_18 : decode b_M_findAirline 18 = .ok (.if_icmp .ge 21, 3) := by decide +kernel
theorem d_M_findAirline_21 : decode b_M_findAirline 21 = .ok (.aload_n 0, 1) := by decide +kernel
theorem d_M_findAirline_22 : decode b_M_findAirline 22 = .ok (.getfield 48, 3) := by decide +kernel
theorem d_M_findAirline_25 : decode b_M_findAirline 25 = .ok (.iload_n 3, 1) := by decide +kernel
theorem d_M_findAirline_26 : decode b_M_findAirline 26 = .ok (.aload_n 0, 1) := by decide +kernel
theorem d_M_findAirline_27 : decode b_M_findAirline 27 = .ok (.getfield 45, 3) := by decide +kernel
theorem d_M_findAirline_30 : decode b_M_findAirline 30 = .ok (.iload_n 3, 1) := by decide +kernel
theorem d_M_findAirline_31 : decode b_M_findAirline 31 = .ok (.iaload, 1) := by decide +kernel
theorem d_M_findAirline_32 : decode b_M_findAirline 32 = .ok (.iastore, 1) := by decide +kernel
theorem d_M_findAirline_33 : decode b_M_findAirline 33 = .ok (.iinc 3 1, 3) := by decide +kernel
theorem d_M_findAirline_36 : decode b_M_findAirline 36 = .ok (.goto (-23), 3) := by decide +kernel
theorem d_M_findAirline_39 : decode b_M_findAirline 39 = .ok (.iconst 0, 1) := by decide +kernel
theorem d_M_findAirline_40 : decode b_M_findAirline 40 = .ok (.istore_n 3, 1) := by decide +kernel
theorem d_M_findAirline_41 : decode b_M_findAirline 41 = .ok (.iload_n 3, 1) := by decide +kernel
theorem d_M_findAirline_42 : decode b_M_findAirline 42 = .ok (.iload_n 2, 1) := by decide +kernel
theorem d_M_findAirline_43 : decode b_M_findAirline 43 = .ok (.if_icmp .gt 19, 3) := by decide +kernel
theorem d_M_findAirline_46 : decode b_M_findAirline 46 = .ok (.aload_n 0, 1) := by decide +kernel
theorem d_M_findAirline_47 : decode b_M_findAirline 47 = .ok (.iload_n 1, 1) := by decide +kernel
theorem d_M_findAirline_48 : decode b_M_findAirline 48 = .ok (.invokevirtual 119, 3) := by decide +kernel
theorem d_M_findAirline_51 : decode b_M_findAirline 51 = .ok (.ifCond .ne 5, 3) := by decide +kernel
theorem d_M_findAirline_54 : decode b_M_findAirline 54 = .ok (.iconst 0, 1) := by decide +kernel
theorem d_M_findAirline_55 : decode b_M_findAirline 55 = .ok (.ireturn, 1) := by decide +kernel
theorem d_M_findAirline_56 : decode b_M_findAirline 56 = .ok (.iinc 3 1, 3) := by decide +kernel
theorem d_M_findAirline_59 : decode b_M_findAirline 59 = .ok (.goto (-18), 3) := by decide +kernel
theorem d_M_findAirline_62 : decode b_M_findAirline 62 = .ok (.iconst 1, 1) := by decide +kernel
theorem d_M_findAirline_63 : decode b_M_findAirline 63 = .ok (.ireturn, 1) := by decide +kernel
theorem d_M_open_0 : decode b_M_open 0 = .ok (.iload_n 1, 1) := by decide +kernel
theorem d_M_open_1 : decode b_M_open 1 = .ok (.invokestatic 84, 3) := by decide +kernel
theorem d_M_open_4 : decode b_M_open 4 = .ok (.ifCond .eq 25, 3) := by decide +kernel
theorem d_M_open_7 : decode b_M_open 7 = .ok (.iload_n 3, 1) := by decide +kernel
theorem d_M_open_8 : decode b_M_open 8 = .ok (.ifCond .lt 21, 3) := by decide +kernel
theorem d_M_open_11 : decode b_M_open 11 = .ok (.iload_n 3, 1) := by decide +kernel
theorem d_M_open_12 : decode b_M_open 12 = .ok (.iconst 3, 1) := by decide +kernel
theorem d_M_open_13 : decode b_M_open 13 = .ok (.if_icmp .ge 16, 3) := by decide +kernel
theorem d_M_open_16 : decode b_M_open 16 = .ok (.aload_n 0, 1) := by decide +kernel
theorem d_M_open_17 : decode b_M_open 17 = .ok (.iload_n 1, 1) := by decide +kernel
theorem d_M_open_18 : decode b_M_open 18 = .ok (.iload_n 2, 1) := by decide +kernel
theorem d_M_open_19 : decode b_M_open 19 = .ok (.invokevirtual 125, 3) := by decide +kernel
theorem d_M_open_22 : decode b_M_open 22 = .ok (.ifCond .eq 7, 3) := by decide +kernel
theorem d_M_open_25 : decode b_M_open 25 = .ok (.iconst 1, 1) := by decide +kernel
theorem d_M_open_26 : decode b_M_open 26 = .ok (.goto 4, 3) := by decide +kernel
theorem d_M_open_29 : decode b_M_open 29 = .ok (.iconst 0, 1) := by decide +kernel
theorem d_M_open_30 : decode b_M_open 30 = .ok (.istore 4, 2) := by decide +kernel
theorem d_M_open_32 : decode b_M_open 32 = .ok (.aload_n 0, 1) := by decide +kernel
theorem d_M_open_33 : decode b_M_open 33 = .ok (.iload 4, 2) := by decide +kernel
theorem d_M_open_35 : decode b_M_open 35 = .ok (.ifCond .eq 7, 3) := by decide +kernel
theorem d_M_open_38 : decode b_M_open 38 = .ok (.iconst 0, 1) := by decide +kernel
theorem d_M_open_39 : decode b_M_open 39 = .ok (.goto 4, 3) := by decide +kernel
theorem d_M_open_42 : decode b_M_open 42 = .ok (.iconst 1, 1) := by decide +kernel
theorem d_M_open_43 : decode b_M_open 43 = .ok (.putfield 55, 3) := by decide +kernel
theorem d_M_open_46 : decode b_M_open 46 = .ok (.aload_n 0, 1) := by decide +kernel
theorem d_M_open_47 : decode b_M_open 47 = .ok (.getfield 55, 3) := by decide +kernel
theorem d_M_open_50 : decode b_M_open 50 = .ok (.ifCond .eq 5, 3) := by decide +kernel
theorem d_M_open_53 : decode b_M_open 53 = .ok (.lconst 0, 1) := by decide +kernel
theorem d_M_open_54 : decode b_M_open 54 = .ok (.lreturn, 1) := by decide +kernel
theorem d_M_open_55 : decode b_M_open 55 = .ok (.iload_n 3, 1) := by decide +kernel
theorem d_M_open_56 : decode b_M_open 56 = .ok (.ifCond .ne 11, 3) := by decide +kernel
theorem d_M_open_59 : decode b_M_open 59 = .ok (.aload_n 0, 1) := by decide +kernel
theorem d_M_open_60 : decode b_M_open 60 = .ok (.getfield 113, 3) := by decide +kernel
theorem d_M_open_63 : decode b_M_open 63 = .ok (.i2l, 1) := by decide +kernel
theorem d_M_open_64 : decode b_M_open 64 = .ok (.goto 20, 3) := by decide +kernel
theorem d_M_open_67 : decode b_M_open 67 = .ok (.iload_n 3, 1) := by decide +kernel
theorem d_M_open_68 : decode b_M_open 68 = .ok (.iconst 1, 1) := by decide +kernel
theorem d_M_open_69 : decode b_M_open 69 = .ok (.if_icmp .ne 11, 3) := by decide +kernel
theorem d_M_open_72 : decode b_M_open 72 = .ok (.aload_n 0, 1) := by decide +kernel
theorem d_M_open_73 : decode b_M_open 73 = .ok (.getfield 116, 3) := by decide +kernel
theorem d_M_open_76 : decode b_M_open 76 = .ok (.i2l, 1) := by decide +kernel
theorem d_M_open_77 : decode b_M_open 77 = .ok (.goto 7, 3) := by decide +kernel
theorem d_M_open_80 : decode b_M_open 80 = .ok (.aload_n 0, 1) := by decide +kernel
theorem d_M_open_81 : decode b_M_open 81 = .ok (.getfield 109, 3) := by decide +kernel
theorem d_M_open_84 : decode b_M_open 84 = .ok (.lreturn, 1) := by decide +kernel
theorem d_M_line_0 : decode b_M_line 0 = .ok (.aload_n 0, 1) := by decide +kernel
theorem d_M_line_1 : decode b_M_line 1 = .ok (.iload_n 1, 1) := by decide +kernel
theorem d_M_line_2 : decode b_M_line 2 = .ok (.invokestatic 84, 3) := by decide +kernel
theorem d_M_line_5 : decode b_M_line 5 = .ok (.ifCond .eq 16, 3) := by decide +kernel
theorem d_M_line_8 : decode b_M_line 8 = .ok (.iload_n 3, 1) := by decide +kernel
theorem d_M_line_9 : decode b_M_line 9 = .ok (.ifCond .eq 8, 3) := by decide +kernel
theorem d_M_line_12 : decode b_M_line 12 = .ok (.iload_n 3, 1) := by decide +kernel
theorem d_M_line_13 : decode b_M_line 13 = .ok (.iconst 1, 1) := by decide +kernel
theorem d_M_line_14 : decode b_M_line 14 = .ok (.if_icmp .ne 7, 3) := by decide +kernel
theorem d_M_line_17 : decode b_M_line 17 = .ok (.iconst 0, 1) := by decide +kernel
theorem d_M_line_18 : decode b_M_line 18 = .ok (.goto 4, 3) := by decide +kernel
theorem d_M_line_21 : decode b_M_line 21 = .ok (.iconst 1, 1) := by decide +kernel
theorem d_M_line_22 : decode b_M_line 22 = .ok (.putfield 55, 3) := by decide +kernel
theorem d_M_line_25 : decode b_M_line 25 = .ok (.aload_n 0, 1) := by decide +kernel
theorem d_M_line_26 : decode b_M_line 26 = .ok (.getfield 55, 3) := by decide +kernel
theorem d_M_line_29 : decode b_M_line 29 = .ok (.ifCond .eq 5, 3) := by decide +kernel
theorem d_M_line_32 : decode b_M_line 32 = .ok (.iconst 0, 1) := by decide +kernel
theorem d_M_line_33 : decode b_M_line 33 = .ok (.ireturn, 1) := by decide +kernel
theorem d_M_line_34 : decode b_M_line 34 = .ok (.aload_n 0, 1) := by decide +kernel
theorem d_M_line_35 : decode b_M_line 35 = .ok (.iload_n 1, 1) := by decide +kernel
theorem d_M_line_36 : decode b_M_line 36 = .ok (.iload_n 2, 1) := by decide +kernel
theorem d_M_line_37 : decode b_M_line 37 = .ok (.invokevirtual 125, 3) := by decide +kernel
theorem d_M_line_40 : decode b_M_line 40 = .ok (.ifCond .ne 5, 3) := by decide +kernel
theorem d_M_line_43 : decode b_M_line 43 = .ok (.iconst (-1), 1) := by decide +kernel
theorem d_M_line_44 : decode b_M_line 44 = .ok (.ireturn, 1) := by decide +kernel
theorem d_M_line_45 : decode b_M_line 45 = .ok (.iload_n 3, 1) := by decide +kernel
theorem d_M_line_46 : decode b_M_line 46 = .ok (.ifCond .ne 10, 3) := by decide +kernel
theorem d_M_line_49 : decode b_M_line 49 = .ok (.aload_n 0, 1) := by decide +kernel
theorem d_M_line_50 : decode b_M_line 50 = .ok (.getfield 113, 3) := by decide +kernel
theorem d_M_line_53 : decode b_M_line 53 = .ok (.goto 7, 3) := by decide +kernel
theorem d_M_line_56 : decode b_M_line 56 = .ok (.aload_n 0, 1) := by decide +kernel
theorem d_M_line_57 : decode b_M_line 57 = .ok (.getfield 116, 3) := by decide +kernel
theorem d_M_line_60 : decode b_M_line 60 = .ok (.ireturn, 1) := by decide +kernel
theorem d_M_netsOf_0 : decode b_M_netsOf 0 = .ok (.iconst 0, 1) := by decide +kernel
theorem d_M_netsOf_1 : decode b_M_netsOf 1 = .ok (.istore_n 2, 1) := by decide +kernel
theorem d_M_netsOf_2 : decode b_M_netsOf 2 = .ok (.iconst 0, 1) := by decide +kernel
theorem d_M_netsOf_3 : decode b_M_netsOf 3 = .ok (.istore_n 3, 1) := by decide +kernel
theorem d_M_netsOf_4 : decode b_M_netsOf 4 = .ok (.iload_n 3, 1) := by decide +kernel
theorem d_M_netsOf_5 : decode b_M_netsOf 5 = .ok (.aload_n 0, 1) := by decide +kernel
theorem d_M_netsOf_6 : decode b_M_netsOf 6 = .ok (.getfield 58, 3) := by decide +kernel
theorem d_M_netsOf_9 : decode b_M_netsOf 9 = .ok (.if_icmp .ge 47, 3) := by decide +kernel
theorem d_M_netsOf_12 : decode b_M_netsOf 12 = .ok (.aload_n 0, 1) := by decide +kernel
theorem d_M_netsOf_13 : decode b_M_netsOf 13 = .ok (.getfield 45, 3) := by decide +kernel
theorem d_M_netsOf_16 : decode b_M_netsOf 16 = .ok (.iload_n 3, 1) := by decide +kernel
theorem d_M_netsOf_17 : decode b_M_netsOf 17 = .ok (.iaload, 1) := by decide +kernel
theorem d_M_netsOf_18 : decode b_M_netsOf 18 = .ok (.iload_n 1, 1) := by decide +kernel
theorem d_M_netsOf_19 : decode b_M_netsOf 19 = .ok (.if_icmp .ne 31, 3) := by decide +kernel
theorem d_M_netsOf_22 : decode b_M_netsOf 22 = .ok (.aload_n 0, 1) := by decide +kernel
theorem d_M_netsOf_23 : decode b_M_netsOf 23 = .ok (.getfield 7, 3) := by decide +kernel
theorem d_M_netsOf_26 : decode b_M_netsOf 26 = .ok (.iload_n 3, 1) := by decide +kernel
theorem d_M_netsOf_27 : decode b_M_netsOf 27 = .ok (.baload, 1) := by decide +kernel
theorem d_M_netsOf_28 : decode b_M_netsOf 28 = .ok (.ifCond .eq 22, 3) := by decide +kernel
theorem d_M_netsOf_31 : decode b_M_netsOf 31 = .ok (.aload_n 0, 1) := by decide +kernel
theorem d_M_netsOf_32 : decode b_M_netsOf 32 = .ok (.iload_n 3, 1) := by decide +kernel
theorem d_M_netsOf_33 : decode b_M_netsOf 33 = .ok (.invokevirtual 105, 3) := by decide +kernel
theorem d_M_netsOf_36 : decode b_M_netsOf 36 = .ok (.iconst (-1), 1) := by decide +kernel
theorem d_M_netsOf_37 : decode b_M_netsOf 37 = .ok (.if_icmp .eq 13, 3) := by decide +kernel
theorem d_M_netsOf_40 : decode b_M_netsOf 40 = .ok (.iload_n 2, 1) := by decide +kernel
theorem d_M_netsOf_41 : decode b_M_netsOf 41 = .ok (.iconst 1, 1) := by decide +kernel
theorem d_M_netsOf_42 : decode b_M_netsOf 42 = .ok (.aload_n 0, 1) := by decide +kernel
theorem d_M_netsOf_43 : decode b_M_netsOf 43 = .ok (.iload_n 3, 1) := by decide +kernel
theorem d_M_netsOf_44 : decode b_M_netsOf 44 = .ok (.invokevirtual 105, 3) := by decide +kernel
theorem d_M_netsOf_47 : decode b_M_netsOf 47 = .ok (.ishl, 1) := by decide +kernel
theorem d_M_netsOf_48 : decode b_M_netsOf 48 = .ok (.ior, 1) := by decide +kernel
theorem d_M_netsOf_49 : decode b_M_netsOf 49 = .ok (.istore_n 2, 1) := by decide +kernel
theorem d_M_netsOf_50 : decode b_M_netsOf 50 = .ok (.iinc 3 1, 3) := by decide +kernel
theorem d_M_netsOf_53 : decode b_M_netsOf 53 = .ok (.goto (-49), 3) := by decide +kernel
theorem d_M_netsOf_56 : decode b_M_netsOf 56 = .ok (.iload_n 2, 1) := by decide +kernel
theorem d_M_netsOf_57 : decode b_M_netsOf 57 = .ok (.ireturn, 1) := by decide +kernel
theorem d_M_isShort_0 : decode b_M_isShort 0 = .ok (.iload_n 0, 1) := by decide +kernel
theorem d_M_isShort_1 : decode b_M_isShort 1 = .ok (.iload_n 0, 1) := by decide +kernel
theorem d_M_isShort_2 : decode b_M_isShort 2 = .ok (.iconst 1, 1) := by decide +kernel
theorem d_M_isShort_3 : decode b_M_isShort 3 = .ok (.isub, 1) := by decide +kernel
theorem d_M_isShort_4 : decode b_M_isShort 4 = .ok (.iand, 1) := by decide +kernel
theorem d_M_isShort_5 : decode b_M_isShort 5 = .ok (.ifCond .eq 7, 3) := by decide +kernel
theorem d_M_isShort_8 : decode b_M_isShort 8 = .ok (.iconst 1, 1) := by decide +kernel
theorem d_M_isShort_9 : decode b_M_isShort 9 = .ok (.goto 4, 3) := by decide +kernel
theorem d_M_isShort_12 : decode b_M_isShort 12 = .ok (.iconst 0, 1) := by decide +kernel
theorem d_M_isShort_13 : decode b_M_isShort 13 = .ok (.ireturn, 1) := by decide +kernel
theorem d_M_countShorts_0 : decode b_M_countShorts 0 = .ok (.aload_n 0, 1) := by decide +kernel
theorem d_M_countShorts_1 : decode b_M_countShorts 1 = .ok (.invokevirtual 101, 3) := by decide +kernel
theorem d_M_countShorts_4 : decode b_M_countShorts 4 = .ok (.istore_n 1, 1) := by decide +kernel
theorem d_M_countShorts_5 : decode b_M_countShorts 5 = .ok (.iconst 0, 1) := by decide +kernel
theorem d_M_countShorts_6 : decode b_M_countShorts 6 = .ok (.istore_n 2, 1) := by decide +kernel
theorem d_M_countShorts_7 : decode b_M_countShorts 7 = .ok (.iconst 0, 1) := by decide +kernel
theorem d_M_countShorts_8 : decode b_M_countShorts 8 = .ok (.istore_n 3, 1) := by decide +kernel
theorem d_M_countShorts_9 : decode b_M_countShorts 9 = .ok (.iload_n 3, 1) := by decide +kernel
theorem d_M_countShorts_10 : decode b_M_countShorts 10 = .ok (.iload_n 1, 1) := by decide +kernel
theorem d_M_countShorts_11 : decode b_M_countShorts 11 = .ok (.if_icmp .ge 28, 3) := by decide +kernel
theorem d_M_countShorts_14 : decode b_M_countShorts 14 = .ok (.iload_n 2, 1) := by decide +kernel
theorem d_M_countShorts_15 : decode b_M_countShorts 15 = .ok (.aload_n 0, 1) := by decide +kernel
theorem d_M_countShorts_16 : decode b_M_countShorts 16 = .ok (.iload_n 3, 1) := by decide +kernel
theorem d_M_countShorts_17 : decode b_M_countShorts 17 = .ok (.invokevirtual 128, 3) := by decide +kernel
theorem d_M_countShorts_20 : decode b_M_countShorts 20 = .ok (.invokestatic 131, 3) := by decide +kernel
theorem d_M_countShorts_23 : decode b_M_countShorts 23 = .ok (.ifCond .eq 7, 3) := by decide +kernel
theorem d_M_countShorts_26 : decode b_M_countShorts 26 = .ok (.iconst 1, 1) := by decide +kernel
theorem d_M_countShorts_27 : decode b_M_countShorts 27 = .ok (.goto 4, 3) := by decide +kernel
theorem d_M_countShorts_30 : decode b_M_countShorts 30 = .ok (.iconst 0, 1) := by decide +kernel
theorem d_M_countShorts_31 : decode b_M_countShorts 31 = .ok (.iadd, 1) := by decide +kernel
theorem d_M_countShorts_32 : decode b_M_countShorts 32 = .ok (.istore_n 2, 1) := by decide +kernel
theorem d_M_countShorts_33 : decode b_M_countShorts 33 = .ok (.iinc 3 1, 3) := by decide +kernel
theorem d_M_countShorts_36 : decode b_M_countShorts 36 = .ok (.goto (-27), 3) := by decide +kernel
theorem d_M_countShorts_39 : decode b_M_countShorts 39 = .ok (.iload_n 2, 1) := by decide +kernel
theorem d_M_countShorts_40 : decode b_M_countShorts 40 = .ok (.ireturn, 1) := by decide +kernel
theorem d_M_shorts_0 : decode b_M_shorts 0 = .ok (.aload_n 0, 1) := by decide +kernel
theorem d_M_shorts_1 : decode b_M_shorts 1 = .ok (.iconst 0, 1) := by decide +kernel
theorem d_M_shorts_2 : decode b_M_shorts 2 = .ok (.putfield 55, 3) := by decide +kernel
theorem d_M_shorts_5 : decode b_M_shorts 5 = .ok (.aload_n 0, 1) := by decide +kernel
theorem d_M_shorts_6 : decode b_M_shorts 6 = .ok (.invokevirtual 134, 3) := by decide +kernel
theorem d_M_shorts_9 : decode b_M_shorts 9 = .ok (.ireturn, 1) := by decide +kernel
theorem d_M_shortAt_0 : decode b_M_shortAt 0 = .ok (.aload_n 0, 1) := by decide +kernel
theorem d_M_shortAt_1 : decode b_M_shortAt 1 = .ok (.invokevirtual 101, 3) := by decide +kernel
theorem d_M_shortAt_4 : decode b_M_shortAt 4 = .ok (.istore_n 2, 1) := by decide +kernel
theorem d_M_shortAt_5 : decode b_M_shortAt 5 = .ok (.iload_n 1, 1) := by decide +kernel
theorem d_M_shortAt_6 : decode b_M_shortAt 6 = .ok (.istore_n 3, 1) := by decide +kernel
theorem d_M_shortAt_7 : decode b_M_shortAt 7 = .ok (.iconst 0, 1) := by decide +kernel
theorem d_M_shortAt_8 : decode b_M_shortAt 8 = .ok (.istore 4, 2) := by decide +kernel
theorem d_M_shortAt_10 : decode b_M_shortAt 10 = .ok (.iload 4, 2) := by decide +kernel
theorem d_M_shortAt_12 : decode b_M_shortAt 12 = .ok (.iload_n 2, 1) := by decide +kernel
theorem d_M_shortAt_13 : decode b_M_shortAt 13 = .ok (.if_icmp .ge 38, 3) := by decide +kernel
theorem d_M_shortAt_16 : decode b_M_shortAt 16 = .ok (.iload_n 1, 1) := by decide +kernel
theorem d_M_shortAt_17 : decode b_M_shortAt 17 = .ok (.ifCond .lt 34, 3) := by decide +kernel
theorem d_M_shortAt_20 : decode b_M_shortAt 20 = .ok (.aload_n 0, 1) := by decide +kernel
theorem d_M_shortAt_21 : decode b_M_shortAt 21 = .ok (.iload 4, 2) := by decide +kernel
theorem d_M_shortAt_23 : decode b_M_shortAt 23 = .ok (.invokevirtual 128, 3) := by decide +kernel
theorem d_M_shortAt_26 : decode b_M_shortAt 26 = .ok (.invokestatic 131, 3) := by decide +kernel
theorem d_M_shortAt_29 : decode b_M_shortAt 29 = .ok (.ifCond .ne 6, 3) := by decide +kernel
theorem d_M_shortAt_32 : decode b_M_shortAt 32 = .ok (.goto 13, 3) := by decide +kernel
theorem d_M_shortAt_35 : decode b_M_shortAt 35 = .ok (.iload_n 3, 1) := by decide +kernel
theorem d_M_shortAt_36 : decode b_M_shortAt 36 = .ok (.ifCond .ne 6, 3) := by decide +kernel
theorem d_M_shortAt_39 : decode b_M_shortAt 39 = .ok (.iload 4, 2) := by decide +kernel
theorem d_M_shortAt_41 : decode b_M_shortAt 41 = .ok (.ireturn, 1) := by decide +kernel
theorem d_M_shortAt_42 : decode b_M_shortAt 42 = .ok (.iinc 3 (-1), 3) := by decide +kernel
theorem d_M_shortAt_45 : decode b_M_shortAt 45 = .ok (.iinc 4 1, 3) := by decide +kernel
theorem d_M_shortAt_48 : decode b_M_shortAt 48 = .ok (.goto (-38), 3) := by decide +kernel
theorem d_M_shortAt_51 : decode b_M_shortAt 51 = .ok (.iconst (-1), 1) := by decide +kernel
theorem d_M_shortAt_52 : decode b_M_shortAt 52 = .ok (.ireturn, 1) := by decide +kernel
theorem d_M_lowest_0 : decode b_M_lowest 0 = .ok (.iconst 0, 1) := by decide +kernel
theorem d_M_lowest_1 : decode b_M_lowest 1 = .ok (.istore_n 1, 1) := by decide +kernel
theorem d_M_lowest_2 : decode b_M_lowest 2 = .ok (.iload_n 0, 1) := by decide +kernel
theorem d_M_lowest_3 : decode b_M_lowest 3 = .ok (.iload_n 1, 1) := by decide +kernel
theorem d_M_lowest_4 : decode b_M_lowest 4 = .ok (.ishr, 1) := by decide +kernel
theorem d_M_lowest_5 : decode b_M_lowest 5 = .ok (.iconst 1, 1) := by decide +kernel
theorem d_M_lowest_6 : decode b_M_lowest 6 = .ok (.iand, 1) := by decide +kernel
theorem d_M_lowest_7 : decode b_M_lowest 7 = .ok (.ifCond .ne 9, 3) := by decide +kernel
theorem d_M_lowest_10 : decode b_M_lowest 10 = .ok (.iinc 1 1, 3) := by decide +kernel
theorem d_M_lowest_13 : decode b_M_lowest 13 = .ok (.goto (-11), 3) := by decide +kernel
theorem d_M_lowest_16 : decode b_M_lowest 16 = .ok (.iload_n 1, 1) := by decide +kernel
theorem d_M_lowest_17 : decode b_M_lowest 17 = .ok (.ireturn, 1) := by decide +kernel
theorem d_M_netsOfGroup_0 : decode b_M_netsOfGroup 0 = .ok (.iconst 0, 1) := by decide +kernel
theorem d_M_netsOfGroup_1 : decode b_M_netsOfGroup 1 = .ok (.istore_n 2, 1) := by decide +kernel
theorem d_M_netsOfGroup_2 : decode b_M_netsOfGroup 2 = .ok (.iconst 0, 1) := by decide +kernel
theorem d_M_netsOfGroup_3 : decode b_M_netsOfGroup 3 = .ok (.istore_n 3, 1) := by decide +kernel
theorem d_M_netsOfGroup_4 : decode b_M_netsOfGroup 4 = .ok (.iload_n 3, 1) := by decide +kernel
theorem d_M_netsOfGroup_5 : decode b_M_netsOfGroup 5 = .ok (.aload_n 0, 1) := by decide +kernel
theorem d_M_netsOfGroup_6 : decode b_M_netsOfGroup 6 = .ok (.getfield 58, 3) := by decide +kernel
theorem d_M_netsOfGroup_9 : decode b_M_netsOfGroup 9 = .ok (.if_icmp .ge 38, 3) := by decide +kernel
theorem d_M_netsOfGroup_12 : decode b_M_netsOfGroup 12 = .ok (.aload_n 0, 1) := by decide +kernel
theorem d_M_netsOfGroup_13 : decode b_M_netsOfGroup 13 = .ok (.getfield 48, 3) := by decide +kernel
theorem d_M_netsOfGroup_16 : decode b_M_netsOfGroup 16 = .ok (.iload_n 3, 1) := by decide +kernel
theorem d_M_netsOfGroup_17 : decode b_M_netsOfGroup 17 = .ok (.iaload, 1) := by decide +kernel
theorem d_M_netsOfGroup_18 : decode b_M_netsOfGroup 18 = .ok (.iload_n 1, 1) := by decide +kernel
theorem d_M_netsOfGroup_19 : decode b_M_netsOfGroup 19 = .ok (.if_icmp .ne 22, 3) := by decide +kernel
theorem d_M_netsOfGroup_22 : decode b_M_netsOfGroup 22 = .ok (.aload_n 0, 1) := by decide +kernel
theorem d_M_netsOfGroup_23 : decode b_M_netsOfGroup 23 = .ok (.iload_n 3, 1) := by decide +kernel
theorem d_M_netsOfGroup_24 : decode b_M_netsOfGroup 24 = .ok (.invokevirtual 105, 3) := by decide +kernel
theorem d_M_netsOfGroup_27 : decode b_M_netsOfGroup 27 = .ok (.iconst (-1), 1) := by decide +kernel
theorem d_M_netsOfGroup_28 : decode b_M_netsOfGroup 28 = .ok (.if_icmp .eq 13, 3) := by decide +kernel
theorem d_M_netsOfGroup_31 : decode b_M_netsOfGroup 31 = .ok (.iload_n 2, 1) := by decide +kernel
theorem d_M_netsOfGroup_32 : decode b_M_netsOfGroup 32 = .ok (.iconst 1, 1) := by decide +kernel
theorem d_M_netsOfGroup_33 : decode b_M_netsOfGroup 33 = .ok (.aload_n 0, 1) := by decide +kernel
theorem d_M_netsOfGroup_34 : decode b_M_netsOfGroup 34 = .ok (.iload_n 3, 1) := by decide +kernel
theorem d_M_netsOfGroup_35 : decode b_M_netsOfGroup 35 = .ok (.invokevirtual 105, 3) := by decide +kernel
theorem d_M_netsOfGroup_38 : decode b_M_netsOfGroup 38 = .ok (.ishl, 1) := by decide +kernel
theorem d_M_netsOfGroup_39 : decode b_M_netsOfGroup 39 = .ok (.ior, 1) := by decide +kernel
theorem d_M_netsOfGroup_40 : decode b_M_netsOfGroup 40 = .ok (.istore_n 2, 1) := by decide +kernel
theorem d_M_netsOfGroup_41 : decode b_M_netsOfGroup 41 = .ok (.iinc 3 1, 3) := by decide +kernel
theorem d_M_netsOfGroup_44 : decode b_M_netsOfGroup 44 = .ok (.goto (-40), 3) := by decide +kernel
theorem d_M_netsOfGroup_47 : decode b_M_netsOfGroup 47 = .ok (.iload_n 2, 1) := by decide +kernel
theorem d_M_netsOfGroup_48 : decode b_M_netsOfGroup 48 = .ok (.ireturn, 1) := by decide +kernel
theorem d_M_findJoin_0 : decode b_M_findJoin 0 = .ok (.iconst 0, 1) := by decide +kernel
theorem d_M_findJoin_1 : decode b_M_findJoin 1 = .ok (.istore_n 2, 1) := by decide +kernel
theorem d_M_findJoin_2 : decode b_M_findJoin 2 = .ok (.iload_n 2, 1) := by decide +kernel
theorem d_M_findJoin_3 : decode b_M_findJoin 3 = .ok (.aload_n 0, 1) := by decide +kernel
theorem d_M_findJoin_4 : decode b_M_findJoin 4 = .ok (.getfield 58, 3) := by decide +kernel
theorem d_M_findJoin_7 : decode b_M_findJoin 7 = .ok (.if_icmp .ge 33, 3) := by decide +kernel
theorem d_M_findJoin_10 : decode b_M_findJoin 10 = .ok (.aload_n 0, 1) := by decide +kernel
theorem d_M_findJoin_11 : decode b_M_findJoin 11 = .ok (.getfield 48, 3) := by decide +kernel
theorem d_M_findJoin_14 : decode b_M_findJoin 14 = .ok (.iload_n 2, 1) := by decide +kernel
theorem d_M_findJoin_15 : decode b_M_findJoin 15 = .ok (.aload_n 0, 1) := by decide +kernel
theorem d_M_findJoin_16 : decode b_M_findJoin 16 = .ok (.getfield 45, 3) := by decide +kernel
theorem d_M_findJoin_19 : decode b_M_findJoin 19 = .ok (.iload_n 2, 1) := by decide +kernel
theorem d_M_findJoin_20 : decode b_M_findJoin 20 = .ok (.iaload, 1) := by decide +kernel
theorem d_M_findJoin_21 : decode b_M_findJoin 21 = .ok (.iload_n 1, 1) := by decide +kernel
theorem d_M_findJoin_22 : decode b_M_findJoin 22 = .ok (.if_icmp .ne 7, 3) := by decide +kernel
theorem d_M_findJoin_25 : decode b_M_findJoin 25 = .ok (.iload_n 2, 1) := by decide +kernel
theorem d_M_findJoin_26 : decode b_M_findJoin 26 = .ok (.goto 7, 3) := by decide +kernel
theorem d_M_findJoin_29 : decode b_M_findJoin 29 = .ok (.bipush (-2), 2) := by decide +kernel
theorem d_M_findJoin_31 : decode b_M_findJoin 31 = .ok (.iload_n 2, 1) := by decide +kernel
theorem d_M_findJoin_32 : decode b_M_findJoin 32 = .ok (.isub, 1) := by decide +kernel
theorem d_M_findJoin_33 : decode b_M_findJoin 33 = .ok (.iastore, 1) := by decide +kernel
theorem d_M_findJoin_34 : decode b_M_findJoin 34 = .ok (.iinc 2 1, 3) := by decide +kernel
theorem d_M_findJoin_37 : decode b_M_findJoin 37 = .ok (.goto (-35), 3) := by decide +kernel
theorem d_M_findJoin_40 : decode b_M_findJoin 40 = .ok (.iconst 0, 1) := by decide +kernel
theorem d_M_findJoin_41 : decode b_M_findJoin 41 = .ok (.istore_n 2, 1) := by decide +kernel
theorem d_M_findJoin_42 : decode b_M_findJoin 42 = .ok (.iload_n 2, 1) := by decide +kernel
theorem d_M_findJoin_43 : decode b_M_findJoin 43 = .ok (.aload_n 0, 1) := by decide +kernel
theorem d_M_findJoin_44 : decode b_M_findJoin 44 = .ok (.getfield 58, 3) := by decide +kernel
theorem d_M_findJoin_47 : decode b_M_findJoin 47 = .ok (.if_icmp .ge 160, 3) := by decide +kernel
theorem d_M_findJoin_50 : decode b_M_findJoin 50 = .ok (.iconst 0, 1) := by decide +kernel
theorem d_M_findJoin_51 : decode b_M_findJoin 51 = .ok (.istore_n 3, 1) := by decide +kernel
theorem d_M_findJoin_52 : decode b_M_findJoin 52 = .ok (.iload_n 3, 1) := by decide +kernel
theorem d_M_findJoin_53 : decode b_M_findJoin 53 = .ok (.iload_n 2, 1) := by decide +kernel
theorem d_M_findJoin_54 : decode b_M_findJoin 54 = .ok (.if_icmp .ge 147, 3) := by decide +kernel
theorem d_M_findJoin_57 : decode b_M_findJoin 57 = .ok (.aload_n 0, 1) := by decide +kernel
theorem d_M_findJoin_58 : decode b_M_findJoin 58 = .ok (.getfield 45, 3) := by decide +kernel
theorem d_M_findJoin_61 : decode b_M_findJoin 61 = .ok (.iload_n 3, 1) := by decide +kernel
theorem d_M_findJoin_62 : decode b_M_findJoin 62 = .ok (.iaload, 1) := by decide +kernel
theorem d_M_findJoin_63 : decode b_M_findJoin 63 = .ok (.iload_n 1, 1) := by decide +kernel
theorem d_M_findJoin_64 : decode b_M_findJoin 64 = .ok (.if_icmp .ne 131, 3) := by decide +kernel
theorem d_M_findJoin_67 : decode b_M_findJoin 67 = .ok (.aload_n 0, 1) := by decide +kernel
theorem d_M_findJoin_68 : decode b_M_findJoin 68 = .ok (.getfield 45, 3) := by decide +kernel
theorem d_M_findJoin_71 : decode b_M_findJoin 71 = .ok (.iload_n 2, 1) := by decide +kernel
theorem d_M_findJoin_72 : decode b_M_findJoin 72 = .ok (.iaload, 1) := by decide +kernel
theorem d_M_findJoin_73 : decode b_M_findJoin 73 = .ok (.iload_n 1, 1) := by decide +kernel
theorem d_M_findJoin_74 : decode b_M_findJoin 74 = .ok (.if_icmp .ne 121, 3) := by decide +kernel
theorem d_M_findJoin_77 : decode b_M_findJoin 77 = .ok (.aload_n 0, 1) := by decide +kernel
theorem d_M_findJoin_78 : decode b_M_findJoin 78 = .ok (.iload_n 3, 1) := by decide +kernel
theorem d_M_findJoin_79 : decode b_M_findJoin 79 = .ok (.iload_n 2, 1) := by decide +kernel
theorem d_M_findJoin_80 : decode b_M_findJoin 80 = .ok (.invokevirtual 94, 3) := by decide +kernel
theorem d_M_findJoin_83 : decode b_M_findJoin 83 = .ok (.ifCond .eq 112, 3) := by decide +kernel
theorem d_M_findJoin_86 : decode b_M_findJoin 86 = .ok (.aload_n 0, 1) := by decide +kernel
theorem d_M_findJoin_87 : decode b_M_findJoin 87 = .ok (.getfield 48, 3) := by decide +kernel
theorem d_M_findJoin_90 : decode b_M_findJoin 90 = .ok (.iload_n 3, 1) := by decide +kernel
theorem d_M_findJoin_91 : decode b_M_findJoin 91 = .ok (.iaload, 1) := by decide +kernel
theorem d_M_findJoin_92 : decode b_M_findJoin 92 = .ok (.aload_n 0, 1) := by decide +kernel
theorem d_M_findJoin_93 : decode b_M_findJoin 93 = .ok (.getfield 48, 3) := by decide +kernel
theorem d_M_findJoin_96 : decode b_M_findJoin 96 = .ok (.iload_n 2, 1) := by decide +kernel
theorem d_M_findJoin_97 : decode b_M_findJoin 97 = .ok (.iaload, 1) := by decide +kernel
theorem d_M_findJoin_98 : decode b_M_findJoin 98 = .ok (.if_icmp .ne 6, 3) := by decide +kernel
theorem d_M_findJoin_101 : decode b_M_findJoin 101 = .ok (.goto 94, 3) := by decide +kernel
theorem d_M_findJoin_104 : decode b_M_findJoin 104 = .ok (.aload_n 0, 1) := by decide +kernel
theorem d_M_findJoin_105 : decode b_M_findJoin 105 = .ok (.getfield 48, 3) := by decide +kernel
theorem d_M_findJoin_108 : decode b_M_findJoin 108 = .ok (.iload_n 2, 1) := by decide +kernel
theorem d_M_findJoin_109 : decode b_M_findJoin 109 = .ok (.iaload, 1) := by decide +kernel
theorem d_M_findJoin_110 : decode b_M_findJoin 110 = .ok (.istore 4, 2) := by decide +kernel
theorem d_M_findJoin_112 : decode b_M_findJoin 112 = .ok (.aload_n 0, 1) := by decide +kernel
theorem d_M_findJoin_113 : decode b_M_findJoin 113 = .ok (.getfield 48, 3) := by decide +kernel
theorem d_M_findJoin_116 : decode b_M_findJoin 116 = .ok (.iload_n 3, 1) := by decide +kernel
theorem d_M_findJoin_117 : decode b_M_findJoin 117 = .ok (.iaload, 1) := by decide +kernel
theorem d_M_findJoin_118 : decode b_M_findJoin 118 = .ok (.istore 5, 2) := by decide +kernel
theorem d_M_findJoin_120 : decode b_M_findJoin 120 = .ok (.iconst 0, 1) := by decide +kernel
theorem d_M_findJoin_121 : decode b_M_findJoin 121 = .ok (.istore 6, 2) := by decide +kernel
theorem d_M_findJoin_123 : decode b_M_findJoin 123 = .ok (.iload 6, 2) := by decide +kernel
theorem d_M_findJoin_125 : decode b_M_findJoin 125 = .ok (.aload_n 0, 1) := by decide +kernel
theorem d_M_findJoin_126 : decode b_M_findJoin 126 = .ok (.getfield 58, 3) := by decide +kernel
theorem d_M_findJoin_129 : decode b_M_findJoin 129 = .ok (.if_icmp .ge 40, 3) := by decide +kernel
theorem d_M_findJoin_132 : decode b_M_findJoin 132 = .ok (.aload_n 0, 1) := by decide +kernel
theorem d_M_findJoin_133 : decode b_M_findJoin 133 = .ok (.getfield 48, 3) := by decide +kernel
theorem d_M_findJoin_136 : decode b_M_findJoin 136 = .ok (.iload 6, 2) := by decide +kernel
theorem d_M_findJoin_138 : decode b_M_findJoin 138 = .ok (.aload_n 0, 1) := by decide +kernel
theorem d_M_findJoin_139 : decode b_M_findJoin 139 = .ok (.getfield 48, 3) := by decide +kernel
theorem d_M_findJoin_142 : decode b_M_findJoin 142 = .ok (.iload 6, 2) := by decide +kernel
theorem d_M_findJoin_144 : decode b_M_findJoin 144 = .ok (.iaload, 1) := by decide +kernel
theorem d_M_findJoin_145 : decode b_M_findJoin 145 = .ok (.iload 4, 2) := by decide +kernel
theorem d_M_findJoin_147 : decode b_M_findJoin 147 = .ok (.if_icmp .ne 8, 3) := by decide +kernel
theorem d_M_findJoin_150 : decode b_M_findJoin 150 = .ok (.iload 5, 2) := by decide +kernel
theorem d_M_findJoin_152 : decode b_M_findJoin 152 = .ok (.goto 10, 3) := by decide +kernel
theorem d_M_findJoin_155 : decode b_M_findJoin 155 = .ok (.aload_n 0, 1) := by decide +kernel
theorem d_M_findJoin_156 : decode b_M_findJoin 156 = .ok (.getfield 48, 3) := by decide +kernel
theorem d_M_findJoin_159 : decode b_M_findJoin 159 = .ok (.iload 6, 2) := by decide +kernel
theorem d_M_findJoin_161 : decode b_M_findJoin 161 = .ok (.iaload, 1) := by decide +kernel
theorem d_M_findJoin_162 : decode b_M_findJoin 162 = .ok (.iastore, 1) := by decide +kernel
theorem d_M_findJoin_163 : decode b_M_findJoin 163 = .ok (.iinc 6 1, 3) := by decide +kernel
theorem d_M_findJoin_166 : decode b_M_findJoin 166 = .ok (.goto (-43), 3) := by decide +kernel
theorem d_M_findJoin_169 : decode b_M_findJoin 169 = .ok (.aload_n 0, 1) := by decide +kernel
theorem d_M_findJoin_170 : decode b_M_findJoin 170 = .ok (.iload 5, 2) := by decide +kernel
theorem d_M_findJoin_172 : decode b_M_findJoin 172 = .ok (.invokevirtual 137, 3) := by decide +kernel
theorem d_M_findJoin_175 : decode b_M_findJoin 175 = .ok (.invokestatic 131, 3) := by decide +kernel
theorem d_M_findJoin_178 : decode b_M_findJoin 178 = .ok (.ifCond .ne 6, 3) := by decide +kernel
theorem d_M_findJoin_181 : decode b_M_findJoin 181 = .ok (.goto 14, 3) := by decide +kernel
theorem d_M_findJoin_184 : decode b_M_findJoin 184 = .ok (.aload_n 0, 1) := by decide +kernel
theorem d_M_findJoin_185 : decode b_M_findJoin 185 = .ok (.iload_n 3, 1) := by decide +kernel
theorem d_M_findJoin_186 : decode b_M_findJoin 186 = .ok (.putfield 113, 3) := by decide +kernel
theorem d_M_findJoin_189 : decode b_M_findJoin 189 = .ok (.aload_n 0, 1) := by decide +kernel
theorem d_M_findJoin_190 : decode b_M_findJoin 190 = .ok (.iload_n 2, 1) := by decide +kernel
theorem d_M_findJoin_191 : decode b_M_findJoin 191 = .ok (.putfield 116, 3) := by decide +kernel
theorem d_M_findJoin_194 : decode b_M_findJoin 194 = .ok (.return_, 1) := by decide +kernel
theorem d_M_findJoin_195 : decode b_M_findJoin 195 = .ok (.iinc 3 1, 3) := by decide +kernel
theorem d_M_findJoin_198 : decode b_M_findJoin 198 = .ok (.goto (-146), 3) := by decide +kernel
theorem d_M_findJoin_201 : decode b_M_findJoin 201 = .ok (.iinc 2 1, 3) := by decide +kernel
theorem d_M_findJoin_204 : decode b_M_findJoin 204 = .ok (.goto (-162), 3) := by decide +kernel
theorem d_M_findJoin_207 : decode b_M_findJoin 207 = .ok (.return_, 1) := by decide +kernel
theorem d_M_short2_0 : decode b_M_short2 0 = .ok (.iload_n 2, 1) := by decide +kernel
theorem d_M_short2_1 : decode b_M_short2 1 = .ok (.ifCond .lt 16, 3) := by decide +kernel
theorem d_M_short2_4 : decode b_M_short2 4 = .ok (.iload_n 2, 1) := by decide +kernel
theorem d_M_short2_5 : decode b_M_short2 5 = .ok (.iconst 5, 1) := by decide +kernel
theorem d_M_short2_6 : decode b_M_short2 6 = .ok (.if_icmp .ge 11, 3) := by decide +kernel
theorem d_M_short2_9 : decode b_M_short2 9 = .ok (.aload_n 0, 1) := by decide +kernel
theorem d_M_short2_10 : decode b_M_short2 10 = .ok (.iload_n 1, 1) := by decide +kernel
theorem d_M_short2_11 : decode b_M_short2 11 = .ok (.invokevirtual 140, 3) := by decide +kernel
theorem d_M_short2_14 : decode b_M_short2 14 = .ok (.goto 4, 3) := by decide +kernel
theorem d_M_short2_17 : decode b_M_short2 17 = .ok (.iconst (-1), 1) := by decide +kernel
theorem d_M_short2_18 : decode b_M_short2 18 = .ok (.istore_n 3, 1) := by decide +kernel
theorem d_M_short2_19 : decode b_M_short2 19 = .ok (.aload_n 0, 1) := by decide +kernel
theorem d_M_short2_20 : decode b_M_short2 20 = .ok (.iload_n 3, 1) := by decide +kernel
theorem d_M_short2_21 : decode b_M_short2 21 = .ok (.iconst (-1), 1) := by decide +kernel
theorem d_M_short2_22 : decode b_M_short2 22 = .ok (.if_icmp .ne 7, 3) := by decide +kernel
theorem d_M_short2_25 : decode b_M_short2 25 = .ok (.iconst 1, 1) := by decide +kernel
theorem d_M_short2_26 : decode b_M_short2 26 = .ok (.goto 4, 3) := by decide +kernel
theorem d_M_short2_29 : decode b_M_short2 29 = .ok (.iconst 0, 1) := by decide +kernel
theorem d_M_short2_30 : decode b_M_short2 30 = .ok (.putfield 55, 3) := by decide +kernel
theorem d_M_short2_33 : decode b_M_short2 33 = .ok (.aload_n 0, 1) := by decide +kernel
theorem d_M_short2_34 : decode b_M_short2 34 = .ok (.getfield 55, 3) := by decide +kernel
theorem d_M_short2_37 : decode b_M_short2 37 = .ok (.ifCond .eq 5, 3) := by decide +kernel
theorem d_M_short2_40 : decode b_M_short2 40 = .ok (.lconst 0, 1) := by decide +kernel
theorem d_M_short2_41 : decode b_M_short2 41 = .ok (.lreturn, 1) := by decide +kernel
theorem d_M_short2_42 : decode b_M_short2 42 = .ok (.iload_n 2, 1) := by decide +kernel
theorem d_M_short2_43 : decode b_M_short2 43 = .ok (.ifCond .ne 6, 3) := by decide +kernel
theorem d_M_short2_46 : decode b_M_short2 46 = .ok (.iload_n 3, 1) := by decide +kernel
theorem d_M_short2_47 : decode b_M_short2 47 = .ok (.i2l, 1) := by decide +kernel
theorem d_M_short2_48 : decode b_M_short2 48 = .ok (.lreturn, 1) := by decide +kernel
theorem d_M_short2_49 : decode b_M_short2 49 = .ok (.aload_n 0, 1) := by decide +kernel
theorem d_M_short2_50 : decode b_M_short2 50 = .ok (.iload_n 3, 1) := by decide +kernel
theorem d_M_short2_51 : decode b_M_short2 51 = .ok (.invokevirtual 128, 3) := by decide +kernel
theorem d_M_short2_54 : decode b_M_short2 54 = .ok (.istore 4, 2) := by decide +kernel
theorem d_M_short2_56 : decode b_M_short2 56 = .ok (.iload_n 2, 1) := by decide +kernel
theorem d_M_short2_57 : decode b_M_short2 57 = .ok (.iconst 1, 1) := by decide +kernel
theorem d_M_short2_58 : decode b_M_short2 58 = .ok (.if_icmp .ne 10, 3) := by decide +kernel
theorem d_M_short2_61 : decode b_M_short2 61 = .ok (.iload 4, 2) := by decide +kernel
theorem d_M_short2_63 : decode b_M_short2 63 = .ok (.invokestatic 143, 3) := by decide +kernel
theorem d_M_short2_66 : decode b_M_short2 66 = .ok (.i2l, 1) := by decide +kernel
theorem d_M_short2_67 : decode b_M_short2 67 = .ok (.lreturn, 1) := by decide +kernel
theorem d_M_short2_68 : decode b_M_short2 68 = .ok (.iload_n 2, 1) := by decide +kernel
theorem d_M_short2_69 : decode b_M_short2 69 = .ok (.iconst 2, 1) := by decide +kernel
theorem d_M_short2_70 : decode b_M_short2 70 = .ok (.if_icmp .ne 15, 3) := by decide +kernel
theorem d_M_short2_73 : decode b_M_short2 73 = .ok (.iload 4, 2) := by decide +kernel
theorem d_M_short2_75 : decode b_M_short2 75 = .ok (.iload 4, 2) := by decide +kernel
theorem d_M_short2_77 : decode b_M_short2 77 = .ok (.iconst 1, 1) := by decide +kernel
theorem d_M_short2_78 : decode b_M_short2 78 = .ok (.isub, 1) := by decide +kernel
theorem d_M_short2_79 : decode b_M_short2 79 = .ok (.iand, 1) := by decide +kernel
theorem d_M_short2_80 : decode b_M_short2 80 = .ok (.invokestatic 143, 3) := by decide +kernel
theorem d_M_short2_83 : decode b_M_short2 83 = .ok (.i2l, 1) := by decide +kernel
theorem d_M_short2_84 : decode b_M_short2 84 = .ok (.lreturn, 1) := by decide +kernel
theorem d_M_short2_85 : decode b_M_short2 85 = .ok (.aload_n 0, 1) := by decide +kernel
theorem d_M_short2_86 : decode b_M_short2 86 = .ok (.iload_n 3, 1) := by decide +kernel
theorem d_M_short2_87 : decode b_M_short2 87 = .ok (.invokevirtual 146, 3) := by decide +kernel
theorem d_M_short2_90 : decode b_M_short2 90 = .ok (.iload_n 2, 1) := by decide +kernel
theorem d_M_short2_91 : decode b_M_short2 91 = .ok (.iconst 3, 1) := by decide +kernel
theorem d_M_short2_92 : decode b_M_short2 92 = .ok (.if_icmp .ne 11, 3) := by decide +kernel
theorem d_M_short2_95 : decode b_M_short2 95 = .ok (.aload_n 0, 1) := by decide +kernel
theorem d_M_short2_96 : decode b_M_short2 96 = .ok (.getfield 113, 3) := by decide +kernel
theorem d_M_short2_99 : decode b_M_short2 99 = .ok (.i2l, 1) := by decide +kernel
theorem d_M_short2_100 : decode b_M_short2 100 = .ok (.goto 8, 3) := by decide +kernel
theorem d_M_short2_103 : decode b_M_short2 103 = .ok (.aload_n 0, 1) := by decide +kernel
theorem d_M_short2_104 : decode b_M_short2 104 = .ok (.getfield 116, 3) := by decide +kernel
theorem d_M_short2_107 : decode b_M_short2 107 = .ok (.i2l, 1) := by decide +kernel
theorem d_M_short2_108 : decode b_M_short2 108 = .ok (.lreturn, 1) := by decide +kernel
theorem d_M_unnamed_0 : decode b_M_unnamed 0 = .ok (.aload_n 0, 1) := by decide +kernel
theorem d_M_unnamed_1 : decode b_M_unnamed 1 = .ok (.iconst 0, 1) := by decide +kernel
theorem d_M_unnamed_2 : decode b_M_unnamed 2 = .ok (.putfield 55, 3) := by decide +kernel
theorem d_M_unnamed_5 : decode b_M_unnamed 5 = .ok (.aload_n 0, 1) := by decide +kernel
theorem d_M_unnamed_6 : decode b_M_unnamed 6 = .ok (.invokevirtual 101, 3) := by decide +kernel
theorem d_M_unnamed_9 : decode b_M_unnamed 9 = .ok (.pop, 1) := by decide +kernel
theorem d_M_unnamed_10 : decode b_M_unnamed 10 = .ok (.iload_n 1, 1) := by decide +kernel
theorem d_M_unnamed_11 : decode b_M_unnamed 11 = .ok (.istore_n 2, 1) := by decide +kernel
theorem d_M_unnamed_12 : decode b_M_unnamed 12 = .ok (.iconst 0, 1) := by decide +kernel
theorem d_M_unnamed_13 : decode b_M_unnamed 13 = .ok (.istore_n 3, 1) := by decide +kernel
theorem d_M_unnamed_14 : decode b_M_unnamed 14 = .ok (.iload_n 3, 1) := by decide +kernel
theorem d_M_unnamed_15 : decode b_M_unnamed 15 = .ok (.aload_n 0, 1) := by decide +kernel
theorem d_M_unnamed_16 : decode b_M_unnamed 16 = .ok (.getfield 58, 3) := by decide +kernel
theorem d_M_unnamed_19 : decode b_M_unnamed 19 = .ok (.if_icmp .ge 47, 3) := by decide +kernel
theorem d_M_unnamed_22 : decode b_M_unnamed 22 = .ok (.iload_n 1, 1) := by decide +kernel
theorem d_M_unnamed_23 : decode b_M_unnamed 23 = .ok (.ifCond .lt 43, 3) := by decide +kernel
theorem d_M_unnamed_26 : decode b_M_unnamed 26 = .ok (.aload_n 0, 1) := by decide +kernel
theorem d_M_unnamed_27 : decode b_M_unnamed 27 = .ok (.getfield 7, 3) := by decide +kernel
theorem d_M_unnamed_30 : decode b_M_unnamed 30 = .ok (.iload_n 3, 1) := by decide +kernel
theorem d_M_unnamed_31 : decode b_M_unnamed 31 = .ok (.baload, 1) := by decide +kernel
theorem d_M_unnamed_32 : decode b_M_unnamed 32 = .ok (.ifCond .eq 28, 3) := by decide +kernel
theorem d_M_unnamed_35 : decode b_M_unnamed 35 = .ok (.aload_n 0, 1) := by decide +kernel
theorem d_M_unnamed_36 : decode b_M_unnamed 36 = .ok (.aload_n 0, 1) := by decide +kernel
theorem d_M_unnamed_37 : decode b_M_unnamed 37 = .ok (.getfield 45, 3) := by decide +kernel
theorem d_M_unnamed_40 : decode b_M_unnamed 40 = .ok (.iload_n 3, 1) := by decide +kernel
theorem d_M_unnamed_41 : decode b_M_unnamed 41 = .ok (.iaload, 1) := by decide +kernel
theorem d_M_unnamed_42 : decode b_M_unnamed 42 = .ok (.invokevirtual 128, 3) := by decide +kernel
theorem d_M_unnamed_45 : decode b_M_unnamed 45 = .ok (.ifCond .eq 6, 3) := by decide +kernel
theorem d_M_unnamed_48 : decode b_M_unnamed 48 = .ok (.goto 12, 3) := by decide +kernel
theorem d_M_unnamed_51 : decode b_M_unnamed 51 = .ok (.iload_n 2, 1) := by decide +kernel
theorem d_M_unnamed_52 : decode b_M_unnamed 52 = .ok (.ifCond .ne 5, 3) := by decide +kernel
theorem d_M_unnamed_55 : decode b_M_unnamed 55 = .ok (.iload_n 3, 1) := by decide +kernel
theorem d_M_unnamed_56 : decode b_M_unnamed 56 = .ok (.ireturn, 1) := by decide +kernel
theorem d_M_unnamed_57 : decode b_M_unnamed 57 = .ok (.iinc 2 (-1), 3) := by decide +kernel
theorem d_M_unnamed_60 : decode b_M_unnamed 60 = .ok (.iinc 3 1, 3) := by decide +kernel
theorem d_M_unnamed_63 : decode b_M_unnamed 63 = .ok (.goto (-49), 3) := by decide +kernel
theorem d_M_unnamed_66 : decode b_M_unnamed 66 = .ok (.iconst (-1), 1) := by decide +kernel
theorem d_M_unnamed_67 : decode b_M_unnamed 67 = .ok (.ireturn, 1) := by decide +kernel
theorem d_M_hasPad_0 : decode b_M_hasPad 0 = .ok (.iconst 0, 1) := by decide +kernel
theorem d_M_hasPad_1 : decode b_M_hasPad 1 = .ok (.istore_n 2, 1) := by decide +kernel
theorem d_M_hasPad_2 : decode b_M_hasPad 2 = .ok (.iload_n 2, 1) := by decide +kernel
theorem d_M_hasPad_3 : decode b_M_hasPad 3 = .ok (.aload_n 0, 1) := by decide +kernel
theorem d_M_hasPad_4 : decode b_M_hasPad 4 = .ok (.getfield 58, 3) := by decide +kernel
theorem d_M_hasPad_7 : decode b_M_hasPad 7 = .ok (.if_icmp .ge 30, 3) := by decide +kernel
theorem d_M_hasPad_10 : decode b_M_hasPad 10 = .ok (.aload_n 0, 1) := by decide +kernel
theorem d_M_hasPad_11 : decode b_M_hasPad 11 = .ok (.getfield 7, 3) := by decide +kernel
theorem d_M_hasPad_14 : decode b_M_hasPad 14 = .ok (.iload_n 2, 1) := by decide +kernel
theorem d_M_hasPad_15 : decode b_M_hasPad 15 = .ok (.baload, 1) := by decide +kernel
theorem d_M_hasPad_16 : decode b_M_hasPad 16 = .ok (.ifCond .eq 15, 3) := by decide +kernel
theorem d_M_hasPad_19 : decode b_M_hasPad 19 = .ok (.aload_n 0, 1) := by decide +kernel
theorem d_M_hasPad_20 : decode b_M_hasPad 20 = .ok (.getfield 36, 3) := by decide +kernel
theorem d_M_hasPad_23 : decode b_M_hasPad 23 = .ok (.iload_n 2, 1) := by decide +kernel
theorem d_M_hasPad_24 : decode b_M_hasPad 24 = .ok (.iaload, 1) := by decide +kernel
theorem d_M_hasPad_25 : decode b_M_hasPad 25 = .ok (.iload_n 1, 1) := by decide +kernel
theorem d_M_hasPad_26 : decode b_M_hasPad 26 = .ok (.if_icmp .ne 5, 3) := by decide +kernel
theorem d_M_hasPad_29 : decode b_M_hasPad 29 = .ok (.iconst 1, 1) := by decide +kernel
theorem d_M_hasPad_30 : decode b_M_hasPad 30 = .ok (.ireturn, 1) := by decide +kernel
theorem d_M_hasPad_31 : decode b_M_hasPad 31 = .ok (.iinc 2 1, 3) := by decide +kernel
theorem d_M_hasPad_34 : decode b_M_hasPad 34 = .ok (.goto (-32), 3) := by decide +kernel
theorem d_M_hasPad_37 : decode b_M_hasPad 37 = .ok (.iconst 0, 1) := by decide +kernel
theorem d_M_hasPad_38 : decode b_M_hasPad 38 = .ok (.ireturn, 1) := by decide +kernel
theorem d_M_unreachedAt_0 : decode b_M_unreachedAt 0 = .ok (.iload_n 1, 1) := by decide +kernel
theorem d_M_unreachedAt_1 : decode b_M_unreachedAt 1 = .ok (.istore_n 2, 1) := by decide +kernel
theorem d_M_unreachedAt_2 : decode b_M_unreachedAt 2 = .ok (.iconst 0, 1) := by decide +kernel
theorem d_M_unreachedAt_3 : decode b_M_unreachedAt 3 = .ok (.istore_n 3, 1) := by decide +kernel
theorem d_M_unreachedAt_4 : decode b_M_unreachedAt 4 = .ok (.iload_n 3, 1) := by decide +kernel
theorem d_M_unreachedAt_5 : decode b_M_unreachedAt 5 = .ok (.bipush 40, 2) := by decide +kernel
theorem d_M_unreachedAt_7 : decode b_M_unreachedAt 7 = .ok (.if_icmp .ge 43, 3) := by decide +kernel
theorem d_M_unreachedAt_10 : decode b_M_unreachedAt 10 = .ok (.iload_n 1, 1) := by decide +kernel
theorem d_M_unreachedAt_11 : decode b_M_unreachedAt 11 = .ok (.ifCond .lt 39, 3) := by decide +kernel
theorem d_M_unreachedAt_14 : decode b_M_unreachedAt 14 = .ok (.aload_n 0, 1) := by decide +kernel
theorem d_M_unreachedAt_15 : decode b_M_unreachedAt 15 = .ok (.getfield 39, 3) := by decide +kernel
theorem d_M_unreachedAt_18 : decode b_M_unreachedAt 18 = .ok (.iload_n 3, 1) := by decide +kernel
theorem d_M_unreachedAt_19 : decode b_M_unreachedAt 19 = .ok (.iaload, 1) := by decide +kernel
theorem d_M_unreachedAt_20 : decode b_M_unreachedAt 20 = .ok (.iconst (-1), 1) := by decide +kernel
theorem d_M_unreachedAt_21 : decode b_M_unreachedAt 21 = .ok (.if_icmp .eq 23, 3) := by decide +kernel
theorem d_M_unreachedAt_24 : decode b_M_unreachedAt 24 = .ok (.aload_n 0, 1) := by decide +kernel
theorem d_M_unreachedAt_25 : decode b_M_unreachedAt 25 = .ok (.iload_n 3, 1) := by decide +kernel
theorem d_M_unreachedAt_26 : decode b_M_unreachedAt 26 = .ok (.invokevirtual 150, 3) := by decide +kernel
theorem d_M_unreachedAt_29 : decode b_M_unreachedAt 29 = .ok (.ifCond .eq 6, 3) := by decide +kernel
theorem d_M_unreachedAt_32 : decode b_M_unreachedAt 32 = .ok (.goto 12, 3) := by decide +kernel
theorem d_M_unreachedAt_35 : decode b_M_unreachedAt 35 = .ok (.iload_n 2, 1) := by decide +kernel
theorem d_M_unreachedAt_36 : decode b_M_unreachedAt 36 = .ok (.ifCond .ne 5, 3) := by decide +kernel
theorem d_M_unreachedAt_39 : decode b_M_unreachedAt 39 = .ok (.iload_n 3, 1) := by decide +kernel
theorem d_M_unreachedAt_40 : decode b_M_unreachedAt 40 = .ok (.ireturn, 1) := by decide +kernel
theorem d_M_unreachedAt_41 : decode b_M_unreachedAt 41 = .ok (.iinc 2 (-1), 3) := by decide +kernel
theorem d_M_unreachedAt_44 : decode b_M_unreachedAt 44 = .ok (.iinc 3 1, 3) := by decide +kernel
theorem d_M_unreachedAt_47 : decode b_M_unreachedAt 47 = .ok (.goto (-43), 3) := by decide +kernel
theorem d_M_unreachedAt_50 : decode b_M_unreachedAt 50 = .ok (.iconst (-1), 1) := by decide +kernel
theorem d_M_unreachedAt_51 : decode b_M_unreachedAt 51 = .ok (.ireturn, 1) := by decide +kernel
theorem d_M_unreached_0 : decode b_M_unreached 0 = .ok (.aload_n 0, 1) := by decide +kernel
theorem d_M_unreached_1 : decode b_M_unreached 1 = .ok (.iconst 0, 1) := by decide +kernel
theorem d_M_unreached_2 : decode b_M_unreached 2 = .ok (.putfield 55, 3) := by decide +kernel
theorem d_M_unreached_5 : decode b_M_unreached 5 = .ok (.aload_n 0, 1) := by decide +kernel
theorem d_M_unreached_6 : decode b_M_unreached 6 = .ok (.iload_n 1, 1) := by decide +kernel
theorem d_M_unreached_7 : decode b_M_unreached 7 = .ok (.invokevirtual 153, 3) := by decide +kernel
theorem d_M_unreached_10 : decode b_M_unreached 10 = .ok (.ireturn, 1) := by decide +kernel
theorem d_M_same_0 : decode b_M_same 0 = .ok (.aload_n 0, 1) := by decide +kernel
theorem d_M_same_1 : decode b_M_same 1 = .ok (.iconst 0, 1) := by decide +kernel
theorem d_M_same_2 : decode b_M_same 2 = .ok (.putfield 55, 3) := by decide +kernel
theorem d_M_same_5 : decode b_M_same 5 = .ok (.iconst 1, 1) := by decide +kernel
theorem d_M_same_6 : decode b_M_same 6 = .ok (.ireturn, 1) := by decide +kernel
theorem d_M_exact_0 : decode b_M_exact 0 = .ok (.aload_n 0, 1) := by decide +kernel
theorem d_M_exact_1 : decode b_M_exact 1 = .ok (.iconst 0, 1) := by decide +kernel
theorem d_M_exact_2 : decode b_M_exact 2 = .ok (.putfield 55, 3) := by decide +kernel
theorem d_M_exact_5 : decode b_M_exact 5 = .ok (.iconst 0, 1) := by decide +kernel
theorem d_M_exact_6 : decode b_M_exact 6 = .ok (.istore_n 1, 1) := by decide +kernel
theorem d_M_exact_7 : decode b_M_exact 7 = .ok (.iconst 0, 1) := by decide +kernel
theorem d_M_exact_8 : decode b_M_exact 8 = .ok (.istore_n 2, 1) := by decide +kernel
theorem d_M_exact_9 : decode b_M_exact 9 = .ok (.iload_n 2, 1) := by decide +kernel
theorem d_M_exact_10 : decode b_M_exact 10 = .ok (.bipush 20, 2) := by decide +kernel
theorem d_M_exact_12 : decode b_M_exact 12 = .ok (.if_icmp .ge 27, 3) := by decide +kernel
theorem d_M_exact_15 : decode b_M_exact 15 = .ok (.iload_n 1, 1) := by decide +kernel
theorem d_M_exact_16 : decode b_M_exact 16 = .ok (.ifCond .ne 11, 3) := by decide +kernel
theorem d_M_exact_19 : decode b_M_exact 19 = .ok (.aload_n 0, 1) := by decide +kernel
theorem d_M_exact_20 : decode b_M_exact 20 = .ok (.iload_n 2, 1) := by decide +kernel
theorem d_M_exact_21 : decode b_M_exact 21 = .ok (.invokevirtual 122, 3) := by decide +kernel
theorem d_M_exact_24 : decode b_M_exact 24 = .ok (.ifCond .le 7, 3) := by decide +kernel
theorem d_M_exact_27 : decode b_M_exact 27 = .ok (.iconst 1, 1) := by decide +kernel
theorem d_M_exact_28 : decode b_M_exact 28 = .ok (.goto 4, 3) := by decide +kernel
theorem d_M_exact_31 : decode b_M_exact 31 = .ok (.iconst 0, 1) := by decide +kernel
theorem d_M_exact_32 : decode b_M_exact 32 = .ok (.istore_n 1, 1) := by decide +kernel
theorem d_M_exact_33 : decode b_M_exact 33 = .ok (.iinc 2 1, 3) := by decide +kernel
theorem d_M_exact_36 : decode b_M_exact 36 = .ok (.goto (-27), 3) := by decide +kernel
theorem d_M_exact_39 : decode b_M_exact 39 = .ok (.iload_n 1, 1) := by decide +kernel
theorem d_M_exact_40 : decode b_M_exact 40 = .ok (.ifCond .ne 23, 3) := by decide +kernel
theorem d_M_exact_43 : decode b_M_exact 43 = .ok (.aload_n 0, 1) := by decide +kernel
theorem d_M_exact_44 : decode b_M_exact 44 = .ok (.invokevirtual 134, 3) := by decide +kernel
theorem d_M_exact_47 : decode b_M_exact 47 = .ok (.ifCond .ne 16, 3) := by decide +kernel
theorem d_M_exact_50 : decode b_M_exact 50 = .ok (.aload_n 0, 1) := by decide +kernel
theorem d_M_exact_51 : decode b_M_exact 51 = .ok (.iconst 0, 1) := by decide +kernel
theorem d_M_exact_52 : decode b_M_exact 52 = .ok (.invokevirtual 153, 3) := by decide +kernel
theorem d_M_exact_55 : decode b_M_exact 55 = .ok (.iconst (-1), 1) := by decide +kernel
theorem d_M_exact_56 : decode b_M_exact 56 = .ok (.if_icmp .ne 7, 3) := by decide +kernel
theorem d_M_exact_59 : decode b_M_exact 59 = .ok (.iconst 1, 1) := by decide +kernel
theorem d_M_exact_60 : decode b_M_exact 60 = .ok (.goto 4, 3) := by decide +kernel
theorem d_M_exact_63 : decode b_M_exact 63 = .ok (.iconst 0, 1) := by decide +kernel
theorem d_M_exact_64 : decode b_M_exact 64 = .ok (.ireturn, 1) := by decide +kernel
