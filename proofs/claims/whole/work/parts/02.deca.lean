theorem dX0_ofRatio_0 : decode cX0_ofRatio 0 = .ok (.iload 4, 2) := by decide +kernel
theorem dX0_ofRatio_2 : decode cX0_ofRatio 2 = .ok (.ifCond .ne 5, 3) := by decide +kernel
theorem dX0_ofRatio_5 : decode cX0_ofRatio 5 = .ok (.lload_n 0, 1) := by decide +kernel
theorem dX0_ofRatio_6 : decode cX0_ofRatio 6 = .ok (.lreturn, 1) := by decide +kernel
theorem dX0_ofRatio_7 : decode cX0_ofRatio 7 = .ok (.iload 4, 2) := by decide +kernel
theorem dX0_ofRatio_9 : decode cX0_ofRatio 9 = .ok (.iconst 1, 1) := by decide +kernel
theorem dX0_ofRatio_10 : decode cX0_ofRatio 10 = .ok (.if_icmp .ne 5, 3) := by decide +kernel
theorem dX0_ofRatio_13 : decode cX0_ofRatio 13 = .ok (.lload_n 2, 1) := by decide +kernel
theorem dX0_ofRatio_14 : decode cX0_ofRatio 14 = .ok (.lreturn, 1) := by decide +kernel
theorem dX0_ofRatio_15 : decode cX0_ofRatio 15 = .ok (.lload_n 2, 1) := by decide +kernel
theorem dX0_ofRatio_16 : decode cX0_ofRatio 16 = .ok (.lconst 0, 1) := by decide +kernel
theorem dX0_ofRatio_17 : decode cX0_ofRatio 17 = .ok (.lcmp, 1) := by decide +kernel
theorem dX0_ofRatio_18 : decode cX0_ofRatio 18 = .ok (.ifCond .le 11, 3) := by decide +kernel
theorem dX0_ofRatio_21 : decode cX0_ofRatio 21 = .ok (.lload_n 0, 1) := by decide +kernel
theorem dX0_ofRatio_22 : decode cX0_ofRatio 22 = .ok (.l2d, 1) := by decide +kernel
theorem dX0_ofRatio_23 : decode cX0_ofRatio 23 = .ok (.lload_n 2, 1) := by decide +kernel
theorem dX0_ofRatio_24 : decode cX0_ofRatio 24 = .ok (.l2d, 1) := by decide +kernel
theorem dX0_ofRatio_25 : decode cX0_ofRatio 25 = .ok (.ddiv, 1) := by decide +kernel
theorem dX0_ofRatio_26 : decode cX0_ofRatio 26 = .ok (.goto 4, 3) := by decide +kernel
theorem dX0_ofRatio_29 : decode cX0_ofRatio 29 = .ok (.dconst 0, 1) := by decide +kernel
theorem dX0_ofRatio_30 : decode cX0_ofRatio 30 = .ok (.dstore 5, 2) := by decide +kernel
theorem dX0_ofRatio_32 : decode cX0_ofRatio 32 = .ok (.iload 4, 2) := by decide +kernel
theorem dX0_ofRatio_34 : decode cX0_ofRatio 34 = .ok (.iconst 2, 1) := by decide +kernel
theorem dX0_ofRatio_35 : decode cX0_ofRatio 35 = .ok (.if_icmp .ne 13, 3) := by decide +kernel
theorem dX0_ofRatio_38 : decode cX0_ofRatio 38 = .ok (.dload 5, 2) := by decide +kernel
theorem dX0_ofRatio_40 : decode cX0_ofRatio 40 = .ok (.invokestatic 7, 3) := by decide +kernel
theorem dX0_ofRatio_43 : decode cX0_ofRatio 43 = .ok (.invokestatic 13, 3) := by decide +kernel
theorem dX0_ofRatio_46 : decode cX0_ofRatio 46 = .ok (.i2l, 1) := by decide +kernel
theorem dX0_ofRatio_47 : decode cX0_ofRatio 47 = .ok (.lreturn, 1) := by decide +kernel
theorem dX0_ofRatio_48 : decode cX0_ofRatio 48 = .ok (.iload 4, 2) := by decide +kernel
theorem dX0_ofRatio_50 : decode cX0_ofRatio 50 = .ok (.iconst 3, 1) := by decide +kernel
theorem dX0_ofRatio_51 : decode cX0_ofRatio 51 = .ok (.if_icmp .ne 15, 3) := by decide +kernel
theorem dX0_ofRatio_54 : decode cX0_ofRatio 54 = .ok (.dload 5, 2) := by decide +kernel
theorem dX0_ofRatio_56 : decode cX0_ofRatio 56 = .ok (.invokestatic 7, 3) := by decide +kernel
theorem dX0_ofRatio_59 : decode cX0_ofRatio 59 = .ok (.invokestatic 17, 3) := by decide +kernel
theorem dX0_ofRatio_62 : decode cX0_ofRatio 62 = .ok (.i2l, 1) := by decide +kernel
theorem dX0_ofRatio_63 : decode cX0_ofRatio 63 = .ok (.goto 10, 3) := by decide +kernel
theorem dX0_ofRatio_66 : decode cX0_ofRatio 66 = .ok (.dload 5, 2) := by decide +kernel
theorem dX0_ofRatio_68 : decode cX0_ofRatio 68 = .ok (.d2f, 1) := by decide +kernel
theorem dX0_ofRatio_69 : decode cX0_ofRatio 69 = .ok (.invokestatic 20, 3) := by decide +kernel
theorem dX0_ofRatio_72 : decode cX0_ofRatio 72 = .ok (.i2l, 1) := by decide +kernel
theorem dX0_ofRatio_73 : decode cX0_ofRatio 73 = .ok (.lreturn, 1) := by decide +kernel
theorem dX0_upper_0 : decode cX0_upper 0 = .ok (.lload_n 0, 1) := by decide +kernel
theorem dX0_upper_1 : decode cX0_upper 1 = .ok (.bipush 32, 2) := by decide +kernel
theorem dX0_upper_3 : decode cX0_upper 3 = .ok (.lushr, 1) := by decide +kernel
theorem dX0_upper_4 : decode cX0_upper 4 = .ok (.l2i, 1) := by decide +kernel
theorem dX0_upper_5 : decode cX0_upper 5 = .ok (.ireturn, 1) := by decide +kernel
theorem dX0_lower_0 : decode cX0_lower 0 = .ok (.lload_n 0, 1) := by decide +kernel
theorem dX0_lower_1 : decode cX0_lower 1 = .ok (.l2i, 1) := by decide +kernel
theorem dX0_lower_2 : decode cX0_lower 2 = .ok (.ireturn, 1) := by decide +kernel
theorem dX0_ofDouble_0 : decode cX0_ofDouble 0 = .ok (.dload_n 0, 1) := by decide +kernel
theorem dX0_ofDouble_1 : decode cX0_ofDouble 1 = .ok (.dconst 0, 1) := by decide +kernel
theorem dX0_ofDouble_2 : decode cX0_ofDouble 2 = .ok (.dcmp .g, 1) := by decide +kernel
theorem dX0_ofDouble_3 : decode cX0_ofDouble 3 = .ok (.ifCond .gt 5, 3) := by decide +kernel
theorem dX0_ofDouble_6 : decode cX0_ofDouble 6 = .ok (.lconst 0, 1) := by decide +kernel
theorem dX0_ofDouble_7 : decode cX0_ofDouble 7 = .ok (.lreturn, 1) := by decide +kernel
theorem dX0_ofDouble_8 : decode cX0_ofDouble 8 = .ok (.dload_n 0, 1) := by decide +kernel
theorem dX0_ofDouble_9 : decode cX0_ofDouble 9 = .ok (.dstore_n 2, 1) := by decide +kernel
theorem dX0_ofDouble_10 : decode cX0_ofDouble 10 = .ok (.ldc2_w 24, 3) := by decide +kernel
theorem dX0_ofDouble_13 : decode cX0_ofDouble 13 = .ok (.lstore 4, 2) := by decide +kernel
theorem dX0_ofDouble_15 : decode cX0_ofDouble 15 = .ok (.iconst 0, 1) := by decide +kernel
theorem dX0_ofDouble_16 : decode cX0_ofDouble 16 = .ok (.istore 6, 2) := by decide +kernel
theorem dX0_ofDouble_18 : decode cX0_ofDouble 18 = .ok (.iload 6, 2) := by decide +kernel
theorem dX0_ofDouble_20 : decode cX0_ofDouble 20 = .ok (.sipush 1023, 3) := by decide +kernel
theorem dX0_ofDouble_23 : decode cX0_ofDouble 23 = .ok (.if_icmp .ge 29, 3) := by decide +kernel
theorem dX0_ofDouble_26 : decode cX0_ofDouble 26 = .ok (.dload_n 2, 1) := by decide +kernel
theorem dX0_ofDouble_27 : decode cX0_ofDouble 27 = .ok (.ldc2_w 26, 3) := by decide +kernel
theorem dX0_ofDouble_30 : decode cX0_ofDouble 30 = .ok (.dcmp .l, 1) := by decide +kernel
theorem dX0_ofDouble_31 : decode cX0_ofDouble 31 = .ok (.ifCond .lt 21, 3) := by decide +kernel
theorem dX0_ofDouble_34 : decode cX0_ofDouble 34 = .ok (.dload_n 2, 1) := by decide +kernel
theorem dX0_ofDouble_35 : decode cX0_ofDouble 35 = .ok (.ldc2_w 26, 3) := by decide +kernel
theorem dX0_ofDouble_38 : decode cX0_ofDouble 38 = .ok (.ddiv, 1) := by decide +kernel
theorem dX0_ofDouble_39 : decode cX0_ofDouble 39 = .ok (.dstore_n 2, 1) := by decide +kernel
theorem dX0_ofDouble_40 : decode cX0_ofDouble 40 = .ok (.lload 4, 2) := by decide +kernel
theorem dX0_ofDouble_42 : decode cX0_ofDouble 42 = .ok (.lconst 1, 1) := by decide +kernel
theorem dX0_ofDouble_43 : decode cX0_ofDouble 43 = .ok (.ladd, 1) := by decide +kernel
theorem dX0_ofDouble_44 : decode cX0_ofDouble 44 = .ok (.lstore 4, 2) := by decide +kernel
theorem dX0_ofDouble_46 : decode cX0_ofDouble 46 = .ok (.iinc 6 1, 3) := by decide +kernel
theorem dX0_ofDouble_49 : decode cX0_ofDouble 49 = .ok (.goto (-31), 3) := by decide +kernel
theorem dX0_ofDouble_52 : decode cX0_ofDouble 52 = .ok (.iconst 0, 1) := by decide +kernel
theorem dX0_ofDouble_53 : decode cX0_ofDouble 53 = .ok (.istore 6, 2) := by decide +kernel
theorem dX0_ofDouble_55 : decode cX0_ofDouble 55 = .ok (.iload 6, 2) := by decide +kernel
theorem dX0_ofDouble_57 : decode cX0_ofDouble 57 = .ok (.sipush 1022, 3) := by decide +kernel
theorem dX0_ofDouble_60 : decode cX0_ofDouble 60 = .ok (.if_icmp .ge 27, 3) := by decide +kernel
theorem dX0_ofDouble_63 : decode cX0_ofDouble 63 = .ok (.dload_n 2, 1) := by decide +kernel
theorem dX0_ofDouble_64 : decode cX0_ofDouble 64 = .ok (.dconst 1, 1) := by decide +kernel
theorem dX0_ofDouble_65 : decode cX0_ofDouble 65 = .ok (.dcmp .g, 1) := by decide +kernel
theorem dX0_ofDouble_66 : decode cX0_ofDouble 66 = .ok (.ifCond .ge 21, 3) := by decide +kernel
theorem dX0_ofDouble_69 : decode cX0_ofDouble 69 = .ok (.dload_n 2, 1) := by decide +kernel
theorem dX0_ofDouble_70 : decode cX0_ofDouble 70 = .ok (.ldc2_w 26, 3) := by decide +kernel
theorem dX0_ofDouble_73 : decode cX0_ofDouble 73 = .ok (.dmul, 1) := by decide +kernel
theorem dX0_ofDouble_74 : decode cX0_ofDouble 74 = .ok (.dstore_n 2, 1) := by decide +kernel
theorem dX0_ofDouble_75 : decode cX0_ofDouble 75 = .ok (.lload 4, 2) := by decide +kernel
theorem dX0_ofDouble_77 : decode cX0_ofDouble 77 = .ok (.lconst 1, 1) := by decide +kernel
theorem dX0_ofDouble_78 : decode cX0_ofDouble 78 = .ok (.lsub, 1) := by decide +kernel
theorem dX0_ofDouble_79 : decode cX0_ofDouble 79 = .ok (.lstore 4, 2) := by decide +kernel
theorem dX0_ofDouble_81 : decode cX0_ofDouble 81 = .ok (.iinc 6 1, 3) := by decide +kernel
theorem dX0_ofDouble_84 : decode cX0_ofDouble 84 = .ok (.goto (-29), 3) := by decide +kernel
theorem dX0_ofDouble_87 : decode cX0_ofDouble 87 = .ok (.lload 4, 2) := by decide +kernel
theorem dX0_ofDouble_89 : decode cX0_ofDouble 89 = .ok (.bipush 52, 2) := by decide +kernel
theorem dX0_ofDouble_91 : decode cX0_ofDouble 91 = .ok (.lshl, 1) := by decide +kernel
theorem dX0_ofDouble_92 : decode cX0_ofDouble 92 = .ok (.dload_n 2, 1) := by decide +kernel
theorem dX0_ofDouble_93 : decode cX0_ofDouble 93 = .ok (.dconst 1, 1) := by decide +kernel
theorem dX0_ofDouble_94 : decode cX0_ofDouble 94 = .ok (.dsub, 1) := by decide +kernel
theorem dX0_ofDouble_95 : decode cX0_ofDouble 95 = .ok (.ldc2_w 28, 3) := by decide +kernel
theorem dX0_ofDouble_98 : decode cX0_ofDouble 98 = .ok (.dmul, 1) := by decide +kernel
theorem dX0_ofDouble_99 : decode cX0_ofDouble 99 = .ok (.d2l, 1) := by decide +kernel
theorem dX0_ofDouble_100 : decode cX0_ofDouble 100 = .ok (.lor, 1) := by decide +kernel
theorem dX0_ofDouble_101 : decode cX0_ofDouble 101 = .ok (.lreturn, 1) := by decide +kernel
theorem dX0_ofFloat_0 : decode cX0_ofFloat 0 = .ok (.fload_n 0, 1) := by decide +kernel
theorem dX0_ofFloat_1 : decode cX0_ofFloat 1 = .ok (.f2d, 1) := by decide +kernel
theorem dX0_ofFloat_2 : decode cX0_ofFloat 2 = .ok (.invokestatic 7, 3) := by decide +kernel
theorem dX0_ofFloat_5 : decode cX0_ofFloat 5 = .ok (.lstore_n 1, 1) := by decide +kernel
theorem dX0_ofFloat_6 : decode cX0_ofFloat 6 = .ok (.lload_n 1, 1) := by decide +kernel
theorem dX0_ofFloat_7 : decode cX0_ofFloat 7 = .ok (.lconst 0, 1) := by decide +kernel
theorem dX0_ofFloat_8 : decode cX0_ofFloat 8 = .ok (.lcmp, 1) := by decide +kernel
theorem dX0_ofFloat_9 : decode cX0_ofFloat 9 = .ok (.ifCond .ne 5, 3) := by decide +kernel
theorem dX0_ofFloat_12 : decode cX0_ofFloat 12 = .ok (.iconst 0, 1) := by decide +kernel
theorem dX0_ofFloat_13 : decode cX0_ofFloat 13 = .ok (.ireturn, 1) := by decide +kernel
theorem dX0_ofFloat_14 : decode cX0_ofFloat 14 = .ok (.lload_n 1, 1) := by decide +kernel
theorem dX0_ofFloat_15 : decode cX0_ofFloat 15 = .ok (.bipush 52, 2) := by decide +kernel
theorem dX0_ofFloat_17 : decode cX0_ofFloat 17 = .ok (.lushr, 1) := by decide +kernel
theorem dX0_ofFloat_18 : decode cX0_ofFloat 18 = .ok (.l2i, 1) := by decide +kernel
theorem dX0_ofFloat_19 : decode cX0_ofFloat 19 = .ok (.sipush 1023, 3) := by decide +kernel
theorem dX0_ofFloat_22 : decode cX0_ofFloat 22 = .ok (.isub, 1) := by decide +kernel
theorem dX0_ofFloat_23 : decode cX0_ofFloat 23 = .ok (.bipush 127, 2) := by decide +kernel
theorem dX0_ofFloat_25 : decode cX0_ofFloat 25 = .ok (.iadd, 1) := by decide +kernel
theorem dX0_ofFloat_26 : decode cX0_ofFloat 26 = .ok (.istore_n 3, 1) := by decide +kernel
theorem dX0_ofFloat_27 : decode cX0_ofFloat 27 = .ok (.iload_n 3, 1) := by decide +kernel
theorem dX0_ofFloat_28 : decode cX0_ofFloat 28 = .ok (.bipush 23, 2) := by decide +kernel
theorem dX0_ofFloat_30 : decode cX0_ofFloat 30 = .ok (.ishl, 1) := by decide +kernel
theorem dX0_ofFloat_31 : decode cX0_ofFloat 31 = .ok (.lload_n 1, 1) := by decide +kernel
theorem dX0_ofFloat_32 : decode cX0_ofFloat 32 = .ok (.bipush 29, 2) := by decide +kernel
theorem dX0_ofFloat_34 : decode cX0_ofFloat 34 = .ok (.lushr, 1) := by decide +kernel
theorem dX0_ofFloat_35 : decode cX0_ofFloat 35 = .ok (.l2i, 1) := by decide +kernel
theorem dX0_ofFloat_36 : decode cX0_ofFloat 36 = .ok (.ldc 30, 2) := by decide +kernel
theorem dX0_ofFloat_38 : decode cX0_ofFloat 38 = .ok (.iand, 1) := by decide +kernel
theorem dX0_ofFloat_39 : decode cX0_ofFloat 39 = .ok (.ior, 1) := by decide +kernel
theorem dX0_ofFloat_40 : decode cX0_ofFloat 40 = .ok (.ireturn, 1) := by decide +kernel
theorem dX1_init_0 : decode cX1_init 0 = .ok (.aload_n 0, 1) := by decide +kernel
theorem dX1_init_1 : decode cX1_init 1 = .ok (.invokespecial 3, 3) := by decide +kernel
theorem dX1_init_4 : decode cX1_init 4 = .ok (.aload_n 0, 1) := by decide +kernel
theorem dX1_init_5 : decode cX1_init 5 = .ok (.bipush 40, 2) := by decide +kernel
theorem dX1_init_7 : decode cX1_init 7 = .ok (.newarray .int, 2) := by decide +kernel
theorem dX1_init_9 : decode cX1_init 9 = .ok (.putfield 9, 3) := by decide +kernel
theorem dX1_init_12 : decode cX1_init 12 = .ok (.aload_n 0, 1) := by decide +kernel
theorem dX1_init_13 : decode cX1_init 13 = .ok (.bipush 8, 2) := by decide +kernel
theorem dX1_init_15 : decode cX1_init 15 = .ok (.newarray .int, 2) := by decide +kernel
theorem dX1_init_17 : decode cX1_init 17 = .ok (.putfield 15, 3) := by decide +kernel
theorem dX1_init_20 : decode cX1_init 20 = .ok (.iconst 1, 1) := by decide +kernel
theorem dX1_init_21 : decode cX1_init 21 = .ok (.istore_n 1, 1) := by decide +kernel
theorem dX1_init_22 : decode cX1_init 22 = .ok (.bipush 39, 2) := by decide +kernel
theorem dX1_init_24 : decode cX1_init 24 = .ok (.istore_n 2, 1) := by decide +kernel
theorem dX1_init_25 : decode cX1_init 25 = .ok (.iload_n 2, 1) := by decide +kernel
theorem dX1_init_26 : decode cX1_init 26 = .ok (.ifCond .lt 21, 3) := by decide +kernel
theorem dX1_init_29 : decode cX1_init 29 = .ok (.aload_n 0, 1) := by decide +kernel
theorem dX1_init_30 : decode cX1_init 30 = .ok (.getfield 9, 3) := by decide +kernel
theorem dX1_init_33 : decode cX1_init 33 = .ok (.iload_n 2, 1) := by decide +kernel
theorem dX1_init_34 : decode cX1_init 34 = .ok (.iload_n 1, 1) := by decide +kernel
theorem dX1_init_35 : decode cX1_init 35 = .ok (.iastore, 1) := by decide +kernel
theorem dX1_init_36 : decode cX1_init 36 = .ok (.iload_n 1, 1) := by decide +kernel
theorem dX1_init_37 : decode cX1_init 37 = .ok (.invokestatic 18, 3) := by decide +kernel
theorem dX1_init_40 : decode cX1_init 40 = .ok (.istore_n 1, 1) := by decide +kernel
theorem dX1_init_41 : decode cX1_init 41 = .ok (.iinc 2 (-1), 3) := by decide +kernel
theorem dX1_init_44 : decode cX1_init 44 = .ok (.goto (-19), 3) := by decide +kernel
theorem dX1_init_47 : decode cX1_init 47 = .ok (.return_, 1) := by decide +kernel
theorem dX1_timesX_0 : decode cX1_timesX 0 = .ok (.iload_n 0, 1) := by decide +kernel
theorem dX1_timesX_1 : decode cX1_timesX 1 = .ok (.iconst 1, 1) := by decide +kernel
theorem dX1_timesX_2 : decode cX1_timesX 2 = .ok (.ishl, 1) := by decide +kernel
theorem dX1_timesX_3 : decode cX1_timesX 3 = .ok (.istore_n 1, 1) := by decide +kernel
theorem dX1_timesX_4 : decode cX1_timesX 4 = .ok (.iload_n 1, 1) := by decide +kernel
theorem dX1_timesX_5 : decode cX1_timesX 5 = .ok (.sipush 255, 3) := by decide +kernel
theorem dX1_timesX_8 : decode cX1_timesX 8 = .ok (.if_icmp .le 11, 3) := by decide +kernel
theorem dX1_timesX_11 : decode cX1_timesX 11 = .ok (.iload_n 1, 1) := by decide +kernel
theorem dX1_timesX_12 : decode cX1_timesX 12 = .ok (.sipush 263, 3) := by decide +kernel
theorem dX1_timesX_15 : decode cX1_timesX 15 = .ok (.ixor, 1) := by decide +kernel
theorem dX1_timesX_16 : decode cX1_timesX 16 = .ok (.goto 4, 3) := by decide +kernel
theorem dX1_timesX_19 : decode cX1_timesX 19 = .ok (.iload_n 1, 1) := by decide +kernel
theorem dX1_timesX_20 : decode cX1_timesX 20 = .ok (.ireturn, 1) := by decide +kernel
theorem dX1_ofHeader_0 : decode cX1_ofHeader 0 = .ok (.iconst 0, 1) := by decide +kernel
theorem dX1_ofHeader_1 : decode cX1_ofHeader 1 = .ok (.istore_n 1, 1) := by decide +kernel
theorem dX1_ofHeader_2 : decode cX1_ofHeader 2 = .ok (.bipush 31, 2) := by decide +kernel
theorem dX1_ofHeader_4 : decode cX1_ofHeader 4 = .ok (.istore_n 2, 1) := by decide +kernel
theorem dX1_ofHeader_5 : decode cX1_ofHeader 5 = .ok (.iload_n 2, 1) := by decide +kernel
theorem dX1_ofHeader_6 : decode cX1_ofHeader 6 = .ok (.ifCond .lt 20, 3) := by decide +kernel
theorem dX1_ofHeader_9 : decode cX1_ofHeader 9 = .ok (.iload_n 1, 1) := by decide +kernel
theorem dX1_ofHeader_10 : decode cX1_ofHeader 10 = .ok (.invokestatic 18, 3) := by decide +kernel
theorem dX1_ofHeader_13 : decode cX1_ofHeader 13 = .ok (.iload_n 0, 1) := by decide +kernel
theorem dX1_ofHeader_14 : decode cX1_ofHeader 14 = .ok (.iload_n 2, 1) := by decide +kernel
theorem dX1_ofHeader_15 : decode cX1_ofHeader 15 = .ok (.iushr, 1) := by decide +kernel
theorem dX1_ofHeader_16 : decode cX1_ofHeader 16 = .ok (.iconst 1, 1) := by decide +kernel
theorem dX1_ofHeader_17 : decode cX1_ofHeader 17 = .ok (.iand, 1) := by decide +kernel
theorem dX1_ofHeader_18 : decode cX1_ofHeader 18 = .ok (.ixor, 1) := by decide +kernel
theorem dX1_ofHeader_19 : decode cX1_ofHeader 19 = .ok (.istore_n 1, 1) := by decide +kernel
theorem dX1_ofHeader_20 : decode cX1_ofHeader 20 = .ok (.iinc 2 (-1), 3) := by decide +kernel
theorem dX1_ofHeader_23 : decode cX1_ofHeader 23 = .ok (.goto (-18), 3) := by decide +kernel
theorem dX1_ofHeader_26 : decode cX1_ofHeader 26 = .ok (.iconst 0, 1) := by decide +kernel
theorem dX1_ofHeader_27 : decode cX1_ofHeader 27 = .ok (.istore_n 2, 1) := by decide +kernel
theorem dX1_ofHeader_28 : decode cX1_ofHeader 28 = .ok (.iload_n 2, 1) := by decide +kernel
theorem dX1_ofHeader_29 : decode cX1_ofHeader 29 = .ok (.bipush 8, 2) := by decide +kernel
theorem dX1_ofHeader_31 : decode cX1_ofHeader 31 = .ok (.if_icmp .ge 14, 3) := by decide +kernel
theorem dX1_ofHeader_34 : decode cX1_ofHeader 34 = .ok (.iload_n 1, 1) := by decide +kernel
theorem dX1_ofHeader_35 : decode cX1_ofHeader 35 = .ok (.invokestatic 18, 3) := by decide +kernel
theorem dX1_ofHeader_38 : decode cX1_ofHeader 38 = .ok (.istore_n 1, 1) := by decide +kernel
theorem dX1_ofHeader_39 : decode cX1_ofHeader 39 = .ok (.iinc 2 1, 3) := by decide +kernel
theorem dX1_ofHeader_42 : decode cX1_ofHeader 42 = .ok (.goto (-14), 3) := by decide +kernel
theorem dX1_ofHeader_45 : decode cX1_ofHeader 45 = .ok (.iload_n 1, 1) := by decide +kernel
theorem dX1_ofHeader_46 : decode cX1_ofHeader 46 = .ok (.bipush 85, 2) := by decide +kernel
theorem dX1_ofHeader_48 : decode cX1_ofHeader 48 = .ok (.ixor, 1) := by decide +kernel
theorem dX1_ofHeader_49 : decode cX1_ofHeader 49 = .ok (.ireturn, 1) := by decide +kernel
theorem dX1_bitOf_0 : decode cX1_bitOf 0 = .ok (.iconst 1, 1) := by decide +kernel
theorem dX1_bitOf_1 : decode cX1_bitOf 1 = .ok (.istore_n 1, 1) := by decide +kernel
theorem dX1_bitOf_2 : decode cX1_bitOf 2 = .ok (.bipush 39, 2) := by decide +kernel
theorem dX1_bitOf_4 : decode cX1_bitOf 4 = .ok (.istore_n 2, 1) := by decide +kernel
theorem dX1_bitOf_5 : decode cX1_bitOf 5 = .ok (.iload_n 2, 1) := by decide +kernel
theorem dX1_bitOf_6 : decode cX1_bitOf 6 = .ok (.ifCond .lt 21, 3) := by decide +kernel
theorem dX1_bitOf_9 : decode cX1_bitOf 9 = .ok (.iload_n 1, 1) := by decide +kernel
theorem dX1_bitOf_10 : decode cX1_bitOf 10 = .ok (.iload_n 0, 1) := by decide +kernel
theorem dX1_bitOf_11 : decode cX1_bitOf 11 = .ok (.if_icmp .ne 5, 3) := by decide +kernel
theorem dX1_bitOf_14 : decode cX1_bitOf 14 = .ok (.iload_n 2, 1) := by decide +kernel
theorem dX1_bitOf_15 : decode cX1_bitOf 15 = .ok (.ireturn, 1) := by decide +kernel
theorem dX1_bitOf_16 : decode cX1_bitOf 16 = .ok (.iload_n 1, 1) := by decide +kernel
theorem dX1_bitOf_17 : decode cX1_bitOf 17 = .ok (.invokestatic 18, 3) := by decide +kernel
theorem dX1_bitOf_20 : decode cX1_bitOf 20 = .ok (.istore_n 1, 1) := by decide +kernel
theorem dX1_bitOf_21 : decode cX1_bitOf 21 = .ok (.iinc 2 (-1), 3) := by decide +kernel
theorem dX1_bitOf_24 : decode cX1_bitOf 24 = .ok (.goto (-19), 3) := by decide +kernel
theorem dX1_bitOf_27 : decode cX1_bitOf 27 = .ok (.iconst (-1), 1) := by decide +kernel
theorem dX1_bitOf_28 : decode cX1_bitOf 28 = .ok (.ireturn, 1) := by decide +kernel
theorem dX1_mendedHeader_0 : decode cX1_mendedHeader 0 = .ok (.iload_n 1, 1) := by decide +kernel
theorem dX1_mendedHeader_1 : decode cX1_mendedHeader 1 = .ok (.ifCond .lt 20, 3) := by decide +kernel
theorem dX1_mendedHeader_4 : decode cX1_mendedHeader 4 = .ok (.iload_n 1, 1) := by decide +kernel
theorem dX1_mendedHeader_5 : decode cX1_mendedHeader 5 = .ok (.bipush 32, 2) := by decide +kernel
theorem dX1_mendedHeader_7 : decode cX1_mendedHeader 7 = .ok (.if_icmp .ge 14, 3) := by decide +kernel
theorem dX1_mendedHeader_10 : decode cX1_mendedHeader 10 = .ok (.iload_n 0, 1) := by decide +kernel
theorem dX1_mendedHeader_11 : decode cX1_mendedHeader 11 = .ok (.iconst 1, 1) := by decide +kernel
theorem dX1_mendedHeader_12 : decode cX1_mendedHeader 12 = .ok (.bipush 31, 2) := by decide +kernel
theorem dX1_mendedHeader_14 : decode cX1_mendedHeader 14 = .ok (.iload_n 1, 1) := by decide +kernel
theorem dX1_mendedHeader_15 : decode cX1_mendedHeader 15 = .ok (.isub, 1) := by decide +kernel
theorem dX1_mendedHeader_16 : decode cX1_mendedHeader 16 = .ok (.ishl, 1) := by decide +kernel
theorem dX1_mendedHeader_17 : decode cX1_mendedHeader 17 = .ok (.ixor, 1) := by decide +kernel
theorem dX1_mendedHeader_18 : decode cX1_mendedHeader 18 = .ok (.goto 4, 3) := by decide +kernel
theorem dX1_mendedHeader_21 : decode cX1_mendedHeader 21 = .ok (.iload_n 0, 1) := by decide +kernel
theorem dX1_mendedHeader_22 : decode cX1_mendedHeader 22 = .ok (.ireturn, 1) := by decide +kernel
theorem dX1_mendedCheck_0 : decode cX1_mendedCheck 0 = .ok (.iload_n 1, 1) := by decide +kernel
theorem dX1_mendedCheck_1 : decode cX1_mendedCheck 1 = .ok (.bipush 32, 2) := by decide +kernel
theorem dX1_mendedCheck_3 : decode cX1_mendedCheck 3 = .ok (.if_icmp .lt 20, 3) := by decide +kernel
theorem dX1_mendedCheck_6 : decode cX1_mendedCheck 6 = .ok (.iload_n 1, 1) := by decide +kernel
theorem dX1_mendedCheck_7 : decode cX1_mendedCheck 7 = .ok (.bipush 40, 2) := by decide +kernel
theorem dX1_mendedCheck_9 : decode cX1_mendedCheck 9 = .ok (.if_icmp .ge 14, 3) := by decide +kernel
theorem dX1_mendedCheck_12 : decode cX1_mendedCheck 12 = .ok (.iload_n 0, 1) := by decide +kernel
theorem dX1_mendedCheck_13 : decode cX1_mendedCheck 13 = .ok (.iconst 1, 1) := by decide +kernel
theorem dX1_mendedCheck_14 : decode cX1_mendedCheck 14 = .ok (.bipush 39, 2) := by decide +kernel
theorem dX1_mendedCheck_16 : decode cX1_mendedCheck 16 = .ok (.iload_n 1, 1) := by decide +kernel
theorem dX1_mendedCheck_17 : decode cX1_mendedCheck 17 = .ok (.isub, 1) := by decide +kernel
theorem dX1_mendedCheck_18 : decode cX1_mendedCheck 18 = .ok (.ishl, 1) := by decide +kernel
theorem dX1_mendedCheck_19 : decode cX1_mendedCheck 19 = .ok (.ixor, 1) := by decide +kernel
theorem dX1_mendedCheck_20 : decode cX1_mendedCheck 20 = .ok (.goto 4, 3) := by decide +kernel
theorem dX1_mendedCheck_23 : decode cX1_mendedCheck 23 = .ok (.iload_n 0, 1) := by decide +kernel
theorem dX1_mendedCheck_24 : decode cX1_mendedCheck 24 = .ok (.ireturn, 1) := by decide +kernel
theorem dX1_shareOf_0 : decode cX1_shareOf 0 = .ok (.iload_n 1, 1) := by decide +kernel
theorem dX1_shareOf_1 : decode cX1_shareOf 1 = .ok (.ifCond .lt 21, 3) := by decide +kernel
theorem dX1_shareOf_4 : decode cX1_shareOf 4 = .ok (.iload_n 1, 1) := by decide +kernel
theorem dX1_shareOf_5 : decode cX1_shareOf 5 = .ok (.aload_n 0, 1) := by decide +kernel
theorem dX1_shareOf_6 : decode cX1_shareOf 6 = .ok (.getfield 9, 3) := by decide +kernel
theorem dX1_shareOf_9 : decode cX1_shareOf 9 = .ok (.arraylength, 1) := by decide +kernel
theorem dX1_shareOf_10 : decode cX1_shareOf 10 = .ok (.if_icmp .ge 12, 3) := by decide +kernel
theorem dX1_shareOf_13 : decode cX1_shareOf 13 = .ok (.aload_n 0, 1) := by decide +kernel
theorem dX1_shareOf_14 : decode cX1_shareOf 14 = .ok (.getfield 9, 3) := by decide +kernel
theorem dX1_shareOf_17 : decode cX1_shareOf 17 = .ok (.iload_n 1, 1) := by decide +kernel
theorem dX1_shareOf_18 : decode cX1_shareOf 18 = .ok (.iaload, 1) := by decide +kernel
theorem dX1_shareOf_19 : decode cX1_shareOf 19 = .ok (.goto 4, 3) := by decide +kernel
theorem dX1_shareOf_22 : decode cX1_shareOf 22 = .ok (.iconst 0, 1) := by decide +kernel
theorem dX1_shareOf_23 : decode cX1_shareOf 23 = .ok (.ireturn, 1) := by decide +kernel
theorem dX1_pairOf_0 : decode cX1_pairOf 0 = .ok (.iconst 0, 1) := by decide +kernel
theorem dX1_pairOf_1 : decode cX1_pairOf 1 = .ok (.istore_n 3, 1) := by decide +kernel
theorem dX1_pairOf_2 : decode cX1_pairOf 2 = .ok (.iconst 0, 1) := by decide +kernel
theorem dX1_pairOf_3 : decode cX1_pairOf 3 = .ok (.istore 4, 2) := by decide +kernel
theorem dX1_pairOf_5 : decode cX1_pairOf 5 = .ok (.iload 4, 2) := by decide +kernel
theorem dX1_pairOf_7 : decode cX1_pairOf 7 = .ok (.bipush 40, 2) := by decide +kernel
theorem dX1_pairOf_9 : decode cX1_pairOf 9 = .ok (.if_icmp .ge 62, 3) := by decide +kernel
theorem dX1_pairOf_12 : decode cX1_pairOf 12 = .ok (.iload 4, 2) := by decide +kernel
theorem dX1_pairOf_14 : decode cX1_pairOf 14 = .ok (.iconst 1, 1) := by decide +kernel
theorem dX1_pairOf_15 : decode cX1_pairOf 15 = .ok (.iadd, 1) := by decide +kernel
theorem dX1_pairOf_16 : decode cX1_pairOf 16 = .ok (.istore 5, 2) := by decide +kernel
theorem dX1_pairOf_18 : decode cX1_pairOf 18 = .ok (.iload 5, 2) := by decide +kernel
theorem dX1_pairOf_20 : decode cX1_pairOf 20 = .ok (.bipush 40, 2) := by decide +kernel
theorem dX1_pairOf_22 : decode cX1_pairOf 22 = .ok (.if_icmp .ge 43, 3) := by decide +kernel
theorem dX1_pairOf_25 : decode cX1_pairOf 25 = .ok (.aload_n 0, 1) := by decide +kernel
theorem dX1_pairOf_26 : decode cX1_pairOf 26 = .ok (.iload 4, 2) := by decide +kernel
theorem dX1_pairOf_28 : decode cX1_pairOf 28 = .ok (.invokevirtual 22, 3) := by decide +kernel
theorem dX1_pairOf_31 : decode cX1_pairOf 31 = .ok (.aload_n 0, 1) := by decide +kernel
theorem dX1_pairOf_32 : decode cX1_pairOf 32 = .ok (.iload 5, 2) := by decide +kernel
theorem dX1_pairOf_34 : decode cX1_pairOf 34 = .ok (.invokevirtual 22, 3) := by decide +kernel
theorem dX1_pairOf_37 : decode cX1_pairOf 37 = .ok (.ixor, 1) := by decide +kernel
theorem dX1_pairOf_38 : decode cX1_pairOf 38 = .ok (.iload_n 1, 1) := by decide +kernel
theorem dX1_pairOf_39 : decode cX1_pairOf 39 = .ok (.if_icmp .ne 20, 3) := by decide +kernel
theorem dX1_pairOf_42 : decode cX1_pairOf 42 = .ok (.iload_n 3, 1) := by decide +kernel
theorem dX1_pairOf_43 : decode cX1_pairOf 43 = .ok (.iload_n 2, 1) := by decide +kernel
theorem dX1_pairOf_44 : decode cX1_pairOf 44 = .ok (.if_icmp .ne 12, 3) := by decide +kernel
theorem dX1_pairOf_47 : decode cX1_pairOf 47 = .ok (.bipush 100, 2) := by decide +kernel
theorem dX1_pairOf_49 : decode cX1_pairOf 49 = .ok (.iload 4, 2) := by decide +kernel
theorem dX1_pairOf_51 : decode cX1_pairOf 51 = .ok (.imul, 1) := by decide +kernel
theorem dX1_pairOf_52 : decode cX1_pairOf 52 = .ok (.iload 5, 2) := by decide +kernel
theorem dX1_pairOf_54 : decode cX1_pairOf 54 = .ok (.iadd, 1) := by decide +kernel
theorem dX1_pairOf_55 : decode cX1_pairOf 55 = .ok (.ireturn, 1) := by decide +kernel
theorem dX1_pairOf_56 : decode cX1_pairOf 56 = .ok (.iinc 3 1, 3) := by decide +kernel
theorem dX1_pairOf_59 : decode cX1_pairOf 59 = .ok (.iinc 5 1, 3) := by decide +kernel
theorem dX1_pairOf_62 : decode cX1_pairOf 62 = .ok (.goto (-44), 3) := by decide +kernel
theorem dX1_pairOf_65 : decode cX1_pairOf 65 = .ok (.iinc 4 1, 3) := by decide +kernel
theorem dX1_pairOf_68 : decode cX1_pairOf 68 = .ok (.goto (-63), 3) := by decide +kernel
theorem dX1_pairOf_71 : decode cX1_pairOf 71 = .ok (.iload_n 2, 1) := by decide +kernel
theorem dX1_pairOf_72 : decode cX1_pairOf 72 = .ok (.iconst (-1), 1) := by decide +kernel
theorem dX1_pairOf_73 : decode cX1_pairOf 73 = .ok (.if_icmp .ne 7, 3) := by decide +kernel
theorem dX1_pairOf_76 : decode cX1_pairOf 76 = .ok (.iload_n 3, 1) := by decide +kernel
theorem dX1_pairOf_77 : decode cX1_pairOf 77 = .ok (.goto 4, 3) := by decide +kernel
theorem dX1_pairOf_80 : decode cX1_pairOf 80 = .ok (.iconst (-1), 1) := by decide +kernel
theorem dX1_pairOf_81 : decode cX1_pairOf 81 = .ok (.ireturn, 1) := by decide +kernel
theorem dX1_fewestFor_0 : decode cX1_fewestFor 0 = .ok (.iconst 0, 1) := by decide +kernel
theorem dX1_fewestFor_1 : decode cX1_fewestFor 1 = .ok (.istore_n 2, 1) := by decide +kernel
theorem dX1_fewestFor_2 : decode cX1_fewestFor 2 = .ok (.iload_n 2, 1) := by decide +kernel
theorem dX1_fewestFor_3 : decode cX1_fewestFor 3 = .ok (.bipush 8, 2) := by decide +kernel
theorem dX1_fewestFor_5 : decode cX1_fewestFor 5 = .ok (.if_icmp .ge 27, 3) := by decide +kernel
theorem dX1_fewestFor_8 : decode cX1_fewestFor 8 = .ok (.aload_n 0, 1) := by decide +kernel
theorem dX1_fewestFor_9 : decode cX1_fewestFor 9 = .ok (.getfield 9, 3) := by decide +kernel
theorem dX1_fewestFor_12 : decode cX1_fewestFor 12 = .ok (.aload_n 0, 1) := by decide +kernel
theorem dX1_fewestFor_13 : decode cX1_fewestFor 13 = .ok (.getfield 15, 3) := by decide +kernel
theorem dX1_fewestFor_16 : decode cX1_fewestFor 16 = .ok (.iload_n 1, 1) := by decide +kernel
theorem dX1_fewestFor_17 : decode cX1_fewestFor 17 = .ok (.iconst 0, 1) := by decide +kernel
theorem dX1_fewestFor_18 : decode cX1_fewestFor 18 = .ok (.iload_n 2, 1) := by decide +kernel
theorem dX1_fewestFor_19 : decode cX1_fewestFor 19 = .ok (.iconst 0, 1) := by decide +kernel
theorem dX1_fewestFor_20 : decode cX1_fewestFor 20 = .ok (.invokestatic 25, 3) := by decide +kernel
theorem dX1_fewestFor_23 : decode cX1_fewestFor 23 = .ok (.ifCond .ne 9, 3) := by decide +kernel
theorem dX1_fewestFor_26 : decode cX1_fewestFor 26 = .ok (.iinc 2 1, 3) := by decide +kernel
theorem dX1_fewestFor_29 : decode cX1_fewestFor 29 = .ok (.goto (-27), 3) := by decide +kernel
theorem dX1_fewestFor_32 : decode cX1_fewestFor 32 = .ok (.iload_n 2, 1) := by decide +kernel
theorem dX1_fewestFor_33 : decode cX1_fewestFor 33 = .ok (.ireturn, 1) := by decide +kernel
theorem dX1_chosen_0 : decode cX1_chosen 0 = .ok (.iload_n 1, 1) := by decide +kernel
theorem dX1_chosen_1 : decode cX1_chosen 1 = .ok (.ifCond .lt 21, 3) := by decide +kernel
theorem dX1_chosen_4 : decode cX1_chosen 4 = .ok (.iload_n 1, 1) := by decide +kernel
theorem dX1_chosen_5 : decode cX1_chosen 5 = .ok (.aload_n 0, 1) := by decide +kernel
theorem dX1_chosen_6 : decode cX1_chosen 6 = .ok (.getfield 15, 3) := by decide +kernel
theorem dX1_chosen_9 : decode cX1_chosen 9 = .ok (.arraylength, 1) := by decide +kernel
theorem dX1_chosen_10 : decode cX1_chosen 10 = .ok (.if_icmp .ge 12, 3) := by decide +kernel
theorem dX1_chosen_13 : decode cX1_chosen 13 = .ok (.aload_n 0, 1) := by decide +kernel
theorem dX1_chosen_14 : decode cX1_chosen 14 = .ok (.getfield 15, 3) := by decide +kernel
theorem dX1_chosen_17 : decode cX1_chosen 17 = .ok (.iload_n 1, 1) := by decide +kernel
theorem dX1_chosen_18 : decode cX1_chosen 18 = .ok (.iaload, 1) := by decide +kernel
theorem dX1_chosen_19 : decode cX1_chosen 19 = .ok (.goto 4, 3) := by decide +kernel
theorem dX1_chosen_22 : decode cX1_chosen 22 = .ok (.iconst (-1), 1) := by decide +kernel
theorem dX1_chosen_23 : decode cX1_chosen 23 = .ok (.ireturn, 1) := by decide +kernel
theorem dX1_canChoose_0 : decode cX1_canChoose 0 = .ok (.iload 5, 2) := by decide +kernel
theorem dX1_canChoose_2 : decode cX1_canChoose 2 = .ok (.ifCond .lt 17, 3) := by decide +kernel
theorem dX1_canChoose_5 : decode cX1_canChoose 5 = .ok (.iload 5, 2) := by decide +kernel
theorem dX1_canChoose_7 : decode cX1_canChoose 7 = .ok (.iload 4, 2) := by decide +kernel
theorem dX1_canChoose_9 : decode cX1_canChoose 9 = .ok (.if_icmp .ge 10, 3) := by decide +kernel
theorem dX1_canChoose_12 : decode cX1_canChoose 12 = .ok (.iload 5, 2) := by decide +kernel
theorem dX1_canChoose_14 : decode cX1_canChoose 14 = .ok (.aload_n 1, 1) := by decide +kernel
theorem dX1_canChoose_15 : decode cX1_canChoose 15 = .ok (.arraylength, 1) := by decide +kernel
theorem dX1_canChoose_16 : decode cX1_canChoose 16 = .ok (.if_icmp .lt 13, 3) := by decide +kernel
theorem dX1_canChoose_19 : decode cX1_canChoose 19 = .ok (.iload_n 2, 1) := by decide +kernel
theorem dX1_canChoose_20 : decode cX1_canChoose 20 = .ok (.ifCond .ne 7, 3) := by decide +kernel
theorem dX1_canChoose_23 : decode cX1_canChoose 23 = .ok (.iconst 1, 1) := by decide +kernel
theorem dX1_canChoose_24 : decode cX1_canChoose 24 = .ok (.goto 4, 3) := by decide +kernel
theorem dX1_canChoose_27 : decode cX1_canChoose 27 = .ok (.iconst 0, 1) := by decide +kernel
theorem dX1_canChoose_28 : decode cX1_canChoose 28 = .ok (.ireturn, 1) := by decide +kernel
theorem dX1_canChoose_29 : decode cX1_canChoose 29 = .ok (.iconst 0, 1) := by decide +kernel
theorem dX1_canChoose_30 : decode cX1_canChoose 30 = .ok (.iload_n 3, 1) := by decide +kernel
theorem dX1_canChoose_31 : decode cX1_canChoose 31 = .ok (.invokestatic 29, 3) := by decide +kernel
theorem dX1_canChoose_34 : decode cX1_canChoose 34 = .ok (.istore 6, 2) := by decide +kernel
theorem dX1_canChoose_36 : decode cX1_canChoose 36 = .ok (.iload 6, 2) := by decide +kernel
theorem dX1_canChoose_38 : decode cX1_canChoose 38 = .ok (.aload_n 0, 1) := by decide +kernel
theorem dX1_canChoose_39 : decode cX1_canChoose 39 = .ok (.arraylength, 1) := by decide +kernel
theorem dX1_canChoose_40 : decode cX1_canChoose 40 = .ok (.if_icmp .ge 41, 3) := by decide +kernel
theorem dX1_canChoose_43 : decode cX1_canChoose 43 = .ok (.aload_n 1, 1) := by decide +kernel
theorem dX1_canChoose_44 : decode cX1_canChoose 44 = .ok (.iload 5, 2) := by decide +kernel
theorem dX1_canChoose_46 : decode cX1_canChoose 46 = .ok (.iload 6, 2) := by decide +kernel
theorem dX1_canChoose_48 : decode cX1_canChoose 48 = .ok (.iastore, 1) := by decide +kernel
theorem dX1_canChoose_49 : decode cX1_canChoose 49 = .ok (.aload_n 0, 1) := by decide +kernel
theorem dX1_canChoose_50 : decode cX1_canChoose 50 = .ok (.aload_n 1, 1) := by decide +kernel
theorem dX1_canChoose_51 : decode cX1_canChoose 51 = .ok (.iload_n 2, 1) := by decide +kernel
theorem dX1_canChoose_52 : decode cX1_canChoose 52 = .ok (.aload_n 0, 1) := by decide +kernel
theorem dX1_canChoose_53 : decode cX1_canChoose 53 = .ok (.iload 6, 2) := by decide +kernel
theorem dX1_canChoose_55 : decode cX1_canChoose 55 = .ok (.iaload, 1) := by decide +kernel
theorem dX1_canChoose_56 : decode cX1_canChoose 56 = .ok (.ixor, 1) := by decide +kernel
theorem dX1_canChoose_57 : decode cX1_canChoose 57 = .ok (.iload 6, 2) := by decide +kernel
theorem dX1_canChoose_59 : decode cX1_canChoose 59 = .ok (.iconst 1, 1) := by decide +kernel
theorem dX1_canChoose_60 : decode cX1_canChoose 60 = .ok (.iadd, 1) := by decide +kernel
theorem dX1_canChoose_61 : decode cX1_canChoose 61 = .ok (.iload 4, 2) := by decide +kernel
theorem dX1_canChoose_63 : decode cX1_canChoose 63 = .ok (.iload 5, 2) := by decide +kernel
theorem dX1_canChoose_65 : decode cX1_canChoose 65 = .ok (.iconst 1, 1) := by decide +kernel
theorem dX1_canChoose_66 : decode cX1_canChoose 66 = .ok (.iadd, 1) := by decide +kernel
theorem dX1_canChoose_67 : decode cX1_canChoose 67 = .ok (.invokestatic 25, 3) := by decide +kernel
theorem dX1_canChoose_70 : decode cX1_canChoose 70 = .ok (.ifCond .eq 5, 3) := by decide +kernel
theorem dX1_canChoose_73 : decode cX1_canChoose 73 = .ok (.iconst 1, 1) := by decide +kernel
theorem dX1_canChoose_74 : decode cX1_canChoose 74 = .ok (.ireturn, 1) := by decide +kernel
theorem dX1_canChoose_75 : decode cX1_canChoose 75 = .ok (.iinc 6 1, 3) := by decide +kernel
theorem dX1_canChoose_78 : decode cX1_canChoose 78 = .ok (.goto (-42), 3) := by decide +kernel
theorem dX1_canChoose_81 : decode cX1_canChoose 81 = .ok (.iconst 0, 1) := by decide +kernel
theorem dX1_canChoose_82 : decode cX1_canChoose 82 = .ok (.ireturn, 1) := by decide +kernel
theorem dX2_init_0 : decode cX2_init 0 = .ok (.aload_n 0, 1) := by decide +kernel
theorem dX2_init_1 : decode cX2_init 1 = .ok (.invokespecial 3, 3) := by decide +kernel
theorem dX2_init_4 : decode cX2_init 4 = .ok (.aload_n 0, 1) := by decide +kernel
theorem dX2_init_5 : decode cX2_init 5 = .ok (.lconst 0, 1) := by decide +kernel
theorem dX2_init_6 : decode cX2_init 6 = .ok (.putfield 9, 3) := by decide +kernel
theorem dX2_init_9 : decode cX2_init 9 = .ok (.return_, 1) := by decide +kernel
theorem dX2_clear_0 : decode cX2_clear 0 = .ok (.aload_n 0, 1) := by decide +kernel
theorem dX2_clear_1 : decode cX2_clear 1 = .ok (.lconst 0, 1) := by decide +kernel
theorem dX2_clear_2 : decode cX2_clear 2 = .ok (.putfield 9, 3) := by decide +kernel
theorem dX2_clear_5 : decode cX2_clear 5 = .ok (.return_, 1) := by decide +kernel
theorem dX2_mirror_0 : decode cX2_mirror 0 = .ok (.aload_n 0, 1) := by decide +kernel
theorem dX2_mirror_1 : decode cX2_mirror 1 = .ok (.aload_n 1, 1) := by decide +kernel
theorem dX2_mirror_2 : decode cX2_mirror 2 = .ok (.getfield 9, 3) := by decide +kernel
theorem dX2_mirror_5 : decode cX2_mirror 5 = .ok (.putfield 9, 3) := by decide +kernel
theorem dX2_mirror_8 : decode cX2_mirror 8 = .ok (.return_, 1) := by decide +kernel
theorem dX2_set_0 : decode cX2_set 0 = .ok (.aload_n 0, 1) := by decide +kernel
theorem dX2_set_1 : decode cX2_set 1 = .ok (.iload_n 2, 1) := by decide +kernel
theorem dX2_set_2 : decode cX2_set 2 = .ok (.i2l, 1) := by decide +kernel
theorem dX2_set_3 : decode cX2_set 3 = .ok (.ldc2_w 15, 3) := by decide +kernel
theorem dX2_set_6 : decode cX2_set 6 = .ok (.land, 1) := by decide +kernel
theorem dX2_set_7 : decode cX2_set 7 = .ok (.bipush 11, 2) := by decide +kernel
theorem dX2_set_9 : decode cX2_set 9 = .ok (.lshl, 1) := by decide +kernel
theorem dX2_set_10 : decode cX2_set 10 = .ok (.iload_n 1, 1) := by decide +kernel
theorem dX2_set_11 : decode cX2_set 11 = .ok (.sipush 2047, 3) := by decide +kernel
theorem dX2_set_14 : decode cX2_set 14 = .ok (.iand, 1) := by decide +kernel
theorem dX2_set_15 : decode cX2_set 15 = .ok (.i2l, 1) := by decide +kernel
theorem dX2_set_16 : decode cX2_set 16 = .ok (.lor, 1) := by decide +kernel
theorem dX2_set_17 : decode cX2_set 17 = .ok (.putfield 9, 3) := by decide +kernel
theorem dX2_set_20 : decode cX2_set 20 = .ok (.return_, 1) := by decide +kernel
theorem dX2_oldest_0 : decode cX2_oldest 0 = .ok (.aload_n 0, 1) := by decide +kernel
theorem dX2_oldest_1 : decode cX2_oldest 1 = .ok (.getfield 9, 3) := by decide +kernel
theorem dX2_oldest_4 : decode cX2_oldest 4 = .ok (.bipush 42, 2) := by decide +kernel
theorem dX2_oldest_6 : decode cX2_oldest 6 = .ok (.lushr, 1) := by decide +kernel
theorem dX2_oldest_7 : decode cX2_oldest 7 = .ok (.l2i, 1) := by decide +kernel
theorem dX2_oldest_8 : decode cX2_oldest 8 = .ok (.ireturn, 1) := by decide +kernel
theorem dX2_bitAgo_0 : decode cX2_bitAgo 0 = .ok (.aload_n 0, 1) := by decide +kernel
theorem dX2_bitAgo_1 : decode cX2_bitAgo 1 = .ok (.getfield 9, 3) := by decide +kernel
theorem dX2_bitAgo_4 : decode cX2_bitAgo 4 = .ok (.iload_n 1, 1) := by decide +kernel
theorem dX2_bitAgo_5 : decode cX2_bitAgo 5 = .ok (.lushr, 1) := by decide +kernel
theorem dX2_bitAgo_6 : decode cX2_bitAgo 6 = .ok (.l2i, 1) := by decide +kernel
theorem dX2_bitAgo_7 : decode cX2_bitAgo 7 = .ok (.iconst 1, 1) := by decide +kernel
theorem dX2_bitAgo_8 : decode cX2_bitAgo 8 = .ok (.iand, 1) := by decide +kernel
theorem dX2_bitAgo_9 : decode cX2_bitAgo 9 = .ok (.ireturn, 1) := by decide +kernel
theorem dX2_push_0 : decode cX2_push 0 = .ok (.aload_n 0, 1) := by decide +kernel
theorem dX2_push_1 : decode cX2_push 1 = .ok (.aload_n 0, 1) := by decide +kernel
theorem dX2_push_2 : decode cX2_push 2 = .ok (.getfield 9, 3) := by decide +kernel
theorem dX2_push_5 : decode cX2_push 5 = .ok (.iconst 1, 1) := by decide +kernel
theorem dX2_push_6 : decode cX2_push 6 = .ok (.lshl, 1) := by decide +kernel
theorem dX2_push_7 : decode cX2_push 7 = .ok (.iload_n 1, 1) := by decide +kernel
theorem dX2_push_8 : decode cX2_push 8 = .ok (.i2l, 1) := by decide +kernel
theorem dX2_push_9 : decode cX2_push 9 = .ok (.lor, 1) := by decide +kernel
theorem dX2_push_10 : decode cX2_push 10 = .ok (.ldc2_w 17, 3) := by decide +kernel
theorem dX2_push_13 : decode cX2_push 13 = .ok (.land, 1) := by decide +kernel
theorem dX2_push_14 : decode cX2_push 14 = .ok (.putfield 9, 3) := by decide +kernel
theorem dX2_push_17 : decode cX2_push 17 = .ok (.return_, 1) := by decide +kernel
theorem dX2_ones_0 : decode cX2_ones 0 = .ok (.aload_n 0, 1) := by decide +kernel
theorem dX2_ones_1 : decode cX2_ones 1 = .ok (.getfield 9, 3) := by decide +kernel
theorem dX2_ones_4 : decode cX2_ones 4 = .ok (.invokestatic 19, 3) := by decide +kernel
theorem dX2_ones_7 : decode cX2_ones 7 = .ok (.ireturn, 1) := by decide +kernel
theorem dX3_init_0 : decode cX3_init 0 = .ok (.aload_n 0, 1) := by decide +kernel
theorem dX3_init_1 : decode cX3_init 1 = .ok (.invokespecial 1, 3) := by decide +kernel
theorem dX3_init_4 : decode cX3_init 4 = .ok (.aload_n 0, 1) := by decide +kernel
theorem dX3_init_5 : decode cX3_init 5 = .ok (.bipush 17, 2) := by decide +kernel
theorem dX3_init_7 : decode cX3_init 7 = .ok (.newarray .long, 2) := by decide +kernel
theorem dX3_init_9 : decode cX3_init 9 = .ok (.putfield 7, 3) := by decide +kernel
theorem dX3_init_12 : decode cX3_init 12 = .ok (.return_, 1) := by decide +kernel
theorem dX3_waysUp_0 : decode cX3_waysUp 0 = .ok (.iload_n 1, 1) := by decide +kernel
theorem dX3_waysUp_1 : decode cX3_waysUp 1 = .ok (.iconst 1, 1) := by decide +kernel
theorem dX3_waysUp_2 : decode cX3_waysUp 2 = .ok (.if_icmp .lt 21, 3) := by decide +kernel
theorem dX3_waysUp_5 : decode cX3_waysUp 5 = .ok (.iload_n 1, 1) := by decide +kernel
theorem dX3_waysUp_6 : decode cX3_waysUp 6 = .ok (.aload_n 0, 1) := by decide +kernel
theorem dX3_waysUp_7 : decode cX3_waysUp 7 = .ok (.getfield 7, 3) := by decide +kernel
theorem dX3_waysUp_10 : decode cX3_waysUp 10 = .ok (.arraylength, 1) := by decide +kernel
theorem dX3_waysUp_11 : decode cX3_waysUp 11 = .ok (.if_icmp .gt 12, 3) := by decide +kernel
theorem dX3_waysUp_14 : decode cX3_waysUp 14 = .ok (.iload_n 2, 1) := by decide +kernel
theorem dX3_waysUp_15 : decode cX3_waysUp 15 = .ok (.ifCond .lt 8, 3) := by decide +kernel
theorem dX3_waysUp_18 : decode cX3_waysUp 18 = .ok (.iload_n 2, 1) := by decide +kernel
theorem dX3_waysUp_19 : decode cX3_waysUp 19 = .ok (.iload_n 1, 1) := by decide +kernel
theorem dX3_waysUp_20 : decode cX3_waysUp 20 = .ok (.if_icmp .lt 5, 3) := by decide +kernel
theorem dX3_waysUp_23 : decode cX3_waysUp 23 = .ok (.lconst 0, 1) := by decide +kernel
theorem dX3_waysUp_24 : decode cX3_waysUp 24 = .ok (.lreturn, 1) := by decide +kernel
theorem dX3_waysUp_25 : decode cX3_waysUp 25 = .ok (.aload_n 0, 1) := by decide +kernel
theorem dX3_waysUp_26 : decode cX3_waysUp 26 = .ok (.getfield 7, 3) := by decide +kernel
theorem dX3_waysUp_29 : decode cX3_waysUp 29 = .ok (.lconst 0, 1) := by decide +kernel
theorem dX3_waysUp_30 : decode cX3_waysUp 30 = .ok (.invokestatic 13, 3) := by decide +kernel
theorem dX3_waysUp_33 : decode cX3_waysUp 33 = .ok (.aload_n 0, 1) := by decide +kernel
theorem dX3_waysUp_34 : decode cX3_waysUp 34 = .ok (.getfield 7, 3) := by decide +kernel
theorem dX3_waysUp_37 : decode cX3_waysUp 37 = .ok (.iload_n 2, 1) := by decide +kernel
theorem dX3_waysUp_38 : decode cX3_waysUp 38 = .ok (.lconst 1, 1) := by decide +kernel
theorem dX3_waysUp_39 : decode cX3_waysUp 39 = .ok (.lastore, 1) := by decide +kernel
theorem dX3_waysUp_40 : decode cX3_waysUp 40 = .ok (.lconst 0, 1) := by decide +kernel
theorem dX3_waysUp_41 : decode cX3_waysUp 41 = .ok (.lstore 5, 2) := by decide +kernel
theorem dX3_waysUp_43 : decode cX3_waysUp 43 = .ok (.iconst 0, 1) := by decide +kernel
theorem dX3_waysUp_44 : decode cX3_waysUp 44 = .ok (.istore 7, 2) := by decide +kernel
theorem dX3_waysUp_46 : decode cX3_waysUp 46 = .ok (.iload 7, 2) := by decide +kernel
theorem dX3_waysUp_48 : decode cX3_waysUp 48 = .ok (.iload_n 3, 1) := by decide +kernel
theorem dX3_waysUp_49 : decode cX3_waysUp 49 = .ok (.if_icmp .ge 102, 3) := by decide +kernel
theorem dX3_waysUp_52 : decode cX3_waysUp 52 = .ok (.lload 5, 2) := by decide +kernel
theorem dX3_waysUp_54 : decode cX3_waysUp 54 = .ok (.ldc2_w 19, 3) := by decide +kernel
theorem dX3_waysUp_57 : decode cX3_waysUp 57 = .ok (.lmul, 1) := by decide +kernel
theorem dX3_waysUp_58 : decode cX3_waysUp 58 = .ok (.aload_n 0, 1) := by decide +kernel
theorem dX3_waysUp_59 : decode cX3_waysUp 59 = .ok (.getfield 7, 3) := by decide +kernel
theorem dX3_waysUp_62 : decode cX3_waysUp 62 = .ok (.iload_n 1, 1) := by decide +kernel
theorem dX3_waysUp_63 : decode cX3_waysUp 63 = .ok (.iconst 1, 1) := by decide +kernel
theorem dX3_waysUp_64 : decode cX3_waysUp 64 = .ok (.isub, 1) := by decide +kernel
theorem dX3_waysUp_65 : decode cX3_waysUp 65 = .ok (.laload, 1) := by decide +kernel
theorem dX3_waysUp_66 : decode cX3_waysUp 66 = .ok (.iload 4, 2) := by decide +kernel
theorem dX3_waysUp_68 : decode cX3_waysUp 68 = .ok (.i2l, 1) := by decide +kernel
theorem dX3_waysUp_69 : decode cX3_waysUp 69 = .ok (.lmul, 1) := by decide +kernel
theorem dX3_waysUp_70 : decode cX3_waysUp 70 = .ok (.ladd, 1) := by decide +kernel
theorem dX3_waysUp_71 : decode cX3_waysUp 71 = .ok (.lstore 5, 2) := by decide +kernel
theorem dX3_waysUp_73 : decode cX3_waysUp 73 = .ok (.aload_n 0, 1) := by decide +kernel
theorem dX3_waysUp_74 : decode cX3_waysUp 74 = .ok (.getfield 7, 3) := by decide +kernel
theorem dX3_waysUp_77 : decode cX3_waysUp 77 = .ok (.iconst 0, 1) := by decide +kernel
theorem dX3_waysUp_78 : decode cX3_waysUp 78 = .ok (.laload, 1) := by decide +kernel
theorem dX3_waysUp_79 : decode cX3_waysUp 79 = .ok (.lstore 8, 2) := by decide +kernel
theorem dX3_waysUp_81 : decode cX3_waysUp 81 = .ok (.iload_n 1, 1) := by decide +kernel
theorem dX3_waysUp_82 : decode cX3_waysUp 82 = .ok (.iconst 1, 1) := by decide +kernel
theorem dX3_waysUp_83 : decode cX3_waysUp 83 = .ok (.isub, 1) := by decide +kernel
theorem dX3_waysUp_84 : decode cX3_waysUp 84 = .ok (.istore 10, 2) := by decide +kernel
theorem dX3_waysUp_86 : decode cX3_waysUp 86 = .ok (.iload 10, 2) := by decide +kernel
theorem dX3_waysUp_88 : decode cX3_waysUp 88 = .ok (.ifCond .le 41, 3) := by decide +kernel
theorem dX3_waysUp_91 : decode cX3_waysUp 91 = .ok (.lload 8, 2) := by decide +kernel
theorem dX3_waysUp_93 : decode cX3_waysUp 93 = .ok (.aload_n 0, 1) := by decide +kernel
theorem dX3_waysUp_94 : decode cX3_waysUp 94 = .ok (.getfield 7, 3) := by decide +kernel
theorem dX3_waysUp_97 : decode cX3_waysUp 97 = .ok (.iload 10, 2) := by decide +kernel
theorem dX3_waysUp_99 : decode cX3_waysUp 99 = .ok (.laload, 1) := by decide +kernel
theorem dX3_waysUp_100 : decode cX3_waysUp 100 = .ok (.ladd, 1) := by decide +kernel
theorem dX3_waysUp_101 : decode cX3_waysUp 101 = .ok (.lstore 8, 2) := by decide +kernel
theorem dX3_waysUp_103 : decode cX3_waysUp 103 = .ok (.aload_n 0, 1) := by decide +kernel
theorem dX3_waysUp_104 : decode cX3_waysUp 104 = .ok (.getfield 7, 3) := by decide +kernel
theorem dX3_waysUp_107 : decode cX3_waysUp 107 = .ok (.iload 10, 2) := by decide +kernel
theorem dX3_waysUp_109 : decode cX3_waysUp 109 = .ok (.aload_n 0, 1) := by decide +kernel
theorem dX3_waysUp_110 : decode cX3_waysUp 110 = .ok (.getfield 7, 3) := by decide +kernel
theorem dX3_waysUp_113 : decode cX3_waysUp 113 = .ok (.iload 10, 2) := by decide +kernel
theorem dX3_waysUp_115 : decode cX3_waysUp 115 = .ok (.iconst 1, 1) := by decide +kernel
theorem dX3_waysUp_116 : decode cX3_waysUp 116 = .ok (.isub, 1) := by decide +kernel
theorem dX3_waysUp_117 : decode cX3_waysUp 117 = .ok (.laload, 1) := by decide +kernel
theorem dX3_waysUp_118 : decode cX3_waysUp 118 = .ok (.iload 4, 2) := by decide +kernel
theorem dX3_waysUp_120 : decode cX3_waysUp 120 = .ok (.i2l, 1) := by decide +kernel
theorem dX3_waysUp_121 : decode cX3_waysUp 121 = .ok (.lmul, 1) := by decide +kernel
theorem dX3_waysUp_122 : decode cX3_waysUp 122 = .ok (.lastore, 1) := by decide +kernel
theorem dX3_waysUp_123 : decode cX3_waysUp 123 = .ok (.iinc 10 (-1), 3) := by decide +kernel
theorem dX3_waysUp_126 : decode cX3_waysUp 126 = .ok (.goto (-40), 3) := by decide +kernel
theorem dX3_waysUp_129 : decode cX3_waysUp 129 = .ok (.aload_n 0, 1) := by decide +kernel
theorem dX3_waysUp_130 : decode cX3_waysUp 130 = .ok (.getfield 7, 3) := by decide +kernel
theorem dX3_waysUp_133 : decode cX3_waysUp 133 = .ok (.iconst 0, 1) := by decide +kernel
theorem dX3_waysUp_134 : decode cX3_waysUp 134 = .ok (.lload 8, 2) := by decide +kernel
theorem dX3_waysUp_136 : decode cX3_waysUp 136 = .ok (.sipush 256, 3) := by decide +kernel
theorem dX3_waysUp_139 : decode cX3_waysUp 139 = .ok (.iload 4, 2) := by decide +kernel
theorem dX3_waysUp_141 : decode cX3_waysUp 141 = .ok (.isub, 1) := by decide +kernel
theorem dX3_waysUp_142 : decode cX3_waysUp 142 = .ok (.i2l, 1) := by decide +kernel
theorem dX3_waysUp_143 : decode cX3_waysUp 143 = .ok (.lmul, 1) := by decide +kernel
theorem dX3_waysUp_144 : decode cX3_waysUp 144 = .ok (.lastore, 1) := by decide +kernel
theorem dX3_waysUp_145 : decode cX3_waysUp 145 = .ok (.iinc 7 1, 3) := by decide +kernel
theorem dX3_waysUp_148 : decode cX3_waysUp 148 = .ok (.goto (-102), 3) := by decide +kernel
theorem dX3_waysUp_151 : decode cX3_waysUp 151 = .ok (.lload 5, 2) := by decide +kernel
theorem dX3_waysUp_153 : decode cX3_waysUp 153 = .ok (.lreturn, 1) := by decide +kernel
theorem dX3_meanClimb_0 : decode cX3_meanClimb 0 = .ok (.iload_n 1, 1) := by decide +kernel
theorem dX3_meanClimb_1 : decode cX3_meanClimb 1 = .ok (.i2d, 1) := by decide +kernel
theorem dX3_meanClimb_2 : decode cX3_meanClimb 2 = .ok (.ldc2_w 21, 3) := by decide +kernel
theorem dX3_meanClimb_5 : decode cX3_meanClimb 5 = .ok (.ddiv, 1) := by decide +kernel
theorem dX3_meanClimb_6 : decode cX3_meanClimb 6 = .ok (.dstore_n 2, 1) := by decide +kernel
theorem dX3_meanClimb_7 : decode cX3_meanClimb 7 = .ok (.dconst 0, 1) := by decide +kernel
theorem dX3_meanClimb_8 : decode cX3_meanClimb 8 = .ok (.dstore 4, 2) := by decide +kernel
theorem dX3_meanClimb_10 : decode cX3_meanClimb 10 = .ok (.dload_n 2, 1) := by decide +kernel
theorem dX3_meanClimb_11 : decode cX3_meanClimb 11 = .ok (.dconst 0, 1) := by decide +kernel
theorem dX3_meanClimb_12 : decode cX3_meanClimb 12 = .ok (.dcmp .l, 1) := by decide +kernel
theorem dX3_meanClimb_13 : decode cX3_meanClimb 13 = .ok (.ifCond .le 26, 3) := by decide +kernel
theorem dX3_meanClimb_16 : decode cX3_meanClimb 16 = .ok (.iconst 0, 1) := by decide +kernel
theorem dX3_meanClimb_17 : decode cX3_meanClimb 17 = .ok (.istore 6, 2) := by decide +kernel
theorem dX3_meanClimb_19 : decode cX3_meanClimb 19 = .ok (.iload 6, 2) := by decide +kernel
theorem dX3_meanClimb_21 : decode cX3_meanClimb 21 = .ok (.iload_n 0, 1) := by decide +kernel
theorem dX3_meanClimb_22 : decode cX3_meanClimb 22 = .ok (.if_icmp .ge 17, 3) := by decide +kernel
theorem dX3_meanClimb_25 : decode cX3_meanClimb 25 = .ok (.dload 4, 2) := by decide +kernel
theorem dX3_meanClimb_27 : decode cX3_meanClimb 27 = .ok (.dconst 1, 1) := by decide +kernel
theorem dX3_meanClimb_28 : decode cX3_meanClimb 28 = .ok (.dadd, 1) := by decide +kernel
theorem dX3_meanClimb_29 : decode cX3_meanClimb 29 = .ok (.dload_n 2, 1) := by decide +kernel
theorem dX3_meanClimb_30 : decode cX3_meanClimb 30 = .ok (.ddiv, 1) := by decide +kernel
theorem dX3_meanClimb_31 : decode cX3_meanClimb 31 = .ok (.dstore 4, 2) := by decide +kernel
theorem dX3_meanClimb_33 : decode cX3_meanClimb 33 = .ok (.iinc 6 1, 3) := by decide +kernel
theorem dX3_meanClimb_36 : decode cX3_meanClimb 36 = .ok (.goto (-17), 3) := by decide +kernel
theorem dX3_meanClimb_39 : decode cX3_meanClimb 39 = .ok (.dload 4, 2) := by decide +kernel
theorem dX3_meanClimb_41 : decode cX3_meanClimb 41 = .ok (.dreturn, 1) := by decide +kernel
theorem dX4_init_0 : decode cX4_init 0 = .ok (.aload_n 0, 1) := by decide +kernel
theorem dX4_init_1 : decode cX4_init 1 = .ok (.invokespecial 3, 3) := by decide +kernel
theorem dX4_init_4 : decode cX4_init 4 = .ok (.aload_n 0, 1) := by decide +kernel
theorem dX4_init_5 : decode cX4_init 5 = .ok (.sipush 9600, 3) := by decide +kernel
theorem dX4_init_8 : decode cX4_init 8 = .ok (.newarray .byte, 2) := by decide +kernel
theorem dX4_init_10 : decode cX4_init 10 = .ok (.putfield 9, 3) := by decide +kernel
theorem dX4_init_13 : decode cX4_init 13 = .ok (.aload_n 0, 1) := by decide +kernel
theorem dX4_init_14 : decode cX4_init 14 = .ok (.iconst 0, 1) := by decide +kernel
theorem dX4_init_15 : decode cX4_init 15 = .ok (.putfield 15, 3) := by decide +kernel
theorem dX4_init_18 : decode cX4_init 18 = .ok (.aload_n 0, 1) := by decide +kernel
theorem dX4_init_19 : decode cX4_init 19 = .ok (.iconst 0, 1) := by decide +kernel
theorem dX4_init_20 : decode cX4_init 20 = .ok (.putfield 19, 3) := by decide +kernel
theorem dX4_init_23 : decode cX4_init 23 = .ok (.return_, 1) := by decide +kernel
theorem dX4_has_0 : decode cX4_has 0 = .ok (.iload_n 1, 1) := by decide +kernel
theorem dX4_has_1 : decode cX4_has 1 = .ok (.ifCond .lt 24, 3) := by decide +kernel
theorem dX4_has_4 : decode cX4_has 4 = .ok (.iload_n 1, 1) := by decide +kernel
theorem dX4_has_5 : decode cX4_has 5 = .ok (.aload_n 0, 1) := by decide +kernel
theorem dX4_has_6 : decode cX4_has 6 = .ok (.getfield 15, 3) := by decide +kernel
theorem dX4_has_9 : decode cX4_has 9 = .ok (.if_icmp .ge 16, 3) := by decide +kernel
theorem dX4_has_12 : decode cX4_has 12 = .ok (.iload_n 1, 1) := by decide +kernel
theorem dX4_has_13 : decode cX4_has 13 = .ok (.aload_n 0, 1) := by decide +kernel
theorem dX4_has_14 : decode cX4_has 14 = .ok (.getfield 9, 3) := by decide +kernel
theorem dX4_has_17 : decode cX4_has 17 = .ok (.arraylength, 1) := by decide +kernel
theorem dX4_has_18 : decode cX4_has 18 = .ok (.if_icmp .ge 7, 3) := by decide +kernel
theorem dX4_has_21 : decode cX4_has 21 = .ok (.iconst 1, 1) := by decide +kernel
theorem dX4_has_22 : decode cX4_has 22 = .ok (.goto 4, 3) := by decide +kernel
theorem dX4_has_25 : decode cX4_has 25 = .ok (.iconst 0, 1) := by decide +kernel
theorem dX4_has_26 : decode cX4_has 26 = .ok (.ireturn, 1) := by decide +kernel
theorem dX4_left_0 : decode cX4_left 0 = .ok (.aload_n 0, 1) := by decide +kernel
theorem dX4_left_1 : decode cX4_left 1 = .ok (.getfield 15, 3) := by decide +kernel
theorem dX4_left_4 : decode cX4_left 4 = .ok (.aload_n 0, 1) := by decide +kernel
theorem dX4_left_5 : decode cX4_left 5 = .ok (.getfield 19, 3) := by decide +kernel
theorem dX4_left_8 : decode cX4_left 8 = .ok (.isub, 1) := by decide +kernel
theorem dX4_left_9 : decode cX4_left 9 = .ok (.ireturn, 1) := by decide +kernel
theorem dX4_hasRoomFor_0 : decode cX4_hasRoomFor 0 = .ok (.iload_n 1, 1) := by decide +kernel
theorem dX4_hasRoomFor_1 : decode cX4_hasRoomFor 1 = .ok (.ifCond .lt 19, 3) := by decide +kernel
theorem dX4_hasRoomFor_4 : decode cX4_hasRoomFor 4 = .ok (.iload_n 1, 1) := by decide +kernel
theorem dX4_hasRoomFor_5 : decode cX4_hasRoomFor 5 = .ok (.sipush 9600, 3) := by decide +kernel
theorem dX4_hasRoomFor_8 : decode cX4_hasRoomFor 8 = .ok (.aload_n 0, 1) := by decide +kernel
theorem dX4_hasRoomFor_9 : decode cX4_hasRoomFor 9 = .ok (.getfield 15, 3) := by decide +kernel
theorem dX4_hasRoomFor_12 : decode cX4_hasRoomFor 12 = .ok (.isub, 1) := by decide +kernel
theorem dX4_hasRoomFor_13 : decode cX4_hasRoomFor 13 = .ok (.if_icmp .gt 7, 3) := by decide +kernel
theorem dX4_hasRoomFor_16 : decode cX4_hasRoomFor 16 = .ok (.iconst 1, 1) := by decide +kernel
theorem dX4_hasRoomFor_17 : decode cX4_hasRoomFor 17 = .ok (.goto 4, 3) := by decide +kernel
theorem dX4_hasRoomFor_20 : decode cX4_hasRoomFor 20 = .ok (.iconst 0, 1) := by decide +kernel
theorem dX4_hasRoomFor_21 : decode cX4_hasRoomFor 21 = .ok (.ireturn, 1) := by decide +kernel
theorem dX4_bitAt_0 : decode cX4_bitAt 0 = .ok (.iload_n 1, 1) := by decide +kernel
theorem dX4_bitAt_1 : decode cX4_bitAt 1 = .ok (.ifCond .lt 21, 3) := by decide +kernel
theorem dX4_bitAt_4 : decode cX4_bitAt 4 = .ok (.iload_n 1, 1) := by decide +kernel
theorem dX4_bitAt_5 : decode cX4_bitAt 5 = .ok (.aload_n 0, 1) := by decide +kernel
theorem dX4_bitAt_6 : decode cX4_bitAt 6 = .ok (.getfield 9, 3) := by decide +kernel
theorem dX4_bitAt_9 : decode cX4_bitAt 9 = .ok (.arraylength, 1) := by decide +kernel
theorem dX4_bitAt_10 : decode cX4_bitAt 10 = .ok (.if_icmp .ge 12, 3) := by decide +kernel
theorem dX4_bitAt_13 : decode cX4_bitAt 13 = .ok (.aload_n 0, 1) := by decide +kernel
theorem dX4_bitAt_14 : decode cX4_bitAt 14 = .ok (.getfield 9, 3) := by decide +kernel
theorem dX4_bitAt_17 : decode cX4_bitAt 17 = .ok (.iload_n 1, 1) := by decide +kernel
theorem dX4_bitAt_18 : decode cX4_bitAt 18 = .ok (.baload, 1) := by decide +kernel
theorem dX4_bitAt_19 : decode cX4_bitAt 19 = .ok (.goto 4, 3) := by decide +kernel
theorem dX4_bitAt_22 : decode cX4_bitAt 22 = .ok (.iconst 0, 1) := by decide +kernel
theorem dX4_bitAt_23 : decode cX4_bitAt 23 = .ok (.ireturn, 1) := by decide +kernel
theorem dX4_toggle_0 : decode cX4_toggle 0 = .ok (.aload_n 0, 1) := by decide +kernel
theorem dX4_toggle_1 : decode cX4_toggle 1 = .ok (.iload_n 1, 1) := by decide +kernel
theorem dX4_toggle_2 : decode cX4_toggle 2 = .ok (.invokevirtual 22, 3) := by decide +kernel
theorem dX4_toggle_5 : decode cX4_toggle 5 = .ok (.ifCond .eq 14, 3) := by decide +kernel
theorem dX4_toggle_8 : decode cX4_toggle 8 = .ok (.aload_n 0, 1) := by decide +kernel
theorem dX4_toggle_9 : decode cX4_toggle 9 = .ok (.getfield 9, 3) := by decide +kernel
theorem dX4_toggle_12 : decode cX4_toggle 12 = .ok (.iload_n 1, 1) := by decide +kernel
theorem dX4_toggle_13 : decode cX4_toggle 13 = .ok (.dup2, 1) := by decide +kernel
theorem dX4_toggle_14 : decode cX4_toggle 14 = .ok (.baload, 1) := by decide +kernel
theorem dX4_toggle_15 : decode cX4_toggle 15 = .ok (.iconst 1, 1) := by decide +kernel
theorem dX4_toggle_16 : decode cX4_toggle 16 = .ok (.ixor, 1) := by decide +kernel
theorem dX4_toggle_17 : decode cX4_toggle 17 = .ok (.i2b, 1) := by decide +kernel
theorem dX4_toggle_18 : decode cX4_toggle 18 = .ok (.bastore, 1) := by decide +kernel
theorem dX4_toggle_19 : decode cX4_toggle 19 = .ok (.return_, 1) := by decide +kernel
theorem dX4_append_0 : decode cX4_append 0 = .ok (.aload_n 0, 1) := by decide +kernel
theorem dX4_append_1 : decode cX4_append 1 = .ok (.iload_n 1, 1) := by decide +kernel
theorem dX4_append_2 : decode cX4_append 2 = .ok (.invokevirtual 26, 3) := by decide +kernel
theorem dX4_append_5 : decode cX4_append 5 = .ok (.ifCond .eq 23, 3) := by decide +kernel
theorem dX4_append_8 : decode cX4_append 8 = .ok (.aload_n 0, 1) := by decide +kernel
theorem dX4_append_9 : decode cX4_append 9 = .ok (.aload_n 0, 1) := by decide +kernel
theorem dX4_append_10 : decode cX4_append 10 = .ok (.getfield 15, 3) := by decide +kernel
theorem dX4_append_13 : decode cX4_append 13 = .ok (.iload_n 1, 1) := by decide +kernel
theorem dX4_append_14 : decode cX4_append 14 = .ok (.iload_n 2, 1) := by decide +kernel
theorem dX4_append_15 : decode cX4_append 15 = .ok (.invokevirtual 29, 3) := by decide +kernel
theorem dX4_append_18 : decode cX4_append 18 = .ok (.aload_n 0, 1) := by decide +kernel
theorem dX4_append_19 : decode cX4_append 19 = .ok (.dup, 1) := by decide +kernel
theorem dX4_append_20 : decode cX4_append 20 = .ok (.getfield 15, 3) := by decide +kernel
theorem dX4_append_23 : decode cX4_append 23 = .ok (.iload_n 1, 1) := by decide +kernel
theorem dX4_append_24 : decode cX4_append 24 = .ok (.iadd, 1) := by decide +kernel
theorem dX4_append_25 : decode cX4_append 25 = .ok (.putfield 15, 3) := by decide +kernel
theorem dX4_append_28 : decode cX4_append 28 = .ok (.return_, 1) := by decide +kernel
theorem dX4_insert_0 : decode cX4_insert 0 = .ok (.iload_n 1, 1) := by decide +kernel
theorem dX4_insert_1 : decode cX4_insert 1 = .ok (.ifCond .lt 57, 3) := by decide +kernel
theorem dX4_insert_4 : decode cX4_insert 4 = .ok (.iload_n 1, 1) := by decide +kernel
theorem dX4_insert_5 : decode cX4_insert 5 = .ok (.aload_n 0, 1) := by decide +kernel
theorem dX4_insert_6 : decode cX4_insert 6 = .ok (.getfield 15, 3) := by decide +kernel
theorem dX4_insert_9 : decode cX4_insert 9 = .ok (.if_icmp .gt 49, 3) := by decide +kernel
theorem dX4_insert_12 : decode cX4_insert 12 = .ok (.aload_n 0, 1) := by decide +kernel
theorem dX4_insert_13 : decode cX4_insert 13 = .ok (.iload_n 2, 1) := by decide +kernel
theorem dX4_insert_14 : decode cX4_insert 14 = .ok (.invokevirtual 26, 3) := by decide +kernel
theorem dX4_insert_17 : decode cX4_insert 17 = .ok (.ifCond .eq 41, 3) := by decide +kernel
theorem dX4_insert_20 : decode cX4_insert 20 = .ok (.aload_n 0, 1) := by decide +kernel
theorem dX4_insert_21 : decode cX4_insert 21 = .ok (.getfield 9, 3) := by decide +kernel
theorem dX4_insert_24 : decode cX4_insert 24 = .ok (.iload_n 1, 1) := by decide +kernel
theorem dX4_insert_25 : decode cX4_insert 25 = .ok (.aload_n 0, 1) := by decide +kernel
theorem dX4_insert_26 : decode cX4_insert 26 = .ok (.getfield 9, 3) := by decide +kernel
theorem dX4_insert_29 : decode cX4_insert 29 = .ok (.iload_n 1, 1) := by decide +kernel
theorem dX4_insert_30 : decode cX4_insert 30 = .ok (.iload_n 2, 1) := by decide +kernel
theorem dX4_insert_31 : decode cX4_insert 31 = .ok (.iadd, 1) := by decide +kernel
theorem dX4_insert_32 : decode cX4_insert 32 = .ok (.aload_n 0, 1) := by decide +kernel
theorem dX4_insert_33 : decode cX4_insert 33 = .ok (.getfield 15, 3) := by decide +kernel
theorem dX4_insert_36 : decode cX4_insert 36 = .ok (.iload_n 1, 1) := by decide +kernel
theorem dX4_insert_37 : decode cX4_insert 37 = .ok (.isub, 1) := by decide +kernel
theorem dX4_insert_38 : decode cX4_insert 38 = .ok (.invokestatic 33, 3) := by decide +kernel
theorem dX4_insert_41 : decode cX4_insert 41 = .ok (.aload_n 0, 1) := by decide +kernel
theorem dX4_insert_42 : decode cX4_insert 42 = .ok (.iload_n 1, 1) := by decide +kernel
theorem dX4_insert_43 : decode cX4_insert 43 = .ok (.iload_n 2, 1) := by decide +kernel
theorem dX4_insert_44 : decode cX4_insert 44 = .ok (.iload_n 3, 1) := by decide +kernel
theorem dX4_insert_45 : decode cX4_insert 45 = .ok (.invokevirtual 29, 3) := by decide +kernel
theorem dX4_insert_48 : decode cX4_insert 48 = .ok (.aload_n 0, 1) := by decide +kernel
theorem dX4_insert_49 : decode cX4_insert 49 = .ok (.dup, 1) := by decide +kernel
theorem dX4_insert_50 : decode cX4_insert 50 = .ok (.getfield 15, 3) := by decide +kernel
theorem dX4_insert_53 : decode cX4_insert 53 = .ok (.iload_n 2, 1) := by decide +kernel
theorem dX4_insert_54 : decode cX4_insert 54 = .ok (.iadd, 1) := by decide +kernel
theorem dX4_insert_55 : decode cX4_insert 55 = .ok (.putfield 15, 3) := by decide +kernel
theorem dX4_insert_58 : decode cX4_insert 58 = .ok (.return_, 1) := by decide +kernel
theorem dX4_cut_0 : decode cX4_cut 0 = .ok (.aload_n 0, 1) := by decide +kernel
theorem dX4_cut_1 : decode cX4_cut 1 = .ok (.iload_n 1, 1) := by decide +kernel
theorem dX4_cut_2 : decode cX4_cut 2 = .ok (.invokevirtual 22, 3) := by decide +kernel
theorem dX4_cut_5 : decode cX4_cut 5 = .ok (.ifCond .eq 50, 3) := by decide +kernel
theorem dX4_cut_8 : decode cX4_cut 8 = .ok (.iload_n 2, 1) := by decide +kernel
theorem dX4_cut_9 : decode cX4_cut 9 = .ok (.ifCond .lt 46, 3) := by decide +kernel
theorem dX4_cut_12 : decode cX4_cut 12 = .ok (.iload_n 2, 1) := by decide +kernel
theorem dX4_cut_13 : decode cX4_cut 13 = .ok (.aload_n 0, 1) := by decide +kernel
theorem dX4_cut_14 : decode cX4_cut 14 = .ok (.getfield 15, 3) := by decide +kernel
theorem dX4_cut_17 : decode cX4_cut 17 = .ok (.iload_n 1, 1) := by decide +kernel
theorem dX4_cut_18 : decode cX4_cut 18 = .ok (.isub, 1) := by decide +kernel
theorem dX4_cut_19 : decode cX4_cut 19 = .ok (.if_icmp .gt 36, 3) := by decide +kernel
theorem dX4_cut_22 : decode cX4_cut 22 = .ok (.aload_n 0, 1) := by decide +kernel
theorem dX4_cut_23 : decode cX4_cut 23 = .ok (.getfield 9, 3) := by decide +kernel
theorem dX4_cut_26 : decode cX4_cut 26 = .ok (.iload_n 1, 1) := by decide +kernel
theorem dX4_cut_27 : decode cX4_cut 27 = .ok (.iload_n 2, 1) := by decide +kernel
theorem dX4_cut_28 : decode cX4_cut 28 = .ok (.iadd, 1) := by decide +kernel
theorem dX4_cut_29 : decode cX4_cut 29 = .ok (.aload_n 0, 1) := by decide +kernel
theorem dX4_cut_30 : decode cX4_cut 30 = .ok (.getfield 9, 3) := by decide +kernel
theorem dX4_cut_33 : decode cX4_cut 33 = .ok (.iload_n 1, 1) := by decide +kernel
theorem dX4_cut_34 : decode cX4_cut 34 = .ok (.aload_n 0, 1) := by decide +kernel
theorem dX4_cut_35 : decode cX4_cut 35 = .ok (.getfield 15, 3) := by decide +kernel
theorem dX4_cut_38 : decode cX4_cut 38 = .ok (.iload_n 1, 1) := by decide +kernel
theorem dX4_cut_39 : decode cX4_cut 39 = .ok (.isub, 1) := by decide +kernel
theorem dX4_cut_40 : decode cX4_cut 40 = .ok (.iload_n 2, 1) := by decide +kernel
theorem dX4_cut_41 : decode cX4_cut 41 = .ok (.isub, 1) := by decide +kernel
theorem dX4_cut_42 : decode cX4_cut 42 = .ok (.invokestatic 33, 3) := by decide +kernel
theorem dX4_cut_45 : decode cX4_cut 45 = .ok (.aload_n 0, 1) := by decide +kernel
theorem dX4_cut_46 : decode cX4_cut 46 = .ok (.dup, 1) := by decide +kernel
theorem dX4_cut_47 : decode cX4_cut 47 = .ok (.getfield 15, 3) := by decide +kernel
theorem dX4_cut_50 : decode cX4_cut 50 = .ok (.iload_n 2, 1) := by decide +kernel
theorem dX4_cut_51 : decode cX4_cut 51 = .ok (.isub, 1) := by decide +kernel
theorem dX4_cut_52 : decode cX4_cut 52 = .ok (.putfield 15, 3) := by decide +kernel
theorem dX4_cut_55 : decode cX4_cut 55 = .ok (.return_, 1) := by decide +kernel
theorem dX4_clear_0 : decode cX4_clear 0 = .ok (.aload_n 0, 1) := by decide +kernel
theorem dX4_clear_1 : decode cX4_clear 1 = .ok (.iconst 0, 1) := by decide +kernel
theorem dX4_clear_2 : decode cX4_clear 2 = .ok (.putfield 15, 3) := by decide +kernel
theorem dX4_clear_5 : decode cX4_clear 5 = .ok (.aload_n 0, 1) := by decide +kernel
theorem dX4_clear_6 : decode cX4_clear 6 = .ok (.iconst 0, 1) := by decide +kernel
theorem dX4_clear_7 : decode cX4_clear 7 = .ok (.putfield 19, 3) := by decide +kernel
theorem dX4_clear_10 : decode cX4_clear 10 = .ok (.return_, 1) := by decide +kernel
theorem dX4_write_0 : decode cX4_write 0 = .ok (.iconst 0, 1) := by decide +kernel
theorem dX4_write_1 : decode cX4_write 1 = .ok (.istore 4, 2) := by decide +kernel
theorem dX4_write_3 : decode cX4_write 3 = .ok (.iload 4, 2) := by decide +kernel
theorem dX4_write_5 : decode cX4_write 5 = .ok (.iload_n 2, 1) := by decide +kernel
theorem dX4_write_6 : decode cX4_write 6 = .ok (.if_icmp .ge 48, 3) := by decide +kernel
theorem dX4_write_9 : decode cX4_write 9 = .ok (.iload_n 1, 1) := by decide +kernel
theorem dX4_write_10 : decode cX4_write 10 = .ok (.iload 4, 2) := by decide +kernel
theorem dX4_write_12 : decode cX4_write 12 = .ok (.iadd, 1) := by decide +kernel
theorem dX4_write_13 : decode cX4_write 13 = .ok (.istore 5, 2) := by decide +kernel
theorem dX4_write_15 : decode cX4_write 15 = .ok (.iload 5, 2) := by decide +kernel
theorem dX4_write_17 : decode cX4_write 17 = .ok (.ifCond .lt 31, 3) := by decide +kernel
theorem dX4_write_20 : decode cX4_write 20 = .ok (.iload 5, 2) := by decide +kernel
theorem dX4_write_22 : decode cX4_write 22 = .ok (.aload_n 0, 1) := by decide +kernel
theorem dX4_write_23 : decode cX4_write 23 = .ok (.getfield 9, 3) := by decide +kernel
theorem dX4_write_26 : decode cX4_write 26 = .ok (.arraylength, 1) := by decide +kernel
theorem dX4_write_27 : decode cX4_write 27 = .ok (.if_icmp .ge 21, 3) := by decide +kernel
theorem dX4_write_30 : decode cX4_write 30 = .ok (.aload_n 0, 1) := by decide +kernel
theorem dX4_write_31 : decode cX4_write 31 = .ok (.getfield 9, 3) := by decide +kernel
theorem dX4_write_34 : decode cX4_write 34 = .ok (.iload 5, 2) := by decide +kernel
theorem dX4_write_36 : decode cX4_write 36 = .ok (.iload_n 3, 1) := by decide +kernel
theorem dX4_write_37 : decode cX4_write 37 = .ok (.iload_n 2, 1) := by decide +kernel
theorem dX4_write_38 : decode cX4_write 38 = .ok (.iconst 1, 1) := by decide +kernel
theorem dX4_write_39 : decode cX4_write 39 = .ok (.isub, 1) := by decide +kernel
theorem dX4_write_40 : decode cX4_write 40 = .ok (.iload 4, 2) := by decide +kernel
theorem dX4_write_42 : decode cX4_write 42 = .ok (.isub, 1) := by decide +kernel
theorem dX4_write_43 : decode cX4_write 43 = .ok (.iushr, 1) := by decide +kernel
theorem dX4_write_44 : decode cX4_write 44 = .ok (.iconst 1, 1) := by decide +kernel
theorem dX4_write_45 : decode cX4_write 45 = .ok (.iand, 1) := by decide +kernel
theorem dX4_write_46 : decode cX4_write 46 = .ok (.i2b, 1) := by decide +kernel
theorem dX4_write_47 : decode cX4_write 47 = .ok (.bastore, 1) := by decide +kernel
theorem dX4_write_48 : decode cX4_write 48 = .ok (.iinc 4 1, 3) := by decide +kernel
theorem dX4_write_51 : decode cX4_write 51 = .ok (.goto (-48), 3) := by decide +kernel
theorem dX4_write_54 : decode cX4_write 54 = .ok (.return_, 1) := by decide +kernel
theorem dX5_init_0 : decode cX5_init 0 = .ok (.aload_n 0, 1) := by decide +kernel
theorem dX5_init_1 : decode cX5_init 1 = .ok (.invokespecial 3, 3) := by decide +kernel
theorem dX5_init_4 : decode cX5_init 4 = .ok (.aload_n 0, 1) := by decide +kernel
theorem dX5_init_5 : decode cX5_init 5 = .ok (.new 9, 3) := by decide +kernel
theorem dX5_init_8 : decode cX5_init 8 = .ok (.dup, 1) := by decide +kernel
theorem dX5_init_9 : decode cX5_init 9 = .ok (.bipush 12, 2) := by decide +kernel
theorem dX5_init_11 : decode cX5_init 11 = .ok (.invokespecial 13, 3) := by decide +kernel
theorem dX5_init_14 : decode cX5_init 14 = .ok (.putfield 16, 3) := by decide +kernel
theorem dX5_init_17 : decode cX5_init 17 = .ok (.aload_n 0, 1) := by decide +kernel
theorem dX5_init_18 : decode cX5_init 18 = .ok (.new 9, 3) := by decide +kernel
theorem dX5_init_21 : decode cX5_init 21 = .ok (.dup, 1) := by decide +kernel
theorem dX5_init_22 : decode cX5_init 22 = .ok (.bipush 24, 2) := by decide +kernel
theorem dX5_init_24 : decode cX5_init 24 = .ok (.invokespecial 13, 3) := by decide +kernel
theorem dX5_init_27 : decode cX5_init 27 = .ok (.putfield 20, 3) := by decide +kernel
theorem dX5_init_30 : decode cX5_init 30 = .ok (.aload_n 0, 1) := by decide +kernel
theorem dX5_init_31 : decode cX5_init 31 = .ok (.new 9, 3) := by decide +kernel
theorem dX5_init_34 : decode cX5_init 34 = .ok (.dup, 1) := by decide +kernel
theorem dX5_init_35 : decode cX5_init 35 = .ok (.bipush 32, 2) := by decide +kernel
theorem dX5_init_37 : decode cX5_init 37 = .ok (.invokespecial 13, 3) := by decide +kernel
theorem dX5_init_40 : decode cX5_init 40 = .ok (.putfield 23, 3) := by decide +kernel
theorem dX5_init_43 : decode cX5_init 43 = .ok (.aload_n 0, 1) := by decide +kernel
theorem dX5_init_44 : decode cX5_init 44 = .ok (.sipush 576, 3) := by decide +kernel
theorem dX5_init_47 : decode cX5_init 47 = .ok (.newarray .byte, 2) := by decide +kernel
theorem dX5_init_49 : decode cX5_init 49 = .ok (.putfield 26, 3) := by decide +kernel
theorem dX5_init_52 : decode cX5_init 52 = .ok (.return_, 1) := by decide +kernel
theorem dX5_clear_0 : decode cX5_clear 0 = .ok (.aload_n 0, 1) := by decide +kernel
theorem dX5_clear_1 : decode cX5_clear 1 = .ok (.getfield 16, 3) := by decide +kernel
theorem dX5_clear_4 : decode cX5_clear 4 = .ok (.invokevirtual 30, 3) := by decide +kernel
theorem dX5_clear_7 : decode cX5_clear 7 = .ok (.aload_n 0, 1) := by decide +kernel
theorem dX5_clear_8 : decode cX5_clear 8 = .ok (.getfield 20, 3) := by decide +kernel
theorem dX5_clear_11 : decode cX5_clear 11 = .ok (.invokevirtual 30, 3) := by decide +kernel
theorem dX5_clear_14 : decode cX5_clear 14 = .ok (.aload_n 0, 1) := by decide +kernel
theorem dX5_clear_15 : decode cX5_clear 15 = .ok (.getfield 23, 3) := by decide +kernel
theorem dX5_clear_18 : decode cX5_clear 18 = .ok (.invokevirtual 30, 3) := by decide +kernel
theorem dX5_clear_21 : decode cX5_clear 21 = .ok (.return_, 1) := by decide +kernel
theorem dX5_loadStart_0 : decode cX5_loadStart 0 = .ok (.bipush 48, 2) := by decide +kernel
theorem dX5_loadStart_2 : decode cX5_loadStart 2 = .ok (.aload_n 0, 1) := by decide +kernel
theorem dX5_loadStart_3 : decode cX5_loadStart 3 = .ok (.getfield 16, 3) := by decide +kernel
theorem dX5_loadStart_6 : decode cX5_loadStart 6 = .ok (.iload_n 1, 1) := by decide +kernel
theorem dX5_loadStart_7 : decode cX5_loadStart 7 = .ok (.invokevirtual 33, 3) := by decide +kernel
theorem dX5_loadStart_10 : decode cX5_loadStart 10 = .ok (.imul, 1) := by decide +kernel
theorem dX5_loadStart_11 : decode cX5_loadStart 11 = .ok (.ireturn, 1) := by decide +kernel
theorem dX5_loadByte_0 : decode cX5_loadByte 0 = .ok (.aload_n 0, 1) := by decide +kernel
theorem dX5_loadByte_1 : decode cX5_loadByte 1 = .ok (.iload_n 1, 1) := by decide +kernel
theorem dX5_loadByte_2 : decode cX5_loadByte 2 = .ok (.invokevirtual 37, 3) := by decide +kernel
theorem dX5_loadByte_5 : decode cX5_loadByte 5 = .ok (.iload_n 2, 1) := by decide +kernel
theorem dX5_loadByte_6 : decode cX5_loadByte 6 = .ok (.iadd, 1) := by decide +kernel
theorem dX5_loadByte_7 : decode cX5_loadByte 7 = .ok (.istore_n 3, 1) := by decide +kernel
theorem dX5_loadByte_8 : decode cX5_loadByte 8 = .ok (.iload_n 3, 1) := by decide +kernel
theorem dX5_loadByte_9 : decode cX5_loadByte 9 = .ok (.ifCond .lt 25, 3) := by decide +kernel
theorem dX5_loadByte_12 : decode cX5_loadByte 12 = .ok (.iload_n 3, 1) := by decide +kernel
theorem dX5_loadByte_13 : decode cX5_loadByte 13 = .ok (.aload_n 0, 1) := by decide +kernel
theorem dX5_loadByte_14 : decode cX5_loadByte 14 = .ok (.getfield 26, 3) := by decide +kernel
theorem dX5_loadByte_17 : decode cX5_loadByte 17 = .ok (.arraylength, 1) := by decide +kernel
theorem dX5_loadByte_18 : decode cX5_loadByte 18 = .ok (.if_icmp .ge 16, 3) := by decide +kernel
theorem dX5_loadByte_21 : decode cX5_loadByte 21 = .ok (.aload_n 0, 1) := by decide +kernel
theorem dX5_loadByte_22 : decode cX5_loadByte 22 = .ok (.getfield 26, 3) := by decide +kernel
theorem dX5_loadByte_25 : decode cX5_loadByte 25 = .ok (.iload_n 3, 1) := by decide +kernel
theorem dX5_loadByte_26 : decode cX5_loadByte 26 = .ok (.baload, 1) := by decide +kernel
theorem dX5_loadByte_27 : decode cX5_loadByte 27 = .ok (.sipush 255, 3) := by decide +kernel
theorem dX5_loadByte_30 : decode cX5_loadByte 30 = .ok (.iand, 1) := by decide +kernel
theorem dX5_loadByte_31 : decode cX5_loadByte 31 = .ok (.goto 4, 3) := by decide +kernel
theorem dX5_loadByte_34 : decode cX5_loadByte 34 = .ok (.iconst 0, 1) := by decide +kernel
theorem dX5_loadByte_35 : decode cX5_loadByte 35 = .ok (.ireturn, 1) := by decide +kernel
theorem dX5_addCell_0 : decode cX5_addCell 0 = .ok (.bipush 48, 2) := by decide +kernel
theorem dX5_addCell_2 : decode cX5_addCell 2 = .ok (.aload_n 0, 1) := by decide +kernel
theorem dX5_addCell_3 : decode cX5_addCell 3 = .ok (.getfield 16, 3) := by decide +kernel
theorem dX5_addCell_6 : decode cX5_addCell 6 = .ok (.getfield 40, 3) := by decide +kernel
theorem dX5_addCell_9 : decode cX5_addCell 9 = .ok (.imul, 1) := by decide +kernel
theorem dX5_addCell_10 : decode cX5_addCell 10 = .ok (.istore 5, 2) := by decide +kernel
theorem dX5_addCell_12 : decode cX5_addCell 12 = .ok (.iload 5, 2) := by decide +kernel
theorem dX5_addCell_14 : decode cX5_addCell 14 = .ok (.ifCond .lt 32, 3) := by decide +kernel
theorem dX5_addCell_17 : decode cX5_addCell 17 = .ok (.aload 4, 2) := by decide +kernel
theorem dX5_addCell_19 : decode cX5_addCell 19 = .ok (.arraylength, 1) := by decide +kernel
theorem dX5_addCell_20 : decode cX5_addCell 20 = .ok (.aload_n 0, 1) := by decide +kernel
theorem dX5_addCell_21 : decode cX5_addCell 21 = .ok (.getfield 26, 3) := by decide +kernel
theorem dX5_addCell_24 : decode cX5_addCell 24 = .ok (.arraylength, 1) := by decide +kernel
theorem dX5_addCell_25 : decode cX5_addCell 25 = .ok (.iload 5, 2) := by decide +kernel
theorem dX5_addCell_27 : decode cX5_addCell 27 = .ok (.isub, 1) := by decide +kernel
theorem dX5_addCell_28 : decode cX5_addCell 28 = .ok (.if_icmp .gt 18, 3) := by decide +kernel
theorem dX5_addCell_31 : decode cX5_addCell 31 = .ok (.aload 4, 2) := by decide +kernel
theorem dX5_addCell_33 : decode cX5_addCell 33 = .ok (.iconst 0, 1) := by decide +kernel
theorem dX5_addCell_34 : decode cX5_addCell 34 = .ok (.aload_n 0, 1) := by decide +kernel
theorem dX5_addCell_35 : decode cX5_addCell 35 = .ok (.getfield 26, 3) := by decide +kernel
theorem dX5_addCell_38 : decode cX5_addCell 38 = .ok (.iload 5, 2) := by decide +kernel
theorem dX5_addCell_40 : decode cX5_addCell 40 = .ok (.aload 4, 2) := by decide +kernel
theorem dX5_addCell_42 : decode cX5_addCell 42 = .ok (.arraylength, 1) := by decide +kernel
theorem dX5_addCell_43 : decode cX5_addCell 43 = .ok (.invokestatic 44, 3) := by decide +kernel
theorem dX5_addCell_46 : decode cX5_addCell 46 = .ok (.aload_n 0, 1) := by decide +kernel
theorem dX5_addCell_47 : decode cX5_addCell 47 = .ok (.getfield 16, 3) := by decide +kernel
theorem dX5_addCell_50 : decode cX5_addCell 50 = .ok (.iload_n 1, 1) := by decide +kernel
theorem dX5_addCell_51 : decode cX5_addCell 51 = .ok (.iload_n 2, 1) := by decide +kernel
theorem dX5_addCell_52 : decode cX5_addCell 52 = .ok (.iload_n 3, 1) := by decide +kernel
theorem dX5_addCell_53 : decode cX5_addCell 53 = .ok (.invokevirtual 50, 3) := by decide +kernel
theorem dX5_addCell_56 : decode cX5_addCell 56 = .ok (.return_, 1) := by decide +kernel
theorem dX6_init_0 : decode cX6_init 0 = .ok (.aload_n 0, 1) := by decide +kernel
theorem dX6_init_1 : decode cX6_init 1 = .ok (.invokespecial 3, 3) := by decide +kernel
theorem dX6_init_4 : decode cX6_init 4 = .ok (.aload_n 0, 1) := by decide +kernel
theorem dX6_init_5 : decode cX6_init 5 = .ok (.bipush 14, 2) := by decide +kernel
theorem dX6_init_7 : decode cX6_init 7 = .ok (.newarray .int, 2) := by decide +kernel
theorem dX6_init_9 : decode cX6_init 9 = .ok (.putfield 9, 3) := by decide +kernel
theorem dX6_init_12 : decode cX6_init 12 = .ok (.aload_n 0, 1) := by decide +kernel
theorem dX6_init_13 : decode cX6_init 13 = .ok (.new 15, 3) := by decide +kernel
theorem dX6_init_16 : decode cX6_init 16 = .ok (.dup, 1) := by decide +kernel
theorem dX6_init_17 : decode cX6_init 17 = .ok (.invokespecial 17, 3) := by decide +kernel
theorem dX6_init_20 : decode cX6_init 20 = .ok (.putfield 18, 3) := by decide +kernel
theorem dX6_init_23 : decode cX6_init 23 = .ok (.aload_n 0, 1) := by decide +kernel
theorem dX6_init_24 : decode cX6_init 24 = .ok (.new 22, 3) := by decide +kernel
theorem dX6_init_27 : decode cX6_init 27 = .ok (.dup, 1) := by decide +kernel
theorem dX6_init_28 : decode cX6_init 28 = .ok (.invokespecial 24, 3) := by decide +kernel
theorem dX6_init_31 : decode cX6_init 31 = .ok (.putfield 25, 3) := by decide +kernel
theorem dX6_init_34 : decode cX6_init 34 = .ok (.aload_n 0, 1) := by decide +kernel
theorem dX6_init_35 : decode cX6_init 35 = .ok (.bipush 48, 2) := by decide +kernel
theorem dX6_init_37 : decode cX6_init 37 = .ok (.newarray .byte, 2) := by decide +kernel
theorem dX6_init_39 : decode cX6_init 39 = .ok (.putfield 29, 3) := by decide +kernel
theorem dX6_init_42 : decode cX6_init 42 = .ok (.aload_n 0, 1) := by decide +kernel
theorem dX6_init_43 : decode cX6_init 43 = .ok (.aload_n 1, 1) := by decide +kernel
theorem dX6_init_44 : decode cX6_init 44 = .ok (.putfield 33, 3) := by decide +kernel
theorem dX6_init_47 : decode cX6_init 47 = .ok (.aload_n 0, 1) := by decide +kernel
theorem dX6_init_48 : decode cX6_init 48 = .ok (.aload_n 2, 1) := by decide +kernel
theorem dX6_init_49 : decode cX6_init 49 = .ok (.putfield 36, 3) := by decide +kernel
theorem dX6_init_52 : decode cX6_init 52 = .ok (.aload_n 0, 1) := by decide +kernel
theorem dX6_init_53 : decode cX6_init 53 = .ok (.aload_n 3, 1) := by decide +kernel
theorem dX6_init_54 : decode cX6_init 54 = .ok (.putfield 40, 3) := by decide +kernel
theorem dX6_init_57 : decode cX6_init 57 = .ok (.return_, 1) := by decide +kernel
theorem dX6_restart_0 : decode cX6_restart 0 = .ok (.aload_n 0, 1) := by decide +kernel
theorem dX6_restart_1 : decode cX6_restart 1 = .ok (.getfield 9, 3) := by decide +kernel
theorem dX6_restart_4 : decode cX6_restart 4 = .ok (.iconst 0, 1) := by decide +kernel
theorem dX6_restart_5 : decode cX6_restart 5 = .ok (.invokestatic 44, 3) := by decide +kernel
theorem dX6_restart_8 : decode cX6_restart 8 = .ok (.aload_n 0, 1) := by decide +kernel
theorem dX6_restart_9 : decode cX6_restart 9 = .ok (.getfield 18, 3) := by decide +kernel
theorem dX6_restart_12 : decode cX6_restart 12 = .ok (.invokevirtual 50, 3) := by decide +kernel
theorem dX6_restart_15 : decode cX6_restart 15 = .ok (.aload_n 0, 1) := by decide +kernel
theorem dX6_restart_16 : decode cX6_restart 16 = .ok (.getfield 25, 3) := by decide +kernel
theorem dX6_restart_19 : decode cX6_restart 19 = .ok (.invokevirtual 53, 3) := by decide +kernel
theorem dX6_restart_22 : decode cX6_restart 22 = .ok (.aload_n 0, 1) := by decide +kernel
theorem dX6_restart_23 : decode cX6_restart 23 = .ok (.iconst 0, 1) := by decide +kernel
theorem dX6_restart_24 : decode cX6_restart 24 = .ok (.putfield 54, 3) := by decide +kernel
theorem dX6_restart_27 : decode cX6_restart 27 = .ok (.aload_n 0, 1) := by decide +kernel
theorem dX6_restart_28 : decode cX6_restart 28 = .ok (.iconst 0, 1) := by decide +kernel
theorem dX6_restart_29 : decode cX6_restart 29 = .ok (.putfield 58, 3) := by decide +kernel
theorem dX6_restart_32 : decode cX6_restart 32 = .ok (.aload_n 0, 1) := by decide +kernel
theorem dX6_restart_33 : decode cX6_restart 33 = .ok (.iconst 0, 1) := by decide +kernel
theorem dX6_restart_34 : decode cX6_restart 34 = .ok (.putfield 61, 3) := by decide +kernel
theorem dX6_restart_37 : decode cX6_restart 37 = .ok (.aload_n 0, 1) := by decide +kernel
theorem dX6_restart_38 : decode cX6_restart 38 = .ok (.iconst 0, 1) := by decide +kernel
theorem dX6_restart_39 : decode cX6_restart 39 = .ok (.putfield 64, 3) := by decide +kernel
theorem dX6_restart_42 : decode cX6_restart 42 = .ok (.aload_n 0, 1) := by decide +kernel
theorem dX6_restart_43 : decode cX6_restart 43 = .ok (.iconst 0, 1) := by decide +kernel
theorem dX6_restart_44 : decode cX6_restart 44 = .ok (.putfield 67, 3) := by decide +kernel
theorem dX6_restart_47 : decode cX6_restart 47 = .ok (.aload_n 0, 1) := by decide +kernel
theorem dX6_restart_48 : decode cX6_restart 48 = .ok (.iconst 0, 1) := by decide +kernel
theorem dX6_restart_49 : decode cX6_restart 49 = .ok (.putfield 71, 3) := by decide +kernel
theorem dX6_restart_52 : decode cX6_restart 52 = .ok (.aload_n 0, 1) := by decide +kernel
theorem dX6_restart_53 : decode cX6_restart 53 = .ok (.iconst 0, 1) := by decide +kernel
theorem dX6_restart_54 : decode cX6_restart 54 = .ok (.putfield 74, 3) := by decide +kernel
theorem dX6_restart_57 : decode cX6_restart 57 = .ok (.aload_n 0, 1) := by decide +kernel
theorem dX6_restart_58 : decode cX6_restart 58 = .ok (.iconst 0, 1) := by decide +kernel
theorem dX6_restart_59 : decode cX6_restart 59 = .ok (.putfield 77, 3) := by decide +kernel
theorem dX6_restart_62 : decode cX6_restart 62 = .ok (.aload_n 0, 1) := by decide +kernel
theorem dX6_restart_63 : decode cX6_restart 63 = .ok (.iconst 0, 1) := by decide +kernel
theorem dX6_restart_64 : decode cX6_restart 64 = .ok (.putfield 80, 3) := by decide +kernel
theorem dX6_restart_67 : decode cX6_restart 67 = .ok (.return_, 1) := by decide +kernel
theorem dX6_mirror_0 : decode cX6_mirror 0 = .ok (.aload_n 1, 1) := by decide +kernel
theorem dX6_mirror_1 : decode cX6_mirror 1 = .ok (.getfield 33, 3) := by decide +kernel
theorem dX6_mirror_4 : decode cX6_mirror 4 = .ok (.iconst 0, 1) := by decide +kernel
theorem dX6_mirror_5 : decode cX6_mirror 5 = .ok (.aload_n 0, 1) := by decide +kernel
theorem dX6_mirror_6 : decode cX6_mirror 6 = .ok (.getfield 33, 3) := by decide +kernel
theorem dX6_mirror_9 : decode cX6_mirror 9 = .ok (.iconst 0, 1) := by decide +kernel
theorem dX6_mirror_10 : decode cX6_mirror 10 = .ok (.bipush 7, 2) := by decide +kernel
theorem dX6_mirror_12 : decode cX6_mirror 12 = .ok (.invokestatic 83, 3) := by decide +kernel
theorem dX6_mirror_15 : decode cX6_mirror 15 = .ok (.aload_n 1, 1) := by decide +kernel
theorem dX6_mirror_16 : decode cX6_mirror 16 = .ok (.getfield 9, 3) := by decide +kernel
theorem dX6_mirror_19 : decode cX6_mirror 19 = .ok (.iconst 0, 1) := by decide +kernel
theorem dX6_mirror_20 : decode cX6_mirror 20 = .ok (.aload_n 0, 1) := by decide +kernel
theorem dX6_mirror_21 : decode cX6_mirror 21 = .ok (.getfield 9, 3) := by decide +kernel
theorem dX6_mirror_24 : decode cX6_mirror 24 = .ok (.iconst 0, 1) := by decide +kernel
theorem dX6_mirror_25 : decode cX6_mirror 25 = .ok (.bipush 14, 2) := by decide +kernel
theorem dX6_mirror_27 : decode cX6_mirror 27 = .ok (.invokestatic 83, 3) := by decide +kernel
theorem dX6_mirror_30 : decode cX6_mirror 30 = .ok (.aload_n 1, 1) := by decide +kernel
theorem dX6_mirror_31 : decode cX6_mirror 31 = .ok (.getfield 29, 3) := by decide +kernel
theorem dX6_mirror_34 : decode cX6_mirror 34 = .ok (.iconst 0, 1) := by decide +kernel
theorem dX6_mirror_35 : decode cX6_mirror 35 = .ok (.aload_n 0, 1) := by decide +kernel
theorem dX6_mirror_36 : decode cX6_mirror 36 = .ok (.getfield 29, 3) := by decide +kernel
theorem dX6_mirror_39 : decode cX6_mirror 39 = .ok (.iconst 0, 1) := by decide +kernel
theorem dX6_mirror_40 : decode cX6_mirror 40 = .ok (.bipush 48, 2) := by decide +kernel
theorem dX6_mirror_42 : decode cX6_mirror 42 = .ok (.invokestatic 83, 3) := by decide +kernel
theorem dX6_mirror_45 : decode cX6_mirror 45 = .ok (.aload_n 0, 1) := by decide +kernel
theorem dX6_mirror_46 : decode cX6_mirror 46 = .ok (.getfield 18, 3) := by decide +kernel
theorem dX6_mirror_49 : decode cX6_mirror 49 = .ok (.aload_n 1, 1) := by decide +kernel
theorem dX6_mirror_50 : decode cX6_mirror 50 = .ok (.getfield 18, 3) := by decide +kernel
theorem dX6_mirror_53 : decode cX6_mirror 53 = .ok (.invokevirtual 89, 3) := by decide +kernel
theorem dX6_mirror_56 : decode cX6_mirror 56 = .ok (.aload_n 0, 1) := by decide +kernel
theorem dX6_mirror_57 : decode cX6_mirror 57 = .ok (.getfield 25, 3) := by decide +kernel
theorem dX6_mirror_60 : decode cX6_mirror 60 = .ok (.aload_n 1, 1) := by decide +kernel
theorem dX6_mirror_61 : decode cX6_mirror 61 = .ok (.getfield 25, 3) := by decide +kernel
theorem dX6_mirror_64 : decode cX6_mirror 64 = .ok (.invokevirtual 93, 3) := by decide +kernel
theorem dX6_mirror_67 : decode cX6_mirror 67 = .ok (.aload_n 0, 1) := by decide +kernel
theorem dX6_mirror_68 : decode cX6_mirror 68 = .ok (.aload_n 1, 1) := by decide +kernel
theorem dX6_mirror_69 : decode cX6_mirror 69 = .ok (.getfield 54, 3) := by decide +kernel
theorem dX6_mirror_72 : decode cX6_mirror 72 = .ok (.putfield 54, 3) := by decide +kernel
theorem dX6_mirror_75 : decode cX6_mirror 75 = .ok (.aload_n 0, 1) := by decide +kernel
theorem dX6_mirror_76 : decode cX6_mirror 76 = .ok (.aload_n 1, 1) := by decide +kernel
theorem dX6_mirror_77 : decode cX6_mirror 77 = .ok (.getfield 58, 3) := by decide +kernel
theorem dX6_mirror_80 : decode cX6_mirror 80 = .ok (.putfield 58, 3) := by decide +kernel
theorem dX6_mirror_83 : decode cX6_mirror 83 = .ok (.aload_n 0, 1) := by decide +kernel
theorem dX6_mirror_84 : decode cX6_mirror 84 = .ok (.aload_n 1, 1) := by decide +kernel
theorem dX6_mirror_85 : decode cX6_mirror 85 = .ok (.getfield 61, 3) := by decide +kernel
theorem dX6_mirror_88 : decode cX6_mirror 88 = .ok (.putfield 61, 3) := by decide +kernel
theorem dX6_mirror_91 : decode cX6_mirror 91 = .ok (.aload_n 0, 1) := by decide +kernel
theorem dX6_mirror_92 : decode cX6_mirror 92 = .ok (.aload_n 1, 1) := by decide +kernel
theorem dX6_mirror_93 : decode cX6_mirror 93 = .ok (.getfield 64, 3) := by decide +kernel
theorem dX6_mirror_96 : decode cX6_mirror 96 = .ok (.putfield 64, 3) := by decide +kernel
theorem dX6_mirror_99 : decode cX6_mirror 99 = .ok (.aload_n 0, 1) := by decide +kernel
theorem dX6_mirror_100 : decode cX6_mirror 100 = .ok (.aload_n 1, 1) := by decide +kernel
theorem dX6_mirror_101 : decode cX6_mirror 101 = .ok (.getfield 67, 3) := by decide +kernel
theorem dX6_mirror_104 : decode cX6_mirror 104 = .ok (.putfield 67, 3) := by decide +kernel
theorem dX6_mirror_107 : decode cX6_mirror 107 = .ok (.aload_n 0, 1) := by decide +kernel
theorem dX6_mirror_108 : decode cX6_mirror 108 = .ok (.aload_n 1, 1) := by decide +kernel
theorem dX6_mirror_109 : decode cX6_mirror 109 = .ok (.getfield 71, 3) := by decide +kernel
theorem dX6_mirror_112 : decode cX6_mirror 112 = .ok (.putfield 71, 3) := by decide +kernel
theorem dX6_mirror_115 : decode cX6_mirror 115 = .ok (.aload_n 0, 1) := by decide +kernel
theorem dX6_mirror_116 : decode cX6_mirror 116 = .ok (.aload_n 1, 1) := by decide +kernel
theorem dX6_mirror_117 : decode cX6_mirror 117 = .ok (.getfield 74, 3) := by decide +kernel
theorem dX6_mirror_120 : decode cX6_mirror 120 = .ok (.putfield 74, 3) := by decide +kernel
theorem dX6_mirror_123 : decode cX6_mirror 123 = .ok (.aload_n 0, 1) := by decide +kernel
theorem dX6_mirror_124 : decode cX6_mirror 124 = .ok (.aload_n 1, 1) := by decide +kernel
theorem dX6_mirror_125 : decode cX6_mirror 125 = .ok (.getfield 77, 3) := by decide +kernel
theorem dX6_mirror_128 : decode cX6_mirror 128 = .ok (.putfield 77, 3) := by decide +kernel
theorem dX6_mirror_131 : decode cX6_mirror 131 = .ok (.aload_n 0, 1) := by decide +kernel
theorem dX6_mirror_132 : decode cX6_mirror 132 = .ok (.aload_n 1, 1) := by decide +kernel
theorem dX6_mirror_133 : decode cX6_mirror 133 = .ok (.getfield 80, 3) := by decide +kernel
theorem dX6_mirror_136 : decode cX6_mirror 136 = .ok (.putfield 80, 3) := by decide +kernel
theorem dX6_mirror_139 : decode cX6_mirror 139 = .ok (.aload_n 0, 1) := by decide +kernel
theorem dX6_mirror_140 : decode cX6_mirror 140 = .ok (.aload_n 1, 1) := by decide +kernel
theorem dX6_mirror_141 : decode cX6_mirror 141 = .ok (.getfield 96, 3) := by decide +kernel
theorem dX6_mirror_144 : decode cX6_mirror 144 = .ok (.putfield 96, 3) := by decide +kernel
theorem dX6_mirror_147 : decode cX6_mirror 147 = .ok (.aload_n 0, 1) := by decide +kernel
theorem dX6_mirror_148 : decode cX6_mirror 148 = .ok (.aload_n 1, 1) := by decide +kernel
theorem dX6_mirror_149 : decode cX6_mirror 149 = .ok (.getfield 99, 3) := by decide +kernel
theorem dX6_mirror_152 : decode cX6_mirror 152 = .ok (.putfield 99, 3) := by decide +kernel
theorem dX6_mirror_155 : decode cX6_mirror 155 = .ok (.aload_n 0, 1) := by decide +kernel
theorem dX6_mirror_156 : decode cX6_mirror 156 = .ok (.aload_n 1, 1) := by decide +kernel
theorem dX6_mirror_157 : decode cX6_mirror 157 = .ok (.getfield 102, 3) := by decide +kernel
theorem dX6_mirror_160 : decode cX6_mirror 160 = .ok (.putfield 102, 3) := by decide +kernel
theorem dX6_mirror_163 : decode cX6_mirror 163 = .ok (.return_, 1) := by decide +kernel
theorem dX6_loadBits_0 : decode cX6_loadBits 0 = .ok (.bipush 8, 2) := by decide +kernel
theorem dX6_loadBits_2 : decode cX6_loadBits 2 = .ok (.aload_n 0, 1) := by decide +kernel
theorem dX6_loadBits_3 : decode cX6_loadBits 3 = .ok (.getfield 33, 3) := by decide +kernel
theorem dX6_loadBits_6 : decode cX6_loadBits 6 = .ok (.iconst 0, 1) := by decide +kernel
theorem dX6_loadBits_7 : decode cX6_loadBits 7 = .ok (.iaload, 1) := by decide +kernel
theorem dX6_loadBits_8 : decode cX6_loadBits 8 = .ok (.imul, 1) := by decide +kernel
theorem dX6_loadBits_9 : decode cX6_loadBits 9 = .ok (.ireturn, 1) := by decide +kernel
theorem dX6_loadTaken_0 : decode cX6_loadTaken 0 = .ok (.aload_n 0, 1) := by decide +kernel
theorem dX6_loadTaken_1 : decode cX6_loadTaken 1 = .ok (.getfield 80, 3) := by decide +kernel
theorem dX6_loadTaken_4 : decode cX6_loadTaken 4 = .ok (.aload_n 0, 1) := by decide +kernel
theorem dX6_loadTaken_5 : decode cX6_loadTaken 5 = .ok (.invokevirtual 105, 3) := by decide +kernel
theorem dX6_loadTaken_8 : decode cX6_loadTaken 8 = .ok (.if_icmp .ge 10, 3) := by decide +kernel
theorem dX6_loadTaken_11 : decode cX6_loadTaken 11 = .ok (.aload_n 0, 1) := by decide +kernel
theorem dX6_loadTaken_12 : decode cX6_loadTaken 12 = .ok (.getfield 80, 3) := by decide +kernel
theorem dX6_loadTaken_15 : decode cX6_loadTaken 15 = .ok (.goto 4, 3) := by decide +kernel
theorem dX6_loadTaken_18 : decode cX6_loadTaken 18 = .ok (.iconst 0, 1) := by decide +kernel
theorem dX6_loadTaken_19 : decode cX6_loadTaken 19 = .ok (.ireturn, 1) := by decide +kernel
theorem dX6_headTaken_0 : decode cX6_headTaken 0 = .ok (.aload_n 0, 1) := by decide +kernel
theorem dX6_headTaken_1 : decode cX6_headTaken 1 = .ok (.getfield 80, 3) := by decide +kernel
theorem dX6_headTaken_4 : decode cX6_headTaken 4 = .ok (.aload_n 0, 1) := by decide +kernel
theorem dX6_headTaken_5 : decode cX6_headTaken 5 = .ok (.invokevirtual 105, 3) := by decide +kernel
theorem dX6_headTaken_8 : decode cX6_headTaken 8 = .ok (.if_icmp .ge 7, 3) := by decide +kernel
theorem dX6_headTaken_11 : decode cX6_headTaken 11 = .ok (.iconst 0, 1) := by decide +kernel
theorem dX6_headTaken_12 : decode cX6_headTaken 12 = .ok (.goto 12, 3) := by decide +kernel
theorem dX6_headTaken_15 : decode cX6_headTaken 15 = .ok (.aload_n 0, 1) := by decide +kernel
theorem dX6_headTaken_16 : decode cX6_headTaken 16 = .ok (.getfield 80, 3) := by decide +kernel
theorem dX6_headTaken_19 : decode cX6_headTaken 19 = .ok (.aload_n 0, 1) := by decide +kernel
theorem dX6_headTaken_20 : decode cX6_headTaken 20 = .ok (.invokevirtual 105, 3) := by decide +kernel
theorem dX6_headTaken_23 : decode cX6_headTaken 23 = .ok (.isub, 1) := by decide +kernel
theorem dX6_headTaken_24 : decode cX6_headTaken 24 = .ok (.ireturn, 1) := by decide +kernel
theorem dX6_plainOf_0 : decode cX6_plainOf 0 = .ok (.aload_n 0, 1) := by decide +kernel
theorem dX6_plainOf_1 : decode cX6_plainOf 1 = .ok (.getfield 54, 3) := by decide +kernel
theorem dX6_plainOf_4 : decode cX6_plainOf 4 = .ok (.ifCond .eq 26, 3) := by decide +kernel
theorem dX6_plainOf_7 : decode cX6_plainOf 7 = .ok (.aload_n 0, 1) := by decide +kernel
theorem dX6_plainOf_8 : decode cX6_plainOf 8 = .ok (.getfield 80, 3) := by decide +kernel
theorem dX6_plainOf_11 : decode cX6_plainOf 11 = .ok (.aload_n 0, 1) := by decide +kernel
theorem dX6_plainOf_12 : decode cX6_plainOf 12 = .ok (.invokevirtual 105, 3) := by decide +kernel
theorem dX6_plainOf_15 : decode cX6_plainOf 15 = .ok (.if_icmp .ge 15, 3) := by decide +kernel
theorem dX6_plainOf_18 : decode cX6_plainOf 18 = .ok (.iload_n 1, 1) := by decide +kernel
theorem dX6_plainOf_19 : decode cX6_plainOf 19 = .ok (.aload_n 0, 1) := by decide +kernel
theorem dX6_plainOf_20 : decode cX6_plainOf 20 = .ok (.getfield 25, 3) := by decide +kernel
theorem dX6_plainOf_23 : decode cX6_plainOf 23 = .ok (.invokevirtual 109, 3) := by decide +kernel
theorem dX6_plainOf_26 : decode cX6_plainOf 26 = .ok (.ixor, 1) := by decide +kernel
theorem dX6_plainOf_27 : decode cX6_plainOf 27 = .ok (.goto 4, 3) := by decide +kernel
theorem dX6_plainOf_30 : decode cX6_plainOf 30 = .ok (.iconst (-1), 1) := by decide +kernel
theorem dX6_plainOf_31 : decode cX6_plainOf 31 = .ok (.ireturn, 1) := by decide +kernel
theorem dX6_receive_0 : decode cX6_receive 0 = .ok (.aload_n 0, 1) := by decide +kernel
theorem dX6_receive_1 : decode cX6_receive 1 = .ok (.getfield 54, 3) := by decide +kernel
theorem dX6_receive_4 : decode cX6_receive 4 = .ok (.istore_n 3, 1) := by decide +kernel
theorem dX6_receive_5 : decode cX6_receive 5 = .ok (.aload_n 0, 1) := by decide +kernel
theorem dX6_receive_6 : decode cX6_receive 6 = .ok (.getfield 18, 3) := by decide +kernel
theorem dX6_receive_9 : decode cX6_receive 9 = .ok (.iload_n 1, 1) := by decide +kernel
theorem dX6_receive_10 : decode cX6_receive 10 = .ok (.invokevirtual 112, 3) := by decide +kernel
theorem dX6_receive_13 : decode cX6_receive 13 = .ok (.iload_n 3, 1) := by decide +kernel
theorem dX6_receive_14 : decode cX6_receive 14 = .ok (.ifCond .ne 22, 3) := by decide +kernel
theorem dX6_receive_17 : decode cX6_receive 17 = .ok (.aload_n 0, 1) := by decide +kernel
theorem dX6_receive_18 : decode cX6_receive 18 = .ok (.getfield 9, 3) := by decide +kernel
theorem dX6_receive_21 : decode cX6_receive 21 = .ok (.bipush 6, 2) := by decide +kernel
theorem dX6_receive_23 : decode cX6_receive 23 = .ok (.dup2, 1) := by decide +kernel
theorem dX6_receive_24 : decode cX6_receive 24 = .ok (.iaload, 1) := by decide +kernel
theorem dX6_receive_25 : decode cX6_receive 25 = .ok (.iconst 1, 1) := by decide +kernel
theorem dX6_receive_26 : decode cX6_receive 26 = .ok (.iadd, 1) := by decide +kernel
theorem dX6_receive_27 : decode cX6_receive 27 = .ok (.iastore, 1) := by decide +kernel
theorem dX6_receive_28 : decode cX6_receive 28 = .ok (.aload_n 0, 1) := by decide +kernel
theorem dX6_receive_29 : decode cX6_receive 29 = .ok (.iload_n 2, 1) := by decide +kernel
theorem dX6_receive_30 : decode cX6_receive 30 = .ok (.invokevirtual 116, 3) := by decide +kernel
theorem dX6_receive_33 : decode cX6_receive 33 = .ok (.goto 72, 3) := by decide +kernel
theorem dX6_receive_36 : decode cX6_receive 36 = .ok (.aload_n 0, 1) := by decide +kernel
theorem dX6_receive_37 : decode cX6_receive 37 = .ok (.getfield 9, 3) := by decide +kernel
theorem dX6_receive_40 : decode cX6_receive 40 = .ok (.iload_n 3, 1) := by decide +kernel
theorem dX6_receive_41 : decode cX6_receive 41 = .ok (.iconst 1, 1) := by decide +kernel
theorem dX6_receive_42 : decode cX6_receive 42 = .ok (.if_icmp .ne 8, 3) := by decide +kernel
theorem dX6_receive_45 : decode cX6_receive 45 = .ok (.bipush 12, 2) := by decide +kernel
theorem dX6_receive_47 : decode cX6_receive 47 = .ok (.goto 5, 3) := by decide +kernel
theorem dX6_receive_50 : decode cX6_receive 50 = .ok (.bipush 13, 2) := by decide +kernel
theorem dX6_receive_52 : decode cX6_receive 52 = .ok (.dup2, 1) := by decide +kernel
theorem dX6_receive_53 : decode cX6_receive 53 = .ok (.iaload, 1) := by decide +kernel
theorem dX6_receive_54 : decode cX6_receive 54 = .ok (.iconst 1, 1) := by decide +kernel
theorem dX6_receive_55 : decode cX6_receive 55 = .ok (.iadd, 1) := by decide +kernel
theorem dX6_receive_56 : decode cX6_receive 56 = .ok (.iastore, 1) := by decide +kernel
theorem dX6_receive_57 : decode cX6_receive 57 = .ok (.aload_n 0, 1) := by decide +kernel
theorem dX6_receive_58 : decode cX6_receive 58 = .ok (.getfield 80, 3) := by decide +kernel
theorem dX6_receive_61 : decode cX6_receive 61 = .ok (.aload_n 0, 1) := by decide +kernel
theorem dX6_receive_62 : decode cX6_receive 62 = .ok (.invokevirtual 105, 3) := by decide +kernel
theorem dX6_receive_65 : decode cX6_receive 65 = .ok (.if_icmp .ge 11, 3) := by decide +kernel
theorem dX6_receive_68 : decode cX6_receive 68 = .ok (.aload_n 0, 1) := by decide +kernel
theorem dX6_receive_69 : decode cX6_receive 69 = .ok (.iload_n 1, 1) := by decide +kernel
theorem dX6_receive_70 : decode cX6_receive 70 = .ok (.invokevirtual 119, 3) := by decide +kernel
theorem dX6_receive_73 : decode cX6_receive 73 = .ok (.goto 32, 3) := by decide +kernel
theorem dX6_receive_76 : decode cX6_receive 76 = .ok (.aload_n 0, 1) := by decide +kernel
theorem dX6_receive_77 : decode cX6_receive 77 = .ok (.dup, 1) := by decide +kernel
theorem dX6_receive_78 : decode cX6_receive 78 = .ok (.getfield 80, 3) := by decide +kernel
theorem dX6_receive_81 : decode cX6_receive 81 = .ok (.iconst 1, 1) := by decide +kernel
theorem dX6_receive_82 : decode cX6_receive 82 = .ok (.iadd, 1) := by decide +kernel
theorem dX6_receive_83 : decode cX6_receive 83 = .ok (.putfield 80, 3) := by decide +kernel
theorem dX6_receive_86 : decode cX6_receive 86 = .ok (.aload_n 0, 1) := by decide +kernel
theorem dX6_receive_87 : decode cX6_receive 87 = .ok (.getfield 80, 3) := by decide +kernel
theorem dX6_receive_90 : decode cX6_receive 90 = .ok (.aload_n 0, 1) := by decide +kernel
theorem dX6_receive_91 : decode cX6_receive 91 = .ok (.invokevirtual 105, 3) := by decide +kernel
theorem dX6_receive_94 : decode cX6_receive 94 = .ok (.isub, 1) := by decide +kernel
theorem dX6_receive_95 : decode cX6_receive 95 = .ok (.bipush 40, 2) := by decide +kernel
theorem dX6_receive_97 : decode cX6_receive 97 = .ok (.if_icmp .ne 8, 3) := by decide +kernel
theorem dX6_receive_100 : decode cX6_receive 100 = .ok (.aload_n 0, 1) := by decide +kernel
theorem dX6_receive_101 : decode cX6_receive 101 = .ok (.iload_n 2, 1) := by decide +kernel
theorem dX6_receive_102 : decode cX6_receive 102 = .ok (.invokevirtual 122, 3) := by decide +kernel
theorem dX6_receive_105 : decode cX6_receive 105 = .ok (.aload_n 0, 1) := by decide +kernel
theorem dX6_receive_106 : decode cX6_receive 106 = .ok (.iload_n 3, 1) := by decide +kernel
theorem dX6_receive_107 : decode cX6_receive 107 = .ok (.iconst 2, 1) := by decide +kernel
theorem dX6_receive_108 : decode cX6_receive 108 = .ok (.if_icmp .ne 7, 3) := by decide +kernel
theorem dX6_receive_111 : decode cX6_receive 111 = .ok (.iconst 1, 1) := by decide +kernel
theorem dX6_receive_112 : decode cX6_receive 112 = .ok (.goto 4, 3) := by decide +kernel
theorem dX6_receive_115 : decode cX6_receive 115 = .ok (.iconst 0, 1) := by decide +kernel
theorem dX6_receive_116 : decode cX6_receive 116 = .ok (.invokevirtual 125, 3) := by decide +kernel
theorem dX6_receive_119 : decode cX6_receive 119 = .ok (.return_, 1) := by decide +kernel
theorem dX6_hunt_0 : decode cX6_hunt 0 = .ok (.aload_n 0, 1) := by decide +kernel
theorem dX6_hunt_1 : decode cX6_hunt 1 = .ok (.dup, 1) := by decide +kernel
theorem dX6_hunt_2 : decode cX6_hunt 2 = .ok (.getfield 77, 3) := by decide +kernel
theorem dX6_hunt_5 : decode cX6_hunt 5 = .ok (.iconst 1, 1) := by decide +kernel
theorem dX6_hunt_6 : decode cX6_hunt 6 = .ok (.iadd, 1) := by decide +kernel
theorem dX6_hunt_7 : decode cX6_hunt 7 = .ok (.putfield 77, 3) := by decide +kernel
theorem dX6_hunt_10 : decode cX6_hunt 10 = .ok (.aload_n 0, 1) := by decide +kernel
theorem dX6_hunt_11 : decode cX6_hunt 11 = .ok (.getfield 33, 3) := by decide +kernel
theorem dX6_hunt_14 : decode cX6_hunt 14 = .ok (.bipush 6, 2) := by decide +kernel
theorem dX6_hunt_16 : decode cX6_hunt 16 = .ok (.iaload, 1) := by decide +kernel
theorem dX6_hunt_17 : decode cX6_hunt 17 = .ok (.istore_n 2, 1) := by decide +kernel
theorem dX6_hunt_18 : decode cX6_hunt 18 = .ok (.aload_n 0, 1) := by decide +kernel
theorem dX6_hunt_19 : decode cX6_hunt 19 = .ok (.getfield 18, 3) := by decide +kernel
theorem dX6_hunt_22 : decode cX6_hunt 22 = .ok (.invokevirtual 129, 3) := by decide +kernel
theorem dX6_hunt_25 : decode cX6_hunt 25 = .ok (.ifCond .eq 27, 3) := by decide +kernel
theorem dX6_hunt_28 : decode cX6_hunt 28 = .ok (.iload_n 2, 1) := by decide +kernel
theorem dX6_hunt_29 : decode cX6_hunt 29 = .ok (.ifCond .le 23, 3) := by decide +kernel
theorem dX6_hunt_32 : decode cX6_hunt 32 = .ok (.aload_n 0, 1) := by decide +kernel
theorem dX6_hunt_33 : decode cX6_hunt 33 = .ok (.getfield 77, 3) := by decide +kernel
theorem dX6_hunt_36 : decode cX6_hunt 36 = .ok (.iload_n 2, 1) := by decide +kernel
theorem dX6_hunt_37 : decode cX6_hunt 37 = .ok (.irem, 1) := by decide +kernel
theorem dX6_hunt_38 : decode cX6_hunt 38 = .ok (.ifCond .ne 14, 3) := by decide +kernel
theorem dX6_hunt_41 : decode cX6_hunt 41 = .ok (.aload_n 0, 1) := by decide +kernel
theorem dX6_hunt_42 : decode cX6_hunt 42 = .ok (.iconst 0, 1) := by decide +kernel
theorem dX6_hunt_43 : decode cX6_hunt 43 = .ok (.putfield 58, 3) := by decide +kernel
theorem dX6_hunt_46 : decode cX6_hunt 46 = .ok (.aload_n 0, 1) := by decide +kernel
theorem dX6_hunt_47 : decode cX6_hunt 47 = .ok (.iconst 1, 1) := by decide +kernel
theorem dX6_hunt_48 : decode cX6_hunt 48 = .ok (.iload_n 1, 1) := by decide +kernel
theorem dX6_hunt_49 : decode cX6_hunt 49 = .ok (.invokevirtual 133, 3) := by decide +kernel
theorem dX6_hunt_52 : decode cX6_hunt 52 = .ok (.return_, 1) := by decide +kernel
theorem dX6_carry_0 : decode cX6_carry 0 = .ok (.iload_n 1, 1) := by decide +kernel
theorem dX6_carry_1 : decode cX6_carry 1 = .ok (.aload_n 0, 1) := by decide +kernel
theorem dX6_carry_2 : decode cX6_carry 2 = .ok (.getfield 25, 3) := by decide +kernel
theorem dX6_carry_5 : decode cX6_carry 5 = .ok (.invokevirtual 109, 3) := by decide +kernel
theorem dX6_carry_8 : decode cX6_carry 8 = .ok (.ixor, 1) := by decide +kernel
theorem dX6_carry_9 : decode cX6_carry 9 = .ok (.istore_n 2, 1) := by decide +kernel
theorem dX6_carry_10 : decode cX6_carry 10 = .ok (.aload_n 0, 1) := by decide +kernel
theorem dX6_carry_11 : decode cX6_carry 11 = .ok (.getfield 25, 3) := by decide +kernel
theorem dX6_carry_14 : decode cX6_carry 14 = .ok (.iload_n 1, 1) := by decide +kernel
theorem dX6_carry_15 : decode cX6_carry 15 = .ok (.invokevirtual 137, 3) := by decide +kernel
theorem dX6_carry_18 : decode cX6_carry 18 = .ok (.aload_n 0, 1) := by decide +kernel
theorem dX6_carry_19 : decode cX6_carry 19 = .ok (.getfield 80, 3) := by decide +kernel
theorem dX6_carry_22 : decode cX6_carry 22 = .ok (.iconst 3, 1) := by decide +kernel
theorem dX6_carry_23 : decode cX6_carry 23 = .ok (.iushr, 1) := by decide +kernel
theorem dX6_carry_24 : decode cX6_carry 24 = .ok (.istore_n 3, 1) := by decide +kernel
theorem dX6_carry_25 : decode cX6_carry 25 = .ok (.iload_n 3, 1) := by decide +kernel
theorem dX6_carry_26 : decode cX6_carry 26 = .ok (.aload_n 0, 1) := by decide +kernel
theorem dX6_carry_27 : decode cX6_carry 27 = .ok (.getfield 29, 3) := by decide +kernel
theorem dX6_carry_30 : decode cX6_carry 30 = .ok (.arraylength, 1) := by decide +kernel
theorem dX6_carry_31 : decode cX6_carry 31 = .ok (.if_icmp .ge 20, 3) := by decide +kernel
theorem dX6_carry_34 : decode cX6_carry 34 = .ok (.aload_n 0, 1) := by decide +kernel
theorem dX6_carry_35 : decode cX6_carry 35 = .ok (.getfield 29, 3) := by decide +kernel
theorem dX6_carry_38 : decode cX6_carry 38 = .ok (.iload_n 3, 1) := by decide +kernel
theorem dX6_carry_39 : decode cX6_carry 39 = .ok (.aload_n 0, 1) := by decide +kernel
theorem dX6_carry_40 : decode cX6_carry 40 = .ok (.getfield 29, 3) := by decide +kernel
theorem dX6_carry_43 : decode cX6_carry 43 = .ok (.iload_n 3, 1) := by decide +kernel
theorem dX6_carry_44 : decode cX6_carry 44 = .ok (.baload, 1) := by decide +kernel
theorem dX6_carry_45 : decode cX6_carry 45 = .ok (.iconst 1, 1) := by decide +kernel
theorem dX6_carry_46 : decode cX6_carry 46 = .ok (.ishl, 1) := by decide +kernel
theorem dX6_carry_47 : decode cX6_carry 47 = .ok (.iload_n 2, 1) := by decide +kernel
theorem dX6_carry_48 : decode cX6_carry 48 = .ok (.ior, 1) := by decide +kernel
theorem dX6_carry_49 : decode cX6_carry 49 = .ok (.i2b, 1) := by decide +kernel
theorem dX6_carry_50 : decode cX6_carry 50 = .ok (.bastore, 1) := by decide +kernel
theorem dX6_carry_51 : decode cX6_carry 51 = .ok (.aload_n 0, 1) := by decide +kernel
theorem dX6_carry_52 : decode cX6_carry 52 = .ok (.dup, 1) := by decide +kernel
theorem dX6_carry_53 : decode cX6_carry 53 = .ok (.getfield 80, 3) := by decide +kernel
theorem dX6_carry_56 : decode cX6_carry 56 = .ok (.iconst 1, 1) := by decide +kernel
theorem dX6_carry_57 : decode cX6_carry 57 = .ok (.iadd, 1) := by decide +kernel
theorem dX6_carry_58 : decode cX6_carry 58 = .ok (.putfield 80, 3) := by decide +kernel
theorem dX6_carry_61 : decode cX6_carry 61 = .ok (.aload_n 0, 1) := by decide +kernel
theorem dX6_carry_62 : decode cX6_carry 62 = .ok (.getfield 80, 3) := by decide +kernel
theorem dX6_carry_65 : decode cX6_carry 65 = .ok (.aload_n 0, 1) := by decide +kernel
theorem dX6_carry_66 : decode cX6_carry 66 = .ok (.invokevirtual 105, 3) := by decide +kernel
theorem dX6_carry_69 : decode cX6_carry 69 = .ok (.if_icmp .ne 7, 3) := by decide +kernel
theorem dX6_carry_72 : decode cX6_carry 72 = .ok (.aload_n 0, 1) := by decide +kernel
theorem dX6_carry_73 : decode cX6_carry 73 = .ok (.invokevirtual 138, 3) := by decide +kernel
theorem dX6_carry_76 : decode cX6_carry 76 = .ok (.return_, 1) := by decide +kernel
theorem dX6_endLoad_0 : decode cX6_endLoad 0 = .ok (.aload_n 0, 1) := by decide +kernel
theorem dX6_endLoad_1 : decode cX6_endLoad 1 = .ok (.getfield 67, 3) := by decide +kernel
theorem dX6_endLoad_4 : decode cX6_endLoad 4 = .ok (.ifCond .ne 4, 3) := by decide +kernel
theorem dX6_endLoad_7 : decode cX6_endLoad 7 = .ok (.return_, 1) := by decide +kernel
theorem dX6_endLoad_8 : decode cX6_endLoad 8 = .ok (.aload_n 0, 1) := by decide +kernel
theorem dX6_endLoad_9 : decode cX6_endLoad 9 = .ok (.iconst 0, 1) := by decide +kernel
theorem dX6_endLoad_10 : decode cX6_endLoad 10 = .ok (.putfield 67, 3) := by decide +kernel
theorem dX6_endLoad_13 : decode cX6_endLoad 13 = .ok (.aload_n 0, 1) := by decide +kernel
theorem dX6_endLoad_14 : decode cX6_endLoad 14 = .ok (.getfield 33, 3) := by decide +kernel
theorem dX6_endLoad_17 : decode cX6_endLoad 17 = .ok (.iconst 5, 1) := by decide +kernel
theorem dX6_endLoad_18 : decode cX6_endLoad 18 = .ok (.iaload, 1) := by decide +kernel
theorem dX6_endLoad_19 : decode cX6_endLoad 19 = .ok (.iconst 1, 1) := by decide +kernel
theorem dX6_endLoad_20 : decode cX6_endLoad 20 = .ok (.if_icmp .ne 23, 3) := by decide +kernel
theorem dX6_endLoad_23 : decode cX6_endLoad 23 = .ok (.aload_n 0, 1) := by decide +kernel
theorem dX6_endLoad_24 : decode cX6_endLoad 24 = .ok (.getfield 96, 3) := by decide +kernel
theorem dX6_endLoad_27 : decode cX6_endLoad 27 = .ok (.iconst 1, 1) := by decide +kernel
theorem dX6_endLoad_28 : decode cX6_endLoad 28 = .ok (.if_icmp .ne 15, 3) := by decide +kernel
theorem dX6_endLoad_31 : decode cX6_endLoad 31 = .ok (.aload_n 0, 1) := by decide +kernel
theorem dX6_endLoad_32 : decode cX6_endLoad 32 = .ok (.getfield 9, 3) := by decide +kernel
theorem dX6_endLoad_35 : decode cX6_endLoad 35 = .ok (.bipush 10, 2) := by decide +kernel
theorem dX6_endLoad_37 : decode cX6_endLoad 37 = .ok (.dup2, 1) := by decide +kernel
theorem dX6_endLoad_38 : decode cX6_endLoad 38 = .ok (.iaload, 1) := by decide +kernel
theorem dX6_endLoad_39 : decode cX6_endLoad 39 = .ok (.iconst 1, 1) := by decide +kernel
theorem dX6_endLoad_40 : decode cX6_endLoad 40 = .ok (.iadd, 1) := by decide +kernel
theorem dX6_endLoad_41 : decode cX6_endLoad 41 = .ok (.iastore, 1) := by decide +kernel
theorem dX6_endLoad_42 : decode cX6_endLoad 42 = .ok (.return_, 1) := by decide +kernel
theorem dX6_endLoad_43 : decode cX6_endLoad 43 = .ok (.aload_n 0, 1) := by decide +kernel
theorem dX6_endLoad_44 : decode cX6_endLoad 44 = .ok (.getfield 9, 3) := by decide +kernel
theorem dX6_endLoad_47 : decode cX6_endLoad 47 = .ok (.iconst 3, 1) := by decide +kernel
theorem dX6_endLoad_48 : decode cX6_endLoad 48 = .ok (.dup2, 1) := by decide +kernel
theorem dX6_endLoad_49 : decode cX6_endLoad 49 = .ok (.iaload, 1) := by decide +kernel
theorem dX6_endLoad_50 : decode cX6_endLoad 50 = .ok (.iconst 1, 1) := by decide +kernel
theorem dX6_endLoad_51 : decode cX6_endLoad 51 = .ok (.iadd, 1) := by decide +kernel
theorem dX6_endLoad_52 : decode cX6_endLoad 52 = .ok (.iastore, 1) := by decide +kernel
theorem dX6_endLoad_53 : decode cX6_endLoad 53 = .ok (.aload_n 0, 1) := by decide +kernel
theorem dX6_endLoad_54 : decode cX6_endLoad 54 = .ok (.getfield 36, 3) := by decide +kernel
theorem dX6_endLoad_57 : decode cX6_endLoad 57 = .ok (.aload_n 0, 1) := by decide +kernel
theorem dX6_endLoad_58 : decode cX6_endLoad 58 = .ok (.getfield 96, 3) := by decide +kernel
theorem dX6_endLoad_61 : decode cX6_endLoad 61 = .ok (.aload_n 0, 1) := by decide +kernel
theorem dX6_endLoad_62 : decode cX6_endLoad 62 = .ok (.getfield 29, 3) := by decide +kernel
theorem dX6_endLoad_65 : decode cX6_endLoad 65 = .ok (.iconst 0, 1) := by decide +kernel
theorem dX6_endLoad_66 : decode cX6_endLoad 66 = .ok (.aload_n 0, 1) := by decide +kernel
theorem dX6_endLoad_67 : decode cX6_endLoad 67 = .ok (.getfield 33, 3) := by decide +kernel
theorem dX6_endLoad_70 : decode cX6_endLoad 70 = .ok (.iconst 0, 1) := by decide +kernel
theorem dX6_endLoad_71 : decode cX6_endLoad 71 = .ok (.iaload, 1) := by decide +kernel
theorem dX6_endLoad_72 : decode cX6_endLoad 72 = .ok (.invokevirtual 141, 3) := by decide +kernel
theorem dX6_endLoad_75 : decode cX6_endLoad 75 = .ok (.iconst (-1), 1) := by decide +kernel
theorem dX6_endLoad_76 : decode cX6_endLoad 76 = .ok (.if_icmp .ne 14, 3) := by decide +kernel
theorem dX6_endLoad_79 : decode cX6_endLoad 79 = .ok (.aload_n 0, 1) := by decide +kernel
theorem dX6_endLoad_80 : decode cX6_endLoad 80 = .ok (.getfield 9, 3) := by decide +kernel
theorem dX6_endLoad_83 : decode cX6_endLoad 83 = .ok (.bipush 9, 2) := by decide +kernel
theorem dX6_endLoad_85 : decode cX6_endLoad 85 = .ok (.dup2, 1) := by decide +kernel
theorem dX6_endLoad_86 : decode cX6_endLoad 86 = .ok (.iaload, 1) := by decide +kernel
theorem dX6_endLoad_87 : decode cX6_endLoad 87 = .ok (.iconst 1, 1) := by decide +kernel
theorem dX6_endLoad_88 : decode cX6_endLoad 88 = .ok (.iadd, 1) := by decide +kernel
theorem dX6_endLoad_89 : decode cX6_endLoad 89 = .ok (.iastore, 1) := by decide +kernel
theorem dX6_endLoad_90 : decode cX6_endLoad 90 = .ok (.aload_n 0, 1) := by decide +kernel
theorem dX6_endLoad_91 : decode cX6_endLoad 91 = .ok (.getfield 40, 3) := by decide +kernel
theorem dX6_endLoad_94 : decode cX6_endLoad 94 = .ok (.ifnull 26, 3) := by decide +kernel
theorem dX6_endLoad_97 : decode cX6_endLoad 97 = .ok (.aload_n 0, 1) := by decide +kernel
theorem dX6_endLoad_98 : decode cX6_endLoad 98 = .ok (.getfield 40, 3) := by decide +kernel
theorem dX6_endLoad_101 : decode cX6_endLoad 101 = .ok (.aload_n 0, 1) := by decide +kernel
theorem dX6_endLoad_102 : decode cX6_endLoad 102 = .ok (.getfield 96, 3) := by decide +kernel
theorem dX6_endLoad_105 : decode cX6_endLoad 105 = .ok (.aload_n 0, 1) := by decide +kernel
theorem dX6_endLoad_106 : decode cX6_endLoad 106 = .ok (.getfield 99, 3) := by decide +kernel
theorem dX6_endLoad_109 : decode cX6_endLoad 109 = .ok (.aload_n 0, 1) := by decide +kernel
theorem dX6_endLoad_110 : decode cX6_endLoad 110 = .ok (.getfield 102, 3) := by decide +kernel
theorem dX6_endLoad_113 : decode cX6_endLoad 113 = .ok (.aload_n 0, 1) := by decide +kernel
theorem dX6_endLoad_114 : decode cX6_endLoad 114 = .ok (.getfield 29, 3) := by decide +kernel
theorem dX6_endLoad_117 : decode cX6_endLoad 117 = .ok (.invokevirtual 147, 3) := by decide +kernel
theorem dX6_endLoad_120 : decode cX6_endLoad 120 = .ok (.return_, 1) := by decide +kernel
theorem dX6_judge_0 : decode cX6_judge 0 = .ok (.aload_n 0, 1) := by decide +kernel
theorem dX6_judge_1 : decode cX6_judge 1 = .ok (.iconst 0, 1) := by decide +kernel
theorem dX6_judge_2 : decode cX6_judge 2 = .ok (.putfield 80, 3) := by decide +kernel
theorem dX6_judge_5 : decode cX6_judge 5 = .ok (.aload_n 0, 1) := by decide +kernel
theorem dX6_judge_6 : decode cX6_judge 6 = .ok (.getfield 18, 3) := by decide +kernel
theorem dX6_judge_9 : decode cX6_judge 9 = .ok (.invokevirtual 153, 3) := by decide +kernel
theorem dX6_judge_12 : decode cX6_judge 12 = .ok (.istore_n 2, 1) := by decide +kernel
theorem dX6_judge_13 : decode cX6_judge 13 = .ok (.aload_n 0, 1) := by decide +kernel
theorem dX6_judge_14 : decode cX6_judge 14 = .ok (.aload_n 0, 1) := by decide +kernel
theorem dX6_judge_15 : decode cX6_judge 15 = .ok (.getfield 18, 3) := by decide +kernel
theorem dX6_judge_18 : decode cX6_judge 18 = .ok (.invokevirtual 156, 3) := by decide +kernel
theorem dX6_judge_21 : decode cX6_judge 21 = .ok (.putfield 96, 3) := by decide +kernel
theorem dX6_judge_24 : decode cX6_judge 24 = .ok (.aload_n 0, 1) := by decide +kernel
theorem dX6_judge_25 : decode cX6_judge 25 = .ok (.iconst 0, 1) := by decide +kernel
theorem dX6_judge_26 : decode cX6_judge 26 = .ok (.putfield 99, 3) := by decide +kernel
theorem dX6_judge_29 : decode cX6_judge 29 = .ok (.aload_n 0, 1) := by decide +kernel
theorem dX6_judge_30 : decode cX6_judge 30 = .ok (.iload_n 1, 1) := by decide +kernel
theorem dX6_judge_31 : decode cX6_judge 31 = .ok (.bipush 40, 2) := by decide +kernel
theorem dX6_judge_33 : decode cX6_judge 33 = .ok (.isub, 1) := by decide +kernel
theorem dX6_judge_34 : decode cX6_judge 34 = .ok (.putfield 102, 3) := by decide +kernel
theorem dX6_judge_37 : decode cX6_judge 37 = .ok (.iload_n 2, 1) := by decide +kernel
theorem dX6_judge_38 : decode cX6_judge 38 = .ok (.ifCond .ne 11, 3) := by decide +kernel
theorem dX6_judge_41 : decode cX6_judge 41 = .ok (.aload_n 0, 1) := by decide +kernel
theorem dX6_judge_42 : decode cX6_judge 42 = .ok (.iload_n 1, 1) := by decide +kernel
theorem dX6_judge_43 : decode cX6_judge 43 = .ok (.invokevirtual 159, 3) := by decide +kernel
theorem dX6_judge_46 : decode cX6_judge 46 = .ok (.goto 9, 3) := by decide +kernel
theorem dX6_judge_49 : decode cX6_judge 49 = .ok (.aload_n 0, 1) := by decide +kernel
theorem dX6_judge_50 : decode cX6_judge 50 = .ok (.iload_n 2, 1) := by decide +kernel
theorem dX6_judge_51 : decode cX6_judge 51 = .ok (.iload_n 1, 1) := by decide +kernel
theorem dX6_judge_52 : decode cX6_judge 52 = .ok (.invokevirtual 163, 3) := by decide +kernel
theorem dX6_judge_55 : decode cX6_judge 55 = .ok (.istore_n 3, 1) := by decide +kernel
theorem dX6_judge_56 : decode cX6_judge 56 = .ok (.aload_n 0, 1) := by decide +kernel
theorem dX6_judge_57 : decode cX6_judge 57 = .ok (.getfield 9, 3) := by decide +kernel
theorem dX6_judge_60 : decode cX6_judge 60 = .ok (.bipush 8, 2) := by decide +kernel
theorem dX6_judge_62 : decode cX6_judge 62 = .ok (.dup2, 1) := by decide +kernel
theorem dX6_judge_63 : decode cX6_judge 63 = .ok (.iaload, 1) := by decide +kernel
theorem dX6_judge_64 : decode cX6_judge 64 = .ok (.iconst 1, 1) := by decide +kernel
theorem dX6_judge_65 : decode cX6_judge 65 = .ok (.iadd, 1) := by decide +kernel
theorem dX6_judge_66 : decode cX6_judge 66 = .ok (.iastore, 1) := by decide +kernel
theorem dX6_judge_67 : decode cX6_judge 67 = .ok (.aload_n 0, 1) := by decide +kernel
theorem dX6_judge_68 : decode cX6_judge 68 = .ok (.getfield 40, 3) := by decide +kernel
theorem dX6_judge_71 : decode cX6_judge 71 = .ok (.ifnull 19, 3) := by decide +kernel
theorem dX6_judge_74 : decode cX6_judge 74 = .ok (.aload_n 0, 1) := by decide +kernel
theorem dX6_judge_75 : decode cX6_judge 75 = .ok (.getfield 40, 3) := by decide +kernel
theorem dX6_judge_78 : decode cX6_judge 78 = .ok (.getfield 167, 3) := by decide +kernel
theorem dX6_judge_81 : decode cX6_judge 81 = .ok (.aload_n 0, 1) := by decide +kernel
theorem dX6_judge_82 : decode cX6_judge 82 = .ok (.getfield 102, 3) := by decide +kernel
theorem dX6_judge_85 : decode cX6_judge 85 = .ok (.iload_n 2, 1) := by decide +kernel
theorem dX6_judge_86 : decode cX6_judge 86 = .ok (.iload_n 3, 1) := by decide +kernel
theorem dX6_judge_87 : decode cX6_judge 87 = .ok (.invokevirtual 171, 3) := by decide +kernel
theorem dX6_judge_90 : decode cX6_judge 90 = .ok (.return_, 1) := by decide +kernel
theorem dX6_acceptRight_0 : decode cX6_acceptRight 0 = .ok (.aload_n 0, 1) := by decide +kernel
theorem dX6_acceptRight_1 : decode cX6_acceptRight 1 = .ok (.getfield 9, 3) := by decide +kernel
theorem dX6_acceptRight_4 : decode cX6_acceptRight 4 = .ok (.iconst 0, 1) := by decide +kernel
theorem dX6_acceptRight_5 : decode cX6_acceptRight 5 = .ok (.dup2, 1) := by decide +kernel
theorem dX6_acceptRight_6 : decode cX6_acceptRight 6 = .ok (.iaload, 1) := by decide +kernel
theorem dX6_acceptRight_7 : decode cX6_acceptRight 7 = .ok (.iconst 1, 1) := by decide +kernel
theorem dX6_acceptRight_8 : decode cX6_acceptRight 8 = .ok (.iadd, 1) := by decide +kernel
theorem dX6_acceptRight_9 : decode cX6_acceptRight 9 = .ok (.iastore, 1) := by decide +kernel
theorem dX6_acceptRight_10 : decode cX6_acceptRight 10 = .ok (.aload_n 0, 1) := by decide +kernel
theorem dX6_acceptRight_11 : decode cX6_acceptRight 11 = .ok (.getfield 54, 3) := by decide +kernel
theorem dX6_acceptRight_14 : decode cX6_acceptRight 14 = .ok (.iconst 1, 1) := by decide +kernel
theorem dX6_acceptRight_15 : decode cX6_acceptRight 15 = .ok (.if_icmp .ne 32, 3) := by decide +kernel
theorem dX6_acceptRight_18 : decode cX6_acceptRight 18 = .ok (.aload_n 0, 1) := by decide +kernel
theorem dX6_acceptRight_19 : decode cX6_acceptRight 19 = .ok (.dup, 1) := by decide +kernel
theorem dX6_acceptRight_20 : decode cX6_acceptRight 20 = .ok (.getfield 58, 3) := by decide +kernel
theorem dX6_acceptRight_23 : decode cX6_acceptRight 23 = .ok (.iconst 1, 1) := by decide +kernel
theorem dX6_acceptRight_24 : decode cX6_acceptRight 24 = .ok (.iadd, 1) := by decide +kernel
theorem dX6_acceptRight_25 : decode cX6_acceptRight 25 = .ok (.putfield 58, 3) := by decide +kernel
theorem dX6_acceptRight_28 : decode cX6_acceptRight 28 = .ok (.aload_n 0, 1) := by decide +kernel
theorem dX6_acceptRight_29 : decode cX6_acceptRight 29 = .ok (.getfield 58, 3) := by decide +kernel
theorem dX6_acceptRight_32 : decode cX6_acceptRight 32 = .ok (.aload_n 0, 1) := by decide +kernel
theorem dX6_acceptRight_33 : decode cX6_acceptRight 33 = .ok (.getfield 33, 3) := by decide +kernel
theorem dX6_acceptRight_36 : decode cX6_acceptRight 36 = .ok (.iconst 2, 1) := by decide +kernel
theorem dX6_acceptRight_37 : decode cX6_acceptRight 37 = .ok (.iaload, 1) := by decide +kernel
theorem dX6_acceptRight_38 : decode cX6_acceptRight 38 = .ok (.if_icmp .lt 9, 3) := by decide +kernel
theorem dX6_acceptRight_41 : decode cX6_acceptRight 41 = .ok (.aload_n 0, 1) := by decide +kernel
theorem dX6_acceptRight_42 : decode cX6_acceptRight 42 = .ok (.iconst 2, 1) := by decide +kernel
theorem dX6_acceptRight_43 : decode cX6_acceptRight 43 = .ok (.iload_n 1, 1) := by decide +kernel
theorem dX6_acceptRight_44 : decode cX6_acceptRight 44 = .ok (.invokevirtual 133, 3) := by decide +kernel
theorem dX6_acceptRight_47 : decode cX6_acceptRight 47 = .ok (.aload_n 0, 1) := by decide +kernel
theorem dX6_acceptRight_48 : decode cX6_acceptRight 48 = .ok (.getfield 54, 3) := by decide +kernel
theorem dX6_acceptRight_51 : decode cX6_acceptRight 51 = .ok (.iconst 2, 1) := by decide +kernel
theorem dX6_acceptRight_52 : decode cX6_acceptRight 52 = .ok (.if_icmp .ne 18, 3) := by decide +kernel
theorem dX6_acceptRight_55 : decode cX6_acceptRight 55 = .ok (.aload_n 0, 1) := by decide +kernel
theorem dX6_acceptRight_56 : decode cX6_acceptRight 56 = .ok (.iconst 0, 1) := by decide +kernel
theorem dX6_acceptRight_57 : decode cX6_acceptRight 57 = .ok (.putfield 61, 3) := by decide +kernel
theorem dX6_acceptRight_60 : decode cX6_acceptRight 60 = .ok (.aload_n 0, 1) := by decide +kernel
theorem dX6_acceptRight_61 : decode cX6_acceptRight 61 = .ok (.iconst 1, 1) := by decide +kernel
theorem dX6_acceptRight_62 : decode cX6_acceptRight 62 = .ok (.putfield 64, 3) := by decide +kernel
theorem dX6_acceptRight_65 : decode cX6_acceptRight 65 = .ok (.aload_n 0, 1) := by decide +kernel
theorem dX6_acceptRight_66 : decode cX6_acceptRight 66 = .ok (.iconst 1, 1) := by decide +kernel
theorem dX6_acceptRight_67 : decode cX6_acceptRight 67 = .ok (.putfield 67, 3) := by decide +kernel
theorem dX6_acceptRight_70 : decode cX6_acceptRight 70 = .ok (.iconst 0, 1) := by decide +kernel
theorem dX6_acceptRight_71 : decode cX6_acceptRight 71 = .ok (.ireturn, 1) := by decide +kernel
theorem dX6_faceWrong_0 : decode cX6_faceWrong 0 = .ok (.aload_n 0, 1) := by decide +kernel
theorem dX6_faceWrong_1 : decode cX6_faceWrong 1 = .ok (.getfield 54, 3) := by decide +kernel
theorem dX6_faceWrong_4 : decode cX6_faceWrong 4 = .ok (.iconst 2, 1) := by decide +kernel
theorem dX6_faceWrong_5 : decode cX6_faceWrong 5 = .ok (.if_icmp .ne 13, 3) := by decide +kernel
theorem dX6_faceWrong_8 : decode cX6_faceWrong 8 = .ok (.aload_n 0, 1) := by decide +kernel
theorem dX6_faceWrong_9 : decode cX6_faceWrong 9 = .ok (.dup, 1) := by decide +kernel
theorem dX6_faceWrong_10 : decode cX6_faceWrong 10 = .ok (.getfield 61, 3) := by decide +kernel
theorem dX6_faceWrong_13 : decode cX6_faceWrong 13 = .ok (.iconst 1, 1) := by decide +kernel
theorem dX6_faceWrong_14 : decode cX6_faceWrong 14 = .ok (.iadd, 1) := by decide +kernel
theorem dX6_faceWrong_15 : decode cX6_faceWrong 15 = .ok (.putfield 61, 3) := by decide +kernel
theorem dX6_faceWrong_18 : decode cX6_faceWrong 18 = .ok (.aload_n 0, 1) := by decide +kernel
theorem dX6_faceWrong_19 : decode cX6_faceWrong 19 = .ok (.getfield 54, 3) := by decide +kernel
theorem dX6_faceWrong_22 : decode cX6_faceWrong 22 = .ok (.iconst 1, 1) := by decide +kernel
theorem dX6_faceWrong_23 : decode cX6_faceWrong 23 = .ok (.if_icmp .eq 16, 3) := by decide +kernel
theorem dX6_faceWrong_26 : decode cX6_faceWrong 26 = .ok (.aload_n 0, 1) := by decide +kernel
theorem dX6_faceWrong_27 : decode cX6_faceWrong 27 = .ok (.getfield 61, 3) := by decide +kernel
theorem dX6_faceWrong_30 : decode cX6_faceWrong 30 = .ok (.aload_n 0, 1) := by decide +kernel
theorem dX6_faceWrong_31 : decode cX6_faceWrong 31 = .ok (.getfield 33, 3) := by decide +kernel
theorem dX6_faceWrong_34 : decode cX6_faceWrong 34 = .ok (.iconst 1, 1) := by decide +kernel
theorem dX6_faceWrong_35 : decode cX6_faceWrong 35 = .ok (.iaload, 1) := by decide +kernel
theorem dX6_faceWrong_36 : decode cX6_faceWrong 36 = .ok (.if_icmp .lt 11, 3) := by decide +kernel
theorem dX6_faceWrong_39 : decode cX6_faceWrong 39 = .ok (.aload_n 0, 1) := by decide +kernel
theorem dX6_faceWrong_40 : decode cX6_faceWrong 40 = .ok (.iconst 0, 1) := by decide +kernel
theorem dX6_faceWrong_41 : decode cX6_faceWrong 41 = .ok (.iload_n 2, 1) := by decide +kernel
theorem dX6_faceWrong_42 : decode cX6_faceWrong 42 = .ok (.invokevirtual 133, 3) := by decide +kernel
theorem dX6_faceWrong_45 : decode cX6_faceWrong 45 = .ok (.iconst 3, 1) := by decide +kernel
theorem dX6_faceWrong_46 : decode cX6_faceWrong 46 = .ok (.ireturn, 1) := by decide +kernel
theorem dX6_faceWrong_47 : decode cX6_faceWrong 47 = .ok (.aload_n 0, 1) := by decide +kernel
theorem dX6_faceWrong_48 : decode cX6_faceWrong 48 = .ok (.getfield 64, 3) := by decide +kernel
theorem dX6_faceWrong_51 : decode cX6_faceWrong 51 = .ok (.iconst 1, 1) := by decide +kernel
theorem dX6_faceWrong_52 : decode cX6_faceWrong 52 = .ok (.if_icmp .ne 17, 3) := by decide +kernel
theorem dX6_faceWrong_55 : decode cX6_faceWrong 55 = .ok (.aload_n 0, 1) := by decide +kernel
theorem dX6_faceWrong_56 : decode cX6_faceWrong 56 = .ok (.getfield 33, 3) := by decide +kernel
theorem dX6_faceWrong_59 : decode cX6_faceWrong 59 = .ok (.iconst 3, 1) := by decide +kernel
theorem dX6_faceWrong_60 : decode cX6_faceWrong 60 = .ok (.iaload, 1) := by decide +kernel
theorem dX6_faceWrong_61 : decode cX6_faceWrong 61 = .ok (.iconst 1, 1) := by decide +kernel
theorem dX6_faceWrong_62 : decode cX6_faceWrong 62 = .ok (.if_icmp .ne 7, 3) := by decide +kernel
theorem dX6_faceWrong_65 : decode cX6_faceWrong 65 = .ok (.iconst 1, 1) := by decide +kernel
theorem dX6_faceWrong_66 : decode cX6_faceWrong 66 = .ok (.goto 4, 3) := by decide +kernel
theorem dX6_faceWrong_69 : decode cX6_faceWrong 69 = .ok (.iconst 0, 1) := by decide +kernel
theorem dX6_faceWrong_70 : decode cX6_faceWrong 70 = .ok (.istore_n 3, 1) := by decide +kernel
theorem dX6_faceWrong_71 : decode cX6_faceWrong 71 = .ok (.iload_n 3, 1) := by decide +kernel
theorem dX6_faceWrong_72 : decode cX6_faceWrong 72 = .ok (.ifCond .eq 10, 3) := by decide +kernel
theorem dX6_faceWrong_75 : decode cX6_faceWrong 75 = .ok (.iload_n 1, 1) := by decide +kernel
theorem dX6_faceWrong_76 : decode cX6_faceWrong 76 = .ok (.invokestatic 177, 3) := by decide +kernel
theorem dX6_faceWrong_79 : decode cX6_faceWrong 79 = .ok (.goto 4, 3) := by decide +kernel
theorem dX6_faceWrong_82 : decode cX6_faceWrong 82 = .ok (.iconst (-1), 1) := by decide +kernel
theorem dX6_faceWrong_83 : decode cX6_faceWrong 83 = .ok (.istore 4, 2) := by decide +kernel
theorem dX6_faceWrong_85 : decode cX6_faceWrong 85 = .ok (.aload_n 0, 1) := by decide +kernel
theorem dX6_faceWrong_86 : decode cX6_faceWrong 86 = .ok (.iconst 0, 1) := by decide +kernel
theorem dX6_faceWrong_87 : decode cX6_faceWrong 87 = .ok (.putfield 64, 3) := by decide +kernel
theorem dX6_faceWrong_90 : decode cX6_faceWrong 90 = .ok (.iload 4, 2) := by decide +kernel
theorem dX6_faceWrong_92 : decode cX6_faceWrong 92 = .ok (.iconst (-1), 1) := by decide +kernel
theorem dX6_faceWrong_93 : decode cX6_faceWrong 93 = .ok (.if_icmp .ne 15, 3) := by decide +kernel
theorem dX6_faceWrong_96 : decode cX6_faceWrong 96 = .ok (.aload_n 0, 1) := by decide +kernel
theorem dX6_faceWrong_97 : decode cX6_faceWrong 97 = .ok (.getfield 9, 3) := by decide +kernel
theorem dX6_faceWrong_100 : decode cX6_faceWrong 100 = .ok (.iconst 2, 1) := by decide +kernel
theorem dX6_faceWrong_101 : decode cX6_faceWrong 101 = .ok (.dup2, 1) := by decide +kernel
theorem dX6_faceWrong_102 : decode cX6_faceWrong 102 = .ok (.iaload, 1) := by decide +kernel
theorem dX6_faceWrong_103 : decode cX6_faceWrong 103 = .ok (.iconst 1, 1) := by decide +kernel
theorem dX6_faceWrong_104 : decode cX6_faceWrong 104 = .ok (.iadd, 1) := by decide +kernel
theorem dX6_faceWrong_105 : decode cX6_faceWrong 105 = .ok (.iastore, 1) := by decide +kernel
theorem dX6_faceWrong_106 : decode cX6_faceWrong 106 = .ok (.iconst 2, 1) := by decide +kernel
theorem dX6_faceWrong_107 : decode cX6_faceWrong 107 = .ok (.ireturn, 1) := by decide +kernel
theorem dX6_faceWrong_108 : decode cX6_faceWrong 108 = .ok (.aload_n 0, 1) := by decide +kernel
theorem dX6_faceWrong_109 : decode cX6_faceWrong 109 = .ok (.aload_n 0, 1) := by decide +kernel
theorem dX6_faceWrong_110 : decode cX6_faceWrong 110 = .ok (.getfield 96, 3) := by decide +kernel
theorem dX6_faceWrong_113 : decode cX6_faceWrong 113 = .ok (.iload 4, 2) := by decide +kernel
theorem dX6_faceWrong_115 : decode cX6_faceWrong 115 = .ok (.invokestatic 182, 3) := by decide +kernel
theorem dX6_faceWrong_118 : decode cX6_faceWrong 118 = .ok (.putfield 96, 3) := by decide +kernel
theorem dX6_faceWrong_121 : decode cX6_faceWrong 121 = .ok (.aload_n 0, 1) := by decide +kernel
theorem dX6_faceWrong_122 : decode cX6_faceWrong 122 = .ok (.iconst 1, 1) := by decide +kernel
theorem dX6_faceWrong_123 : decode cX6_faceWrong 123 = .ok (.putfield 99, 3) := by decide +kernel
theorem dX6_faceWrong_126 : decode cX6_faceWrong 126 = .ok (.aload_n 0, 1) := by decide +kernel
theorem dX6_faceWrong_127 : decode cX6_faceWrong 127 = .ok (.getfield 9, 3) := by decide +kernel
theorem dX6_faceWrong_130 : decode cX6_faceWrong 130 = .ok (.iconst 1, 1) := by decide +kernel
theorem dX6_faceWrong_131 : decode cX6_faceWrong 131 = .ok (.dup2, 1) := by decide +kernel
theorem dX6_faceWrong_132 : decode cX6_faceWrong 132 = .ok (.iaload, 1) := by decide +kernel
theorem dX6_faceWrong_133 : decode cX6_faceWrong 133 = .ok (.iconst 1, 1) := by decide +kernel
theorem dX6_faceWrong_134 : decode cX6_faceWrong 134 = .ok (.iadd, 1) := by decide +kernel
theorem dX6_faceWrong_135 : decode cX6_faceWrong 135 = .ok (.iastore, 1) := by decide +kernel
theorem dX6_faceWrong_136 : decode cX6_faceWrong 136 = .ok (.aload_n 0, 1) := by decide +kernel
theorem dX6_faceWrong_137 : decode cX6_faceWrong 137 = .ok (.iconst 1, 1) := by decide +kernel
theorem dX6_faceWrong_138 : decode cX6_faceWrong 138 = .ok (.putfield 67, 3) := by decide +kernel
theorem dX6_faceWrong_141 : decode cX6_faceWrong 141 = .ok (.iconst 1, 1) := by decide +kernel
theorem dX6_faceWrong_142 : decode cX6_faceWrong 142 = .ok (.ireturn, 1) := by decide +kernel
theorem dX6_become_0 : decode cX6_become 0 = .ok (.aload_n 0, 1) := by decide +kernel
theorem dX6_become_1 : decode cX6_become 1 = .ok (.getfield 40, 3) := by decide +kernel
theorem dX6_become_4 : decode cX6_become 4 = .ok (.ifnull 19, 3) := by decide +kernel
theorem dX6_become_7 : decode cX6_become 7 = .ok (.aload_n 0, 1) := by decide +kernel
theorem dX6_become_8 : decode cX6_become 8 = .ok (.getfield 40, 3) := by decide +kernel
theorem dX6_become_11 : decode cX6_become 11 = .ok (.getfield 185, 3) := by decide +kernel
theorem dX6_become_14 : decode cX6_become 14 = .ok (.iload_n 2, 1) := by decide +kernel
theorem dX6_become_15 : decode cX6_become 15 = .ok (.aload_n 0, 1) := by decide +kernel
theorem dX6_become_16 : decode cX6_become 16 = .ok (.getfield 54, 3) := by decide +kernel
theorem dX6_become_19 : decode cX6_become 19 = .ok (.iload_n 1, 1) := by decide +kernel
theorem dX6_become_20 : decode cX6_become 20 = .ok (.invokevirtual 171, 3) := by decide +kernel
theorem dX6_become_23 : decode cX6_become 23 = .ok (.aload_n 0, 1) := by decide +kernel
theorem dX6_become_24 : decode cX6_become 24 = .ok (.getfield 9, 3) := by decide +kernel
theorem dX6_become_27 : decode cX6_become 27 = .ok (.bipush 7, 2) := by decide +kernel
theorem dX6_become_29 : decode cX6_become 29 = .ok (.dup2, 1) := by decide +kernel
theorem dX6_become_30 : decode cX6_become 30 = .ok (.iaload, 1) := by decide +kernel
theorem dX6_become_31 : decode cX6_become 31 = .ok (.iconst 1, 1) := by decide +kernel
theorem dX6_become_32 : decode cX6_become 32 = .ok (.iadd, 1) := by decide +kernel
theorem dX6_become_33 : decode cX6_become 33 = .ok (.iastore, 1) := by decide +kernel
theorem dX6_become_34 : decode cX6_become 34 = .ok (.iload_n 1, 1) := by decide +kernel
theorem dX6_become_35 : decode cX6_become 35 = .ok (.iconst 2, 1) := by decide +kernel
theorem dX6_become_36 : decode cX6_become 36 = .ok (.if_icmp .ne 13, 3) := by decide +kernel
theorem dX6_become_39 : decode cX6_become 39 = .ok (.aload_n 0, 1) := by decide +kernel
theorem dX6_become_40 : decode cX6_become 40 = .ok (.getfield 9, 3) := by decide +kernel
theorem dX6_become_43 : decode cX6_become 43 = .ok (.iconst 4, 1) := by decide +kernel
theorem dX6_become_44 : decode cX6_become 44 = .ok (.dup2, 1) := by decide +kernel
theorem dX6_become_45 : decode cX6_become 45 = .ok (.iaload, 1) := by decide +kernel
theorem dX6_become_46 : decode cX6_become 46 = .ok (.iconst 1, 1) := by decide +kernel
theorem dX6_become_47 : decode cX6_become 47 = .ok (.iadd, 1) := by decide +kernel
theorem dX6_become_48 : decode cX6_become 48 = .ok (.iastore, 1) := by decide +kernel
theorem dX6_become_49 : decode cX6_become 49 = .ok (.aload_n 0, 1) := by decide +kernel
theorem dX6_become_50 : decode cX6_become 50 = .ok (.getfield 54, 3) := by decide +kernel
theorem dX6_become_53 : decode cX6_become 53 = .ok (.iconst 2, 1) := by decide +kernel
theorem dX6_become_54 : decode cX6_become 54 = .ok (.if_icmp .ne 13, 3) := by decide +kernel
theorem dX6_become_57 : decode cX6_become 57 = .ok (.aload_n 0, 1) := by decide +kernel
theorem dX6_become_58 : decode cX6_become 58 = .ok (.getfield 9, 3) := by decide +kernel
theorem dX6_become_61 : decode cX6_become 61 = .ok (.iconst 5, 1) := by decide +kernel
theorem dX6_become_62 : decode cX6_become 62 = .ok (.dup2, 1) := by decide +kernel
theorem dX6_become_63 : decode cX6_become 63 = .ok (.iaload, 1) := by decide +kernel
theorem dX6_become_64 : decode cX6_become 64 = .ok (.iconst 1, 1) := by decide +kernel
theorem dX6_become_65 : decode cX6_become 65 = .ok (.iadd, 1) := by decide +kernel
theorem dX6_become_66 : decode cX6_become 66 = .ok (.iastore, 1) := by decide +kernel
theorem dX6_become_67 : decode cX6_become 67 = .ok (.aload_n 0, 1) := by decide +kernel
theorem dX6_become_68 : decode cX6_become 68 = .ok (.iload_n 1, 1) := by decide +kernel
theorem dX6_become_69 : decode cX6_become 69 = .ok (.putfield 54, 3) := by decide +kernel
theorem dX6_become_72 : decode cX6_become 72 = .ok (.aload_n 0, 1) := by decide +kernel
theorem dX6_become_73 : decode cX6_become 73 = .ok (.iconst 0, 1) := by decide +kernel
theorem dX6_become_74 : decode cX6_become 74 = .ok (.putfield 77, 3) := by decide +kernel
theorem dX6_become_77 : decode cX6_become 77 = .ok (.aload_n 0, 1) := by decide +kernel
theorem dX6_become_78 : decode cX6_become 78 = .ok (.iconst 0, 1) := by decide +kernel
theorem dX6_become_79 : decode cX6_become 79 = .ok (.putfield 80, 3) := by decide +kernel
theorem dX6_become_82 : decode cX6_become 82 = .ok (.aload_n 0, 1) := by decide +kernel
theorem dX6_become_83 : decode cX6_become 83 = .ok (.iconst 0, 1) := by decide +kernel
theorem dX6_become_84 : decode cX6_become 84 = .ok (.putfield 67, 3) := by decide +kernel
theorem dX6_become_87 : decode cX6_become 87 = .ok (.return_, 1) := by decide +kernel
theorem dX6_watch_0 : decode cX6_watch 0 = .ok (.aload_n 0, 1) := by decide +kernel
theorem dX6_watch_1 : decode cX6_watch 1 = .ok (.getfield 54, 3) := by decide +kernel
theorem dX6_watch_4 : decode cX6_watch 4 = .ok (.iconst 2, 1) := by decide +kernel
theorem dX6_watch_5 : decode cX6_watch 5 = .ok (.if_icmp .ne 7, 3) := by decide +kernel
theorem dX6_watch_8 : decode cX6_watch 8 = .ok (.iconst 1, 1) := by decide +kernel
theorem dX6_watch_9 : decode cX6_watch 9 = .ok (.goto 4, 3) := by decide +kernel
theorem dX6_watch_12 : decode cX6_watch 12 = .ok (.iconst 0, 1) := by decide +kernel
theorem dX6_watch_13 : decode cX6_watch 13 = .ok (.istore_n 2, 1) := by decide +kernel
theorem dX6_watch_14 : decode cX6_watch 14 = .ok (.aload_n 0, 1) := by decide +kernel
theorem dX6_watch_15 : decode cX6_watch 15 = .ok (.iload_n 2, 1) := by decide +kernel
theorem dX6_watch_16 : decode cX6_watch 16 = .ok (.iload_n 1, 1) := by decide +kernel
theorem dX6_watch_17 : decode cX6_watch 17 = .ok (.if_icmp .ne 12, 3) := by decide +kernel
theorem dX6_watch_20 : decode cX6_watch 20 = .ok (.aload_n 0, 1) := by decide +kernel
theorem dX6_watch_21 : decode cX6_watch 21 = .ok (.getfield 74, 3) := by decide +kernel
theorem dX6_watch_24 : decode cX6_watch 24 = .ok (.iconst 1, 1) := by decide +kernel
theorem dX6_watch_25 : decode cX6_watch 25 = .ok (.iadd, 1) := by decide +kernel
theorem dX6_watch_26 : decode cX6_watch 26 = .ok (.goto 4, 3) := by decide +kernel
theorem dX6_watch_29 : decode cX6_watch 29 = .ok (.iconst 1, 1) := by decide +kernel
theorem dX6_watch_30 : decode cX6_watch 30 = .ok (.putfield 74, 3) := by decide +kernel
theorem dX6_watch_33 : decode cX6_watch 33 = .ok (.aload_n 0, 1) := by decide +kernel
theorem dX6_watch_34 : decode cX6_watch 34 = .ok (.getfield 74, 3) := by decide +kernel
theorem dX6_watch_37 : decode cX6_watch 37 = .ok (.aload_n 0, 1) := by decide +kernel
theorem dX6_watch_38 : decode cX6_watch 38 = .ok (.getfield 33, 3) := by decide +kernel
theorem dX6_watch_41 : decode cX6_watch 41 = .ok (.iconst 4, 1) := by decide +kernel
theorem dX6_watch_42 : decode cX6_watch 42 = .ok (.iaload, 1) := by decide +kernel
theorem dX6_watch_43 : decode cX6_watch 43 = .ok (.if_icmp .lt 38, 3) := by decide +kernel
theorem dX6_watch_46 : decode cX6_watch 46 = .ok (.iload_n 2, 1) := by decide +kernel
theorem dX6_watch_47 : decode cX6_watch 47 = .ok (.ifCond .ne 21, 3) := by decide +kernel
theorem dX6_watch_50 : decode cX6_watch 50 = .ok (.aload_n 0, 1) := by decide +kernel
theorem dX6_watch_51 : decode cX6_watch 51 = .ok (.getfield 71, 3) := by decide +kernel
theorem dX6_watch_54 : decode cX6_watch 54 = .ok (.ifCond .ne 14, 3) := by decide +kernel
theorem dX6_watch_57 : decode cX6_watch 57 = .ok (.aload_n 0, 1) := by decide +kernel
theorem dX6_watch_58 : decode cX6_watch 58 = .ok (.getfield 9, 3) := by decide +kernel
theorem dX6_watch_61 : decode cX6_watch 61 = .ok (.bipush 11, 2) := by decide +kernel
theorem dX6_watch_63 : decode cX6_watch 63 = .ok (.dup2, 1) := by decide +kernel
theorem dX6_watch_64 : decode cX6_watch 64 = .ok (.iaload, 1) := by decide +kernel
theorem dX6_watch_65 : decode cX6_watch 65 = .ok (.iconst 1, 1) := by decide +kernel
theorem dX6_watch_66 : decode cX6_watch 66 = .ok (.iadd, 1) := by decide +kernel
theorem dX6_watch_67 : decode cX6_watch 67 = .ok (.iastore, 1) := by decide +kernel
theorem dX6_watch_68 : decode cX6_watch 68 = .ok (.aload_n 0, 1) := by decide +kernel
theorem dX6_watch_69 : decode cX6_watch 69 = .ok (.iload_n 2, 1) := by decide +kernel
theorem dX6_watch_70 : decode cX6_watch 70 = .ok (.ifCond .ne 7, 3) := by decide +kernel
theorem dX6_watch_73 : decode cX6_watch 73 = .ok (.iconst 1, 1) := by decide +kernel
theorem dX6_watch_74 : decode cX6_watch 74 = .ok (.goto 4, 3) := by decide +kernel
theorem dX6_watch_77 : decode cX6_watch 77 = .ok (.iconst 0, 1) := by decide +kernel
theorem dX6_watch_78 : decode cX6_watch 78 = .ok (.putfield 71, 3) := by decide +kernel
theorem dX6_watch_81 : decode cX6_watch 81 = .ok (.return_, 1) := by decide +kernel
theorem dX7_init_0 : decode cX7_init 0 = .ok (.aload_n 0, 1) := by decide +kernel
theorem dX7_init_1 : decode cX7_init 1 = .ok (.invokespecial 1, 3) := by decide +kernel
theorem dX7_init_4 : decode cX7_init 4 = .ok (.aload_n 0, 1) := by decide +kernel
theorem dX7_init_5 : decode cX7_init 5 = .ok (.iconst 1, 1) := by decide +kernel
theorem dX7_init_6 : decode cX7_init 6 = .ok (.iload_n 1, 1) := by decide +kernel
theorem dX7_init_7 : decode cX7_init 7 = .ok (.invokestatic 7, 3) := by decide +kernel
theorem dX7_init_10 : decode cX7_init 10 = .ok (.putfield 13, 3) := by decide +kernel
theorem dX7_init_13 : decode cX7_init 13 = .ok (.aload_n 0, 1) := by decide +kernel
theorem dX7_init_14 : decode cX7_init 14 = .ok (.iconst 3, 1) := by decide +kernel
theorem dX7_init_15 : decode cX7_init 15 = .ok (.aload_n 0, 1) := by decide +kernel
theorem dX7_init_16 : decode cX7_init 16 = .ok (.getfield 13, 3) := by decide +kernel
theorem dX7_init_19 : decode cX7_init 19 = .ok (.imul, 1) := by decide +kernel
theorem dX7_init_20 : decode cX7_init 20 = .ok (.newarray .int, 2) := by decide +kernel
theorem dX7_init_22 : decode cX7_init 22 = .ok (.putfield 19, 3) := by decide +kernel
theorem dX7_init_25 : decode cX7_init 25 = .ok (.aload_n 0, 1) := by decide +kernel
theorem dX7_init_26 : decode cX7_init 26 = .ok (.iconst 0, 1) := by decide +kernel
theorem dX7_init_27 : decode cX7_init 27 = .ok (.putfield 23, 3) := by decide +kernel
theorem dX7_init_30 : decode cX7_init 30 = .ok (.aload_n 0, 1) := by decide +kernel
theorem dX7_init_31 : decode cX7_init 31 = .ok (.iconst 0, 1) := by decide +kernel
theorem dX7_init_32 : decode cX7_init 32 = .ok (.putfield 26, 3) := by decide +kernel
theorem dX7_init_35 : decode cX7_init 35 = .ok (.return_, 1) := by decide +kernel
theorem dX7_clear_0 : decode cX7_clear 0 = .ok (.aload_n 0, 1) := by decide +kernel
theorem dX7_clear_1 : decode cX7_clear 1 = .ok (.iconst 0, 1) := by decide +kernel
theorem dX7_clear_2 : decode cX7_clear 2 = .ok (.putfield 23, 3) := by decide +kernel
theorem dX7_clear_5 : decode cX7_clear 5 = .ok (.aload_n 0, 1) := by decide +kernel
theorem dX7_clear_6 : decode cX7_clear 6 = .ok (.iconst 0, 1) := by decide +kernel
theorem dX7_clear_7 : decode cX7_clear 7 = .ok (.putfield 26, 3) := by decide +kernel
theorem dX7_clear_10 : decode cX7_clear 10 = .ok (.return_, 1) := by decide +kernel
theorem dX7_firstKept_0 : decode cX7_firstKept 0 = .ok (.iconst 0, 1) := by decide +kernel
theorem dX7_firstKept_1 : decode cX7_firstKept 1 = .ok (.aload_n 0, 1) := by decide +kernel
theorem dX7_firstKept_2 : decode cX7_firstKept 2 = .ok (.getfield 23, 3) := by decide +kernel
theorem dX7_firstKept_5 : decode cX7_firstKept 5 = .ok (.aload_n 0, 1) := by decide +kernel
theorem dX7_firstKept_6 : decode cX7_firstKept 6 = .ok (.getfield 13, 3) := by decide +kernel
theorem dX7_firstKept_9 : decode cX7_firstKept 9 = .ok (.isub, 1) := by decide +kernel
theorem dX7_firstKept_10 : decode cX7_firstKept 10 = .ok (.invokestatic 7, 3) := by decide +kernel
theorem dX7_firstKept_13 : decode cX7_firstKept 13 = .ok (.ireturn, 1) := by decide +kernel
theorem dX7_keeps_0 : decode cX7_keeps 0 = .ok (.iload_n 1, 1) := by decide +kernel
theorem dX7_keeps_1 : decode cX7_keeps 1 = .ok (.aload_n 0, 1) := by decide +kernel
theorem dX7_keeps_2 : decode cX7_keeps 2 = .ok (.invokevirtual 29, 3) := by decide +kernel
theorem dX7_keeps_5 : decode cX7_keeps 5 = .ok (.if_icmp .lt 15, 3) := by decide +kernel
theorem dX7_keeps_8 : decode cX7_keeps 8 = .ok (.iload_n 1, 1) := by decide +kernel
theorem dX7_keeps_9 : decode cX7_keeps 9 = .ok (.aload_n 0, 1) := by decide +kernel
theorem dX7_keeps_10 : decode cX7_keeps 10 = .ok (.getfield 23, 3) := by decide +kernel
theorem dX7_keeps_13 : decode cX7_keeps 13 = .ok (.if_icmp .ge 7, 3) := by decide +kernel
theorem dX7_keeps_16 : decode cX7_keeps 16 = .ok (.iconst 1, 1) := by decide +kernel
theorem dX7_keeps_17 : decode cX7_keeps 17 = .ok (.goto 4, 3) := by decide +kernel
theorem dX7_keeps_20 : decode cX7_keeps 20 = .ok (.iconst 0, 1) := by decide +kernel
theorem dX7_keeps_21 : decode cX7_keeps 21 = .ok (.ireturn, 1) := by decide +kernel
theorem dX7_slotOf_0 : decode cX7_slotOf 0 = .ok (.iload_n 1, 1) := by decide +kernel
theorem dX7_slotOf_1 : decode cX7_slotOf 1 = .ok (.ifCond .lt 11, 3) := by decide +kernel
theorem dX7_slotOf_4 : decode cX7_slotOf 4 = .ok (.aload_n 0, 1) := by decide +kernel
theorem dX7_slotOf_5 : decode cX7_slotOf 5 = .ok (.getfield 13, 3) := by decide +kernel
theorem dX7_slotOf_8 : decode cX7_slotOf 8 = .ok (.iconst 1, 1) := by decide +kernel
theorem dX7_slotOf_9 : decode cX7_slotOf 9 = .ok (.if_icmp .ge 7, 3) := by decide +kernel
theorem dX7_slotOf_12 : decode cX7_slotOf 12 = .ok (.iconst 0, 1) := by decide +kernel
theorem dX7_slotOf_13 : decode cX7_slotOf 13 = .ok (.goto 9, 3) := by decide +kernel
theorem dX7_slotOf_16 : decode cX7_slotOf 16 = .ok (.iload_n 1, 1) := by decide +kernel
theorem dX7_slotOf_17 : decode cX7_slotOf 17 = .ok (.aload_n 0, 1) := by decide +kernel
theorem dX7_slotOf_18 : decode cX7_slotOf 18 = .ok (.getfield 13, 3) := by decide +kernel
theorem dX7_slotOf_21 : decode cX7_slotOf 21 = .ok (.irem, 1) := by decide +kernel
theorem dX7_slotOf_22 : decode cX7_slotOf 22 = .ok (.ireturn, 1) := by decide +kernel
theorem dX7_entry_0 : decode cX7_entry 0 = .ok (.iconst 3, 1) := by decide +kernel
theorem dX7_entry_1 : decode cX7_entry 1 = .ok (.aload_n 0, 1) := by decide +kernel
theorem dX7_entry_2 : decode cX7_entry 2 = .ok (.iload_n 1, 1) := by decide +kernel
theorem dX7_entry_3 : decode cX7_entry 3 = .ok (.invokevirtual 33, 3) := by decide +kernel
theorem dX7_entry_6 : decode cX7_entry 6 = .ok (.imul, 1) := by decide +kernel
theorem dX7_entry_7 : decode cX7_entry 7 = .ok (.iload_n 2, 1) := by decide +kernel
theorem dX7_entry_8 : decode cX7_entry 8 = .ok (.iadd, 1) := by decide +kernel
theorem dX7_entry_9 : decode cX7_entry 9 = .ok (.istore_n 3, 1) := by decide +kernel
theorem dX7_entry_10 : decode cX7_entry 10 = .ok (.iload_n 3, 1) := by decide +kernel
theorem dX7_entry_11 : decode cX7_entry 11 = .ok (.ifCond .lt 21, 3) := by decide +kernel
theorem dX7_entry_14 : decode cX7_entry 14 = .ok (.iload_n 3, 1) := by decide +kernel
theorem dX7_entry_15 : decode cX7_entry 15 = .ok (.aload_n 0, 1) := by decide +kernel
theorem dX7_entry_16 : decode cX7_entry 16 = .ok (.getfield 19, 3) := by decide +kernel
theorem dX7_entry_19 : decode cX7_entry 19 = .ok (.arraylength, 1) := by decide +kernel
theorem dX7_entry_20 : decode cX7_entry 20 = .ok (.if_icmp .ge 12, 3) := by decide +kernel
theorem dX7_entry_23 : decode cX7_entry 23 = .ok (.aload_n 0, 1) := by decide +kernel
theorem dX7_entry_24 : decode cX7_entry 24 = .ok (.getfield 19, 3) := by decide +kernel
theorem dX7_entry_27 : decode cX7_entry 27 = .ok (.iload_n 3, 1) := by decide +kernel
theorem dX7_entry_28 : decode cX7_entry 28 = .ok (.iaload, 1) := by decide +kernel
theorem dX7_entry_29 : decode cX7_entry 29 = .ok (.goto 4, 3) := by decide +kernel
theorem dX7_entry_32 : decode cX7_entry 32 = .ok (.iconst 0, 1) := by decide +kernel
theorem dX7_entry_33 : decode cX7_entry 33 = .ok (.ireturn, 1) := by decide +kernel
theorem dX7_add_0 : decode cX7_add 0 = .ok (.iconst 3, 1) := by decide +kernel
theorem dX7_add_1 : decode cX7_add 1 = .ok (.aload_n 0, 1) := by decide +kernel
theorem dX7_add_2 : decode cX7_add 2 = .ok (.getfield 26, 3) := by decide +kernel
theorem dX7_add_5 : decode cX7_add 5 = .ok (.imul, 1) := by decide +kernel
theorem dX7_add_6 : decode cX7_add 6 = .ok (.istore 4, 2) := by decide +kernel
theorem dX7_add_8 : decode cX7_add 8 = .ok (.iload 4, 2) := by decide +kernel
theorem dX7_add_10 : decode cX7_add 10 = .ok (.ifCond .lt 43, 3) := by decide +kernel
theorem dX7_add_13 : decode cX7_add 13 = .ok (.iload 4, 2) := by decide +kernel
theorem dX7_add_15 : decode cX7_add 15 = .ok (.iconst 2, 1) := by decide +kernel
theorem dX7_add_16 : decode cX7_add 16 = .ok (.iadd, 1) := by decide +kernel
theorem dX7_add_17 : decode cX7_add 17 = .ok (.aload_n 0, 1) := by decide +kernel
theorem dX7_add_18 : decode cX7_add 18 = .ok (.getfield 19, 3) := by decide +kernel
theorem dX7_add_21 : decode cX7_add 21 = .ok (.arraylength, 1) := by decide +kernel
theorem dX7_add_22 : decode cX7_add 22 = .ok (.if_icmp .ge 31, 3) := by decide +kernel
theorem dX7_add_25 : decode cX7_add 25 = .ok (.aload_n 0, 1) := by decide +kernel
theorem dX7_add_26 : decode cX7_add 26 = .ok (.getfield 19, 3) := by decide +kernel
theorem dX7_add_29 : decode cX7_add 29 = .ok (.iload 4, 2) := by decide +kernel
theorem dX7_add_31 : decode cX7_add 31 = .ok (.iload_n 1, 1) := by decide +kernel
theorem dX7_add_32 : decode cX7_add 32 = .ok (.iastore, 1) := by decide +kernel
theorem dX7_add_33 : decode cX7_add 33 = .ok (.aload_n 0, 1) := by decide +kernel
theorem dX7_add_34 : decode cX7_add 34 = .ok (.getfield 19, 3) := by decide +kernel
theorem dX7_add_37 : decode cX7_add 37 = .ok (.iload 4, 2) := by decide +kernel
theorem dX7_add_39 : decode cX7_add 39 = .ok (.iconst 1, 1) := by decide +kernel
theorem dX7_add_40 : decode cX7_add 40 = .ok (.iadd, 1) := by decide +kernel
theorem dX7_add_41 : decode cX7_add 41 = .ok (.iload_n 2, 1) := by decide +kernel
theorem dX7_add_42 : decode cX7_add 42 = .ok (.iastore, 1) := by decide +kernel
theorem dX7_add_43 : decode cX7_add 43 = .ok (.aload_n 0, 1) := by decide +kernel
theorem dX7_add_44 : decode cX7_add 44 = .ok (.getfield 19, 3) := by decide +kernel
theorem dX7_add_47 : decode cX7_add 47 = .ok (.iload 4, 2) := by decide +kernel
theorem dX7_add_49 : decode cX7_add 49 = .ok (.iconst 2, 1) := by decide +kernel
theorem dX7_add_50 : decode cX7_add 50 = .ok (.iadd, 1) := by decide +kernel
theorem dX7_add_51 : decode cX7_add 51 = .ok (.iload_n 3, 1) := by decide +kernel
theorem dX7_add_52 : decode cX7_add 52 = .ok (.iastore, 1) := by decide +kernel
theorem dX7_add_53 : decode cX7_add 53 = .ok (.aload_n 0, 1) := by decide +kernel
theorem dX7_add_54 : decode cX7_add 54 = .ok (.aload_n 0, 1) := by decide +kernel
theorem dX7_add_55 : decode cX7_add 55 = .ok (.getfield 26, 3) := by decide +kernel
theorem dX7_add_58 : decode cX7_add 58 = .ok (.iconst 1, 1) := by decide +kernel
theorem dX7_add_59 : decode cX7_add 59 = .ok (.iadd, 1) := by decide +kernel
theorem dX7_add_60 : decode cX7_add 60 = .ok (.aload_n 0, 1) := by decide +kernel
theorem dX7_add_61 : decode cX7_add 61 = .ok (.getfield 13, 3) := by decide +kernel
theorem dX7_add_64 : decode cX7_add 64 = .ok (.if_icmp .ge 12, 3) := by decide +kernel
theorem dX7_add_67 : decode cX7_add 67 = .ok (.aload_n 0, 1) := by decide +kernel
theorem dX7_add_68 : decode cX7_add 68 = .ok (.getfield 26, 3) := by decide +kernel
theorem dX7_add_71 : decode cX7_add 71 = .ok (.iconst 1, 1) := by decide +kernel
theorem dX7_add_72 : decode cX7_add 72 = .ok (.iadd, 1) := by decide +kernel
theorem dX7_add_73 : decode cX7_add 73 = .ok (.goto 4, 3) := by decide +kernel
theorem dX7_add_76 : decode cX7_add 76 = .ok (.iconst 0, 1) := by decide +kernel
theorem dX7_add_77 : decode cX7_add 77 = .ok (.putfield 26, 3) := by decide +kernel
theorem dX7_add_80 : decode cX7_add 80 = .ok (.aload_n 0, 1) := by decide +kernel
theorem dX7_add_81 : decode cX7_add 81 = .ok (.dup, 1) := by decide +kernel
theorem dX7_add_82 : decode cX7_add 82 = .ok (.getfield 23, 3) := by decide +kernel
theorem dX7_add_85 : decode cX7_add 85 = .ok (.iconst 1, 1) := by decide +kernel
theorem dX7_add_86 : decode cX7_add 86 = .ok (.iadd, 1) := by decide +kernel
theorem dX7_add_87 : decode cX7_add 87 = .ok (.putfield 23, 3) := by decide +kernel
theorem dX7_add_90 : decode cX7_add 90 = .ok (.return_, 1) := by decide +kernel
theorem dX8_init_0 : decode cX8_init 0 = .ok (.aload_n 0, 1) := by decide +kernel
theorem dX8_init_1 : decode cX8_init 1 = .ok (.invokespecial 3, 3) := by decide +kernel
theorem dX8_init_4 : decode cX8_init 4 = .ok (.aload_n 0, 1) := by decide +kernel
theorem dX8_init_5 : decode cX8_init 5 = .ok (.new 9, 3) := by decide +kernel
theorem dX8_init_8 : decode cX8_init 8 = .ok (.dup, 1) := by decide +kernel
theorem dX8_init_9 : decode cX8_init 9 = .ok (.invokespecial 11, 3) := by decide +kernel
theorem dX8_init_12 : decode cX8_init 12 = .ok (.putfield 12, 3) := by decide +kernel
theorem dX8_init_15 : decode cX8_init 15 = .ok (.aload_n 0, 1) := by decide +kernel
theorem dX8_init_16 : decode cX8_init 16 = .ok (.bipush 64, 2) := by decide +kernel
theorem dX8_init_18 : decode cX8_init 18 = .ok (.newarray .int, 2) := by decide +kernel
theorem dX8_init_20 : decode cX8_init 20 = .ok (.putfield 18, 3) := by decide +kernel
theorem dX8_init_23 : decode cX8_init 23 = .ok (.aload_n 0, 1) := by decide +kernel
theorem dX8_init_24 : decode cX8_init 24 = .ok (.sipush 3072, 3) := by decide +kernel
theorem dX8_init_27 : decode cX8_init 27 = .ok (.newarray .byte, 2) := by decide +kernel
theorem dX8_init_29 : decode cX8_init 29 = .ok (.putfield 22, 3) := by decide +kernel
theorem dX8_init_32 : decode cX8_init 32 = .ok (.aload_n 0, 1) := by decide +kernel
theorem dX8_init_33 : decode cX8_init 33 = .ok (.iconst 0, 1) := by decide +kernel
theorem dX8_init_34 : decode cX8_init 34 = .ok (.putfield 26, 3) := by decide +kernel
theorem dX8_init_37 : decode cX8_init 37 = .ok (.return_, 1) := by decide +kernel
theorem dX8_restart_0 : decode cX8_restart 0 = .ok (.aload_n 0, 1) := by decide +kernel
theorem dX8_restart_1 : decode cX8_restart 1 = .ok (.iconst 0, 1) := by decide +kernel
theorem dX8_restart_2 : decode cX8_restart 2 = .ok (.putfield 26, 3) := by decide +kernel
theorem dX8_restart_5 : decode cX8_restart 5 = .ok (.aload_n 0, 1) := by decide +kernel
theorem dX8_restart_6 : decode cX8_restart 6 = .ok (.getfield 12, 3) := by decide +kernel
theorem dX8_restart_9 : decode cX8_restart 9 = .ok (.invokevirtual 30, 3) := by decide +kernel
theorem dX8_restart_12 : decode cX8_restart 12 = .ok (.return_, 1) := by decide +kernel
theorem dX8_following_0 : decode cX8_following 0 = .ok (.iload_n 0, 1) := by decide +kernel
theorem dX8_following_1 : decode cX8_following 1 = .ok (.sipush 1103, 3) := by decide +kernel
theorem dX8_following_4 : decode cX8_following 4 = .ok (.imul, 1) := by decide +kernel
theorem dX8_following_5 : decode cX8_following 5 = .ok (.sipush 12345, 3) := by decide +kernel
theorem dX8_following_8 : decode cX8_following 8 = .ok (.iadd, 1) := by decide +kernel
theorem dX8_following_9 : decode cX8_following 9 = .ok (.ldc 33, 2) := by decide +kernel
theorem dX8_following_11 : decode cX8_following 11 = .ok (.irem, 1) := by decide +kernel
theorem dX8_following_12 : decode cX8_following 12 = .ok (.ireturn, 1) := by decide +kernel
theorem dX8_fillBySeed_0 : decode cX8_fillBySeed 0 = .ok (.aload_n 0, 1) := by decide +kernel
theorem dX8_fillBySeed_1 : decode cX8_fillBySeed 1 = .ok (.getfield 26, 3) := by decide +kernel
theorem dX8_fillBySeed_4 : decode cX8_fillBySeed 4 = .ok (.bipush 48, 2) := by decide +kernel
theorem dX8_fillBySeed_6 : decode cX8_fillBySeed 6 = .ok (.imul, 1) := by decide +kernel
theorem dX8_fillBySeed_7 : decode cX8_fillBySeed 7 = .ok (.istore_n 3, 1) := by decide +kernel
theorem dX8_fillBySeed_8 : decode cX8_fillBySeed 8 = .ok (.iload_n 1, 1) := by decide +kernel
theorem dX8_fillBySeed_9 : decode cX8_fillBySeed 9 = .ok (.istore 4, 2) := by decide +kernel
theorem dX8_fillBySeed_11 : decode cX8_fillBySeed 11 = .ok (.iconst 0, 1) := by decide +kernel
theorem dX8_fillBySeed_12 : decode cX8_fillBySeed 12 = .ok (.istore 5, 2) := by decide +kernel
theorem dX8_fillBySeed_14 : decode cX8_fillBySeed 14 = .ok (.iload 5, 2) := by decide +kernel
theorem dX8_fillBySeed_16 : decode cX8_fillBySeed 16 = .ok (.iload_n 2, 1) := by decide +kernel
theorem dX8_fillBySeed_17 : decode cX8_fillBySeed 17 = .ok (.if_icmp .ge 40, 3) := by decide +kernel
theorem dX8_fillBySeed_20 : decode cX8_fillBySeed 20 = .ok (.iload_n 3, 1) := by decide +kernel
theorem dX8_fillBySeed_21 : decode cX8_fillBySeed 21 = .ok (.iload 5, 2) := by decide +kernel
theorem dX8_fillBySeed_23 : decode cX8_fillBySeed 23 = .ok (.iadd, 1) := by decide +kernel
theorem dX8_fillBySeed_24 : decode cX8_fillBySeed 24 = .ok (.aload_n 0, 1) := by decide +kernel
theorem dX8_fillBySeed_25 : decode cX8_fillBySeed 25 = .ok (.getfield 22, 3) := by decide +kernel
theorem dX8_fillBySeed_28 : decode cX8_fillBySeed 28 = .ok (.arraylength, 1) := by decide +kernel
theorem dX8_fillBySeed_29 : decode cX8_fillBySeed 29 = .ok (.if_icmp .ge 28, 3) := by decide +kernel
theorem dX8_fillBySeed_32 : decode cX8_fillBySeed 32 = .ok (.iload 4, 2) := by decide +kernel
theorem dX8_fillBySeed_34 : decode cX8_fillBySeed 34 = .ok (.invokestatic 34, 3) := by decide +kernel
theorem dX8_fillBySeed_37 : decode cX8_fillBySeed 37 = .ok (.istore 4, 2) := by decide +kernel
theorem dX8_fillBySeed_39 : decode cX8_fillBySeed 39 = .ok (.aload_n 0, 1) := by decide +kernel
theorem dX8_fillBySeed_40 : decode cX8_fillBySeed 40 = .ok (.getfield 22, 3) := by decide +kernel
theorem dX8_fillBySeed_43 : decode cX8_fillBySeed 43 = .ok (.iload_n 3, 1) := by decide +kernel
theorem dX8_fillBySeed_44 : decode cX8_fillBySeed 44 = .ok (.iload 5, 2) := by decide +kernel
theorem dX8_fillBySeed_46 : decode cX8_fillBySeed 46 = .ok (.iadd, 1) := by decide +kernel
theorem dX8_fillBySeed_47 : decode cX8_fillBySeed 47 = .ok (.iload 4, 2) := by decide +kernel
theorem dX8_fillBySeed_49 : decode cX8_fillBySeed 49 = .ok (.i2b, 1) := by decide +kernel
theorem dX8_fillBySeed_50 : decode cX8_fillBySeed 50 = .ok (.bastore, 1) := by decide +kernel
theorem dX8_fillBySeed_51 : decode cX8_fillBySeed 51 = .ok (.iinc 5 1, 3) := by decide +kernel
theorem dX8_fillBySeed_54 : decode cX8_fillBySeed 54 = .ok (.goto (-40), 3) := by decide +kernel
theorem dX8_fillBySeed_57 : decode cX8_fillBySeed 57 = .ok (.return_, 1) := by decide +kernel
theorem dX8_fillIdle_0 : decode cX8_fillIdle 0 = .ok (.aload_n 0, 1) := by decide +kernel
theorem dX8_fillIdle_1 : decode cX8_fillIdle 1 = .ok (.getfield 26, 3) := by decide +kernel
theorem dX8_fillIdle_4 : decode cX8_fillIdle 4 = .ok (.bipush 48, 2) := by decide +kernel
theorem dX8_fillIdle_6 : decode cX8_fillIdle 6 = .ok (.imul, 1) := by decide +kernel
theorem dX8_fillIdle_7 : decode cX8_fillIdle 7 = .ok (.istore_n 2, 1) := by decide +kernel
theorem dX8_fillIdle_8 : decode cX8_fillIdle 8 = .ok (.iconst 0, 1) := by decide +kernel
theorem dX8_fillIdle_9 : decode cX8_fillIdle 9 = .ok (.istore_n 3, 1) := by decide +kernel
theorem dX8_fillIdle_10 : decode cX8_fillIdle 10 = .ok (.iload_n 3, 1) := by decide +kernel
theorem dX8_fillIdle_11 : decode cX8_fillIdle 11 = .ok (.iload_n 1, 1) := by decide +kernel
theorem dX8_fillIdle_12 : decode cX8_fillIdle 12 = .ok (.if_icmp .ge 30, 3) := by decide +kernel
theorem dX8_fillIdle_15 : decode cX8_fillIdle 15 = .ok (.iload_n 2, 1) := by decide +kernel
theorem dX8_fillIdle_16 : decode cX8_fillIdle 16 = .ok (.iload_n 3, 1) := by decide +kernel
theorem dX8_fillIdle_17 : decode cX8_fillIdle 17 = .ok (.iadd, 1) := by decide +kernel
theorem dX8_fillIdle_18 : decode cX8_fillIdle 18 = .ok (.aload_n 0, 1) := by decide +kernel
theorem dX8_fillIdle_19 : decode cX8_fillIdle 19 = .ok (.getfield 22, 3) := by decide +kernel
theorem dX8_fillIdle_22 : decode cX8_fillIdle 22 = .ok (.arraylength, 1) := by decide +kernel
theorem dX8_fillIdle_23 : decode cX8_fillIdle 23 = .ok (.if_icmp .ge 19, 3) := by decide +kernel
theorem dX8_fillIdle_26 : decode cX8_fillIdle 26 = .ok (.aload_n 0, 1) := by decide +kernel
theorem dX8_fillIdle_27 : decode cX8_fillIdle 27 = .ok (.getfield 22, 3) := by decide +kernel
theorem dX8_fillIdle_30 : decode cX8_fillIdle 30 = .ok (.iload_n 2, 1) := by decide +kernel
theorem dX8_fillIdle_31 : decode cX8_fillIdle 31 = .ok (.iload_n 3, 1) := by decide +kernel
theorem dX8_fillIdle_32 : decode cX8_fillIdle 32 = .ok (.iadd, 1) := by decide +kernel
theorem dX8_fillIdle_33 : decode cX8_fillIdle 33 = .ok (.bipush 106, 2) := by decide +kernel
theorem dX8_fillIdle_35 : decode cX8_fillIdle 35 = .ok (.bastore, 1) := by decide +kernel
theorem dX8_fillIdle_36 : decode cX8_fillIdle 36 = .ok (.iinc 3 1, 3) := by decide +kernel
theorem dX8_fillIdle_39 : decode cX8_fillIdle 39 = .ok (.goto (-29), 3) := by decide +kernel
theorem dX8_fillIdle_42 : decode cX8_fillIdle 42 = .ok (.return_, 1) := by decide +kernel
theorem dX8_putCell_0 : decode cX8_putCell 0 = .ok (.aload_n 0, 1) := by decide +kernel
theorem dX8_putCell_1 : decode cX8_putCell 1 = .ok (.getfield 26, 3) := by decide +kernel
theorem dX8_putCell_4 : decode cX8_putCell 4 = .ok (.aload_n 0, 1) := by decide +kernel
theorem dX8_putCell_5 : decode cX8_putCell 5 = .ok (.getfield 18, 3) := by decide +kernel
theorem dX8_putCell_8 : decode cX8_putCell 8 = .ok (.arraylength, 1) := by decide +kernel
theorem dX8_putCell_9 : decode cX8_putCell 9 = .ok (.if_icmp .lt 4, 3) := by decide +kernel
theorem dX8_putCell_12 : decode cX8_putCell 12 = .ok (.return_, 1) := by decide +kernel
theorem dX8_putCell_13 : decode cX8_putCell 13 = .ok (.aload_n 0, 1) := by decide +kernel
theorem dX8_putCell_14 : decode cX8_putCell 14 = .ok (.getfield 26, 3) := by decide +kernel
theorem dX8_putCell_17 : decode cX8_putCell 17 = .ok (.bipush 48, 2) := by decide +kernel
theorem dX8_putCell_19 : decode cX8_putCell 19 = .ok (.imul, 1) := by decide +kernel
theorem dX8_putCell_20 : decode cX8_putCell 20 = .ok (.istore 4, 2) := by decide +kernel
theorem dX8_putCell_22 : decode cX8_putCell 22 = .ok (.aload_n 1, 1) := by decide +kernel
theorem dX8_putCell_23 : decode cX8_putCell 23 = .ok (.bipush 32, 2) := by decide +kernel
theorem dX8_putCell_25 : decode cX8_putCell 25 = .ok (.iload_n 2, 1) := by decide +kernel
theorem dX8_putCell_26 : decode cX8_putCell 26 = .ok (.invokevirtual 38, 3) := by decide +kernel
theorem dX8_putCell_29 : decode cX8_putCell 29 = .ok (.aload_n 1, 1) := by decide +kernel
theorem dX8_putCell_30 : decode cX8_putCell 30 = .ok (.bipush 8, 2) := by decide +kernel
theorem dX8_putCell_32 : decode cX8_putCell 32 = .ok (.iload_n 2, 1) := by decide +kernel
theorem dX8_putCell_33 : decode cX8_putCell 33 = .ok (.invokestatic 44, 3) := by decide +kernel
theorem dX8_putCell_36 : decode cX8_putCell 36 = .ok (.invokevirtual 38, 3) := by decide +kernel
theorem dX8_putCell_39 : decode cX8_putCell 39 = .ok (.iconst 0, 1) := by decide +kernel
theorem dX8_putCell_40 : decode cX8_putCell 40 = .ok (.istore 5, 2) := by decide +kernel
theorem dX8_putCell_42 : decode cX8_putCell 42 = .ok (.iload 5, 2) := by decide +kernel
theorem dX8_putCell_44 : decode cX8_putCell 44 = .ok (.iload_n 3, 1) := by decide +kernel
theorem dX8_putCell_45 : decode cX8_putCell 45 = .ok (.if_icmp .ge 42, 3) := by decide +kernel
theorem dX8_putCell_48 : decode cX8_putCell 48 = .ok (.iload 4, 2) := by decide +kernel
theorem dX8_putCell_50 : decode cX8_putCell 50 = .ok (.iload 5, 2) := by decide +kernel
theorem dX8_putCell_52 : decode cX8_putCell 52 = .ok (.iadd, 1) := by decide +kernel
theorem dX8_putCell_53 : decode cX8_putCell 53 = .ok (.aload_n 0, 1) := by decide +kernel
theorem dX8_putCell_54 : decode cX8_putCell 54 = .ok (.getfield 22, 3) := by decide +kernel
theorem dX8_putCell_57 : decode cX8_putCell 57 = .ok (.arraylength, 1) := by decide +kernel
theorem dX8_putCell_58 : decode cX8_putCell 58 = .ok (.if_icmp .ge 29, 3) := by decide +kernel
theorem dX8_putCell_61 : decode cX8_putCell 61 = .ok (.aload_n 1, 1) := by decide +kernel
theorem dX8_putCell_62 : decode cX8_putCell 62 = .ok (.bipush 8, 2) := by decide +kernel
theorem dX8_putCell_64 : decode cX8_putCell 64 = .ok (.aload_n 0, 1) := by decide +kernel
theorem dX8_putCell_65 : decode cX8_putCell 65 = .ok (.aload_n 0, 1) := by decide +kernel
theorem dX8_putCell_66 : decode cX8_putCell 66 = .ok (.getfield 22, 3) := by decide +kernel
theorem dX8_putCell_69 : decode cX8_putCell 69 = .ok (.iload 4, 2) := by decide +kernel
theorem dX8_putCell_71 : decode cX8_putCell 71 = .ok (.iload 5, 2) := by decide +kernel
theorem dX8_putCell_73 : decode cX8_putCell 73 = .ok (.iadd, 1) := by decide +kernel
theorem dX8_putCell_74 : decode cX8_putCell 74 = .ok (.baload, 1) := by decide +kernel
theorem dX8_putCell_75 : decode cX8_putCell 75 = .ok (.invokevirtual 49, 3) := by decide +kernel
theorem dX8_putCell_78 : decode cX8_putCell 78 = .ok (.invokevirtual 38, 3) := by decide +kernel
theorem dX8_putCell_81 : decode cX8_putCell 81 = .ok (.iinc 5 1, 3) := by decide +kernel
theorem dX8_putCell_84 : decode cX8_putCell 84 = .ok (.goto (-42), 3) := by decide +kernel
theorem dX8_putCell_87 : decode cX8_putCell 87 = .ok (.aload_n 0, 1) := by decide +kernel
theorem dX8_putCell_88 : decode cX8_putCell 88 = .ok (.getfield 18, 3) := by decide +kernel
theorem dX8_putCell_91 : decode cX8_putCell 91 = .ok (.aload_n 0, 1) := by decide +kernel
theorem dX8_putCell_92 : decode cX8_putCell 92 = .ok (.getfield 26, 3) := by decide +kernel
theorem dX8_putCell_95 : decode cX8_putCell 95 = .ok (.iload_n 2, 1) := by decide +kernel
theorem dX8_putCell_96 : decode cX8_putCell 96 = .ok (.iastore, 1) := by decide +kernel
theorem dX8_putCell_97 : decode cX8_putCell 97 = .ok (.aload_n 0, 1) := by decide +kernel
theorem dX8_putCell_98 : decode cX8_putCell 98 = .ok (.dup, 1) := by decide +kernel
theorem dX8_putCell_99 : decode cX8_putCell 99 = .ok (.getfield 26, 3) := by decide +kernel
theorem dX8_putCell_102 : decode cX8_putCell 102 = .ok (.iconst 1, 1) := by decide +kernel
theorem dX8_putCell_103 : decode cX8_putCell 103 = .ok (.iadd, 1) := by decide +kernel
theorem dX8_putCell_104 : decode cX8_putCell 104 = .ok (.putfield 26, 3) := by decide +kernel
theorem dX8_putCell_107 : decode cX8_putCell 107 = .ok (.return_, 1) := by decide +kernel
theorem dX8_scrambled_0 : decode cX8_scrambled 0 = .ok (.iconst 0, 1) := by decide +kernel
theorem dX8_scrambled_1 : decode cX8_scrambled 1 = .ok (.istore_n 2, 1) := by decide +kernel
theorem dX8_scrambled_2 : decode cX8_scrambled 2 = .ok (.bipush 7, 2) := by decide +kernel
theorem dX8_scrambled_4 : decode cX8_scrambled 4 = .ok (.istore_n 3, 1) := by decide +kernel
theorem dX8_scrambled_5 : decode cX8_scrambled 5 = .ok (.iload_n 3, 1) := by decide +kernel
theorem dX8_scrambled_6 : decode cX8_scrambled 6 = .ok (.ifCond .lt 40, 3) := by decide +kernel
theorem dX8_scrambled_9 : decode cX8_scrambled 9 = .ok (.iload_n 1, 1) := by decide +kernel
theorem dX8_scrambled_10 : decode cX8_scrambled 10 = .ok (.iload_n 3, 1) := by decide +kernel
theorem dX8_scrambled_11 : decode cX8_scrambled 11 = .ok (.iushr, 1) := by decide +kernel
theorem dX8_scrambled_12 : decode cX8_scrambled 12 = .ok (.iconst 1, 1) := by decide +kernel
theorem dX8_scrambled_13 : decode cX8_scrambled 13 = .ok (.iand, 1) := by decide +kernel
theorem dX8_scrambled_14 : decode cX8_scrambled 14 = .ok (.aload_n 0, 1) := by decide +kernel
theorem dX8_scrambled_15 : decode cX8_scrambled 15 = .ok (.getfield 12, 3) := by decide +kernel
theorem dX8_scrambled_18 : decode cX8_scrambled 18 = .ok (.invokevirtual 52, 3) := by decide +kernel
theorem dX8_scrambled_21 : decode cX8_scrambled 21 = .ok (.ixor, 1) := by decide +kernel
theorem dX8_scrambled_22 : decode cX8_scrambled 22 = .ok (.istore 4, 2) := by decide +kernel
theorem dX8_scrambled_24 : decode cX8_scrambled 24 = .ok (.aload_n 0, 1) := by decide +kernel
theorem dX8_scrambled_25 : decode cX8_scrambled 25 = .ok (.getfield 12, 3) := by decide +kernel
theorem dX8_scrambled_28 : decode cX8_scrambled 28 = .ok (.iload 4, 2) := by decide +kernel
theorem dX8_scrambled_30 : decode cX8_scrambled 30 = .ok (.invokevirtual 56, 3) := by decide +kernel
theorem dX8_scrambled_33 : decode cX8_scrambled 33 = .ok (.iload_n 2, 1) := by decide +kernel
theorem dX8_scrambled_34 : decode cX8_scrambled 34 = .ok (.iconst 1, 1) := by decide +kernel
theorem dX8_scrambled_35 : decode cX8_scrambled 35 = .ok (.ishl, 1) := by decide +kernel
theorem dX8_scrambled_36 : decode cX8_scrambled 36 = .ok (.iload 4, 2) := by decide +kernel
theorem dX8_scrambled_38 : decode cX8_scrambled 38 = .ok (.ior, 1) := by decide +kernel
theorem dX8_scrambled_39 : decode cX8_scrambled 39 = .ok (.istore_n 2, 1) := by decide +kernel
theorem dX8_scrambled_40 : decode cX8_scrambled 40 = .ok (.iinc 3 (-1), 3) := by decide +kernel
theorem dX8_scrambled_43 : decode cX8_scrambled 43 = .ok (.goto (-38), 3) := by decide +kernel
theorem dX8_scrambled_46 : decode cX8_scrambled 46 = .ok (.iload_n 2, 1) := by decide +kernel
theorem dX8_scrambled_47 : decode cX8_scrambled 47 = .ok (.ireturn, 1) := by decide +kernel
theorem dX8_firstLike_0 : decode cX8_firstLike 0 = .ok (.iconst 0, 1) := by decide +kernel
theorem dX8_firstLike_1 : decode cX8_firstLike 1 = .ok (.istore 5, 2) := by decide +kernel
theorem dX8_firstLike_3 : decode cX8_firstLike 3 = .ok (.iload 5, 2) := by decide +kernel
theorem dX8_firstLike_5 : decode cX8_firstLike 5 = .ok (.aload_n 0, 1) := by decide +kernel
theorem dX8_firstLike_6 : decode cX8_firstLike 6 = .ok (.getfield 26, 3) := by decide +kernel
theorem dX8_firstLike_9 : decode cX8_firstLike 9 = .ok (.if_icmp .ge 46, 3) := by decide +kernel
theorem dX8_firstLike_12 : decode cX8_firstLike 12 = .ok (.iload 5, 2) := by decide +kernel
theorem dX8_firstLike_14 : decode cX8_firstLike 14 = .ok (.aload_n 0, 1) := by decide +kernel
theorem dX8_firstLike_15 : decode cX8_firstLike 15 = .ok (.getfield 18, 3) := by decide +kernel
theorem dX8_firstLike_18 : decode cX8_firstLike 18 = .ok (.arraylength, 1) := by decide +kernel
theorem dX8_firstLike_19 : decode cX8_firstLike 19 = .ok (.if_icmp .ge 36, 3) := by decide +kernel
theorem dX8_firstLike_22 : decode cX8_firstLike 22 = .ok (.aload_n 0, 1) := by decide +kernel
theorem dX8_firstLike_23 : decode cX8_firstLike 23 = .ok (.getfield 18, 3) := by decide +kernel
theorem dX8_firstLike_26 : decode cX8_firstLike 26 = .ok (.iload 5, 2) := by decide +kernel
theorem dX8_firstLike_28 : decode cX8_firstLike 28 = .ok (.iaload, 1) := by decide +kernel
theorem dX8_firstLike_29 : decode cX8_firstLike 29 = .ok (.iload_n 1, 1) := by decide +kernel
theorem dX8_firstLike_30 : decode cX8_firstLike 30 = .ok (.if_icmp .ne 19, 3) := by decide +kernel
theorem dX8_firstLike_33 : decode cX8_firstLike 33 = .ok (.aload_n 0, 1) := by decide +kernel
theorem dX8_firstLike_34 : decode cX8_firstLike 34 = .ok (.iload 5, 2) := by decide +kernel
theorem dX8_firstLike_36 : decode cX8_firstLike 36 = .ok (.aload_n 2, 1) := by decide +kernel
theorem dX8_firstLike_37 : decode cX8_firstLike 37 = .ok (.iload_n 3, 1) := by decide +kernel
theorem dX8_firstLike_38 : decode cX8_firstLike 38 = .ok (.iload 4, 2) := by decide +kernel
theorem dX8_firstLike_40 : decode cX8_firstLike 40 = .ok (.invokevirtual 60, 3) := by decide +kernel
theorem dX8_firstLike_43 : decode cX8_firstLike 43 = .ok (.ifCond .eq 6, 3) := by decide +kernel
theorem dX8_firstLike_46 : decode cX8_firstLike 46 = .ok (.iload 5, 2) := by decide +kernel
theorem dX8_firstLike_48 : decode cX8_firstLike 48 = .ok (.ireturn, 1) := by decide +kernel
theorem dX8_firstLike_49 : decode cX8_firstLike 49 = .ok (.iinc 5 1, 3) := by decide +kernel
theorem dX8_firstLike_52 : decode cX8_firstLike 52 = .ok (.goto (-49), 3) := by decide +kernel
theorem dX8_firstLike_55 : decode cX8_firstLike 55 = .ok (.iconst (-1), 1) := by decide +kernel
theorem dX8_firstLike_56 : decode cX8_firstLike 56 = .ok (.ireturn, 1) := by decide +kernel
theorem dX8_isLoadLike_0 : decode cX8_isLoadLike 0 = .ok (.iload_n 1, 1) := by decide +kernel
theorem dX8_isLoadLike_1 : decode cX8_isLoadLike 1 = .ok (.bipush 48, 2) := by decide +kernel
theorem dX8_isLoadLike_3 : decode cX8_isLoadLike 3 = .ok (.imul, 1) := by decide +kernel
theorem dX8_isLoadLike_4 : decode cX8_isLoadLike 4 = .ok (.istore 5, 2) := by decide +kernel
theorem dX8_isLoadLike_6 : decode cX8_isLoadLike 6 = .ok (.iload_n 3, 1) := by decide +kernel
theorem dX8_isLoadLike_7 : decode cX8_isLoadLike 7 = .ok (.ifCond .lt 25, 3) := by decide +kernel
theorem dX8_isLoadLike_10 : decode cX8_isLoadLike 10 = .ok (.iload 4, 2) := by decide +kernel
theorem dX8_isLoadLike_12 : decode cX8_isLoadLike 12 = .ok (.aload_n 2, 1) := by decide +kernel
theorem dX8_isLoadLike_13 : decode cX8_isLoadLike 13 = .ok (.arraylength, 1) := by decide +kernel
theorem dX8_isLoadLike_14 : decode cX8_isLoadLike 14 = .ok (.iload_n 3, 1) := by decide +kernel
theorem dX8_isLoadLike_15 : decode cX8_isLoadLike 15 = .ok (.isub, 1) := by decide +kernel
theorem dX8_isLoadLike_16 : decode cX8_isLoadLike 16 = .ok (.if_icmp .gt 16, 3) := by decide +kernel
theorem dX8_isLoadLike_19 : decode cX8_isLoadLike 19 = .ok (.iload 4, 2) := by decide +kernel
theorem dX8_isLoadLike_21 : decode cX8_isLoadLike 21 = .ok (.aload_n 0, 1) := by decide +kernel
theorem dX8_isLoadLike_22 : decode cX8_isLoadLike 22 = .ok (.getfield 22, 3) := by decide +kernel
theorem dX8_isLoadLike_25 : decode cX8_isLoadLike 25 = .ok (.arraylength, 1) := by decide +kernel
theorem dX8_isLoadLike_26 : decode cX8_isLoadLike 26 = .ok (.iload 5, 2) := by decide +kernel
theorem dX8_isLoadLike_28 : decode cX8_isLoadLike 28 = .ok (.isub, 1) := by decide +kernel
theorem dX8_isLoadLike_29 : decode cX8_isLoadLike 29 = .ok (.if_icmp .le 5, 3) := by decide +kernel
theorem dX8_isLoadLike_32 : decode cX8_isLoadLike 32 = .ok (.iconst 0, 1) := by decide +kernel
theorem dX8_isLoadLike_33 : decode cX8_isLoadLike 33 = .ok (.ireturn, 1) := by decide +kernel
theorem dX8_isLoadLike_34 : decode cX8_isLoadLike 34 = .ok (.iconst 0, 1) := by decide +kernel
theorem dX8_isLoadLike_35 : decode cX8_isLoadLike 35 = .ok (.istore 6, 2) := by decide +kernel
theorem dX8_isLoadLike_37 : decode cX8_isLoadLike 37 = .ok (.iload 6, 2) := by decide +kernel
theorem dX8_isLoadLike_39 : decode cX8_isLoadLike 39 = .ok (.iload 4, 2) := by decide +kernel
theorem dX8_isLoadLike_41 : decode cX8_isLoadLike 41 = .ok (.if_icmp .ge 30, 3) := by decide +kernel
theorem dX8_isLoadLike_44 : decode cX8_isLoadLike 44 = .ok (.aload_n 0, 1) := by decide +kernel
theorem dX8_isLoadLike_45 : decode cX8_isLoadLike 45 = .ok (.getfield 22, 3) := by decide +kernel
theorem dX8_isLoadLike_48 : decode cX8_isLoadLike 48 = .ok (.iload 5, 2) := by decide +kernel
theorem dX8_isLoadLike_50 : decode cX8_isLoadLike 50 = .ok (.iload 6, 2) := by decide +kernel
theorem dX8_isLoadLike_52 : decode cX8_isLoadLike 52 = .ok (.iadd, 1) := by decide +kernel
theorem dX8_isLoadLike_53 : decode cX8_isLoadLike 53 = .ok (.baload, 1) := by decide +kernel
theorem dX8_isLoadLike_54 : decode cX8_isLoadLike 54 = .ok (.aload_n 2, 1) := by decide +kernel
theorem dX8_isLoadLike_55 : decode cX8_isLoadLike 55 = .ok (.iload_n 3, 1) := by decide +kernel
theorem dX8_isLoadLike_56 : decode cX8_isLoadLike 56 = .ok (.iload 6, 2) := by decide +kernel
theorem dX8_isLoadLike_58 : decode cX8_isLoadLike 58 = .ok (.iadd, 1) := by decide +kernel
theorem dX8_isLoadLike_59 : decode cX8_isLoadLike 59 = .ok (.baload, 1) := by decide +kernel
theorem dX8_isLoadLike_60 : decode cX8_isLoadLike 60 = .ok (.if_icmp .eq 5, 3) := by decide +kernel
theorem dX8_isLoadLike_63 : decode cX8_isLoadLike 63 = .ok (.iconst 0, 1) := by decide +kernel
theorem dX8_isLoadLike_64 : decode cX8_isLoadLike 64 = .ok (.ireturn, 1) := by decide +kernel
theorem dX8_isLoadLike_65 : decode cX8_isLoadLike 65 = .ok (.iinc 6 1, 3) := by decide +kernel
theorem dX8_isLoadLike_68 : decode cX8_isLoadLike 68 = .ok (.goto (-31), 3) := by decide +kernel
theorem dX8_isLoadLike_71 : decode cX8_isLoadLike 71 = .ok (.iconst 1, 1) := by decide +kernel
theorem dX8_isLoadLike_72 : decode cX8_isLoadLike 72 = .ok (.ireturn, 1) := by decide +kernel
theorem dX9_init_0 : decode cX9_init 0 = .ok (.aload_n 0, 1) := by decide +kernel
theorem dX9_init_1 : decode cX9_init 1 = .ok (.invokespecial 3, 3) := by decide +kernel
theorem dX9_init_4 : decode cX9_init 4 = .ok (.aload_n 0, 1) := by decide +kernel
theorem dX9_init_5 : decode cX9_init 5 = .ok (.bipush 41, 2) := by decide +kernel
theorem dX9_init_7 : decode cX9_init 7 = .ok (.newarray .long, 2) := by decide +kernel
theorem dX9_init_9 : decode cX9_init 9 = .ok (.putfield 9, 3) := by decide +kernel
theorem dX9_init_12 : decode cX9_init 12 = .ok (.aload_n 0, 1) := by decide +kernel
theorem dX9_init_13 : decode cX9_init 13 = .ok (.bipush 41, 2) := by decide +kernel
theorem dX9_init_15 : decode cX9_init 15 = .ok (.newarray .long, 2) := by decide +kernel
theorem dX9_init_17 : decode cX9_init 17 = .ok (.putfield 15, 3) := by decide +kernel
theorem dX9_init_20 : decode cX9_init 20 = .ok (.aload_n 0, 1) := by decide +kernel
theorem dX9_init_21 : decode cX9_init 21 = .ok (.bipush 41, 2) := by decide +kernel
theorem dX9_init_23 : decode cX9_init 23 = .ok (.newarray .int, 2) := by decide +kernel
theorem dX9_init_25 : decode cX9_init 25 = .ok (.putfield 18, 3) := by decide +kernel
theorem dX9_init_28 : decode cX9_init 28 = .ok (.aload_n 0, 1) := by decide +kernel
theorem dX9_init_29 : decode cX9_init 29 = .ok (.iconst 0, 1) := by decide +kernel
theorem dX9_init_30 : decode cX9_init 30 = .ok (.putfield 22, 3) := by decide +kernel
theorem dX9_init_33 : decode cX9_init 33 = .ok (.return_, 1) := by decide +kernel
theorem dX9_rowsOf_0 : decode cX9_rowsOf 0 = .ok (.lconst 1, 1) := by decide +kernel
theorem dX9_rowsOf_1 : decode cX9_rowsOf 1 = .ok (.lstore_n 1, 1) := by decide +kernel
theorem dX9_rowsOf_2 : decode cX9_rowsOf 2 = .ok (.iconst 0, 1) := by decide +kernel
theorem dX9_rowsOf_3 : decode cX9_rowsOf 3 = .ok (.istore_n 3, 1) := by decide +kernel
theorem dX9_rowsOf_4 : decode cX9_rowsOf 4 = .ok (.iload_n 3, 1) := by decide +kernel
theorem dX9_rowsOf_5 : decode cX9_rowsOf 5 = .ok (.iload_n 0, 1) := by decide +kernel
theorem dX9_rowsOf_6 : decode cX9_rowsOf 6 = .ok (.if_icmp .ge 22, 3) := by decide +kernel
theorem dX9_rowsOf_9 : decode cX9_rowsOf 9 = .ok (.lload_n 1, 1) := by decide +kernel
theorem dX9_rowsOf_10 : decode cX9_rowsOf 10 = .ok (.bipush 40, 2) := by decide +kernel
theorem dX9_rowsOf_12 : decode cX9_rowsOf 12 = .ok (.iload_n 3, 1) := by decide +kernel
theorem dX9_rowsOf_13 : decode cX9_rowsOf 13 = .ok (.isub, 1) := by decide +kernel
theorem dX9_rowsOf_14 : decode cX9_rowsOf 14 = .ok (.i2l, 1) := by decide +kernel
theorem dX9_rowsOf_15 : decode cX9_rowsOf 15 = .ok (.lmul, 1) := by decide +kernel
theorem dX9_rowsOf_16 : decode cX9_rowsOf 16 = .ok (.iload_n 3, 1) := by decide +kernel
theorem dX9_rowsOf_17 : decode cX9_rowsOf 17 = .ok (.iconst 1, 1) := by decide +kernel
theorem dX9_rowsOf_18 : decode cX9_rowsOf 18 = .ok (.iadd, 1) := by decide +kernel
theorem dX9_rowsOf_19 : decode cX9_rowsOf 19 = .ok (.i2l, 1) := by decide +kernel
theorem dX9_rowsOf_20 : decode cX9_rowsOf 20 = .ok (.ldiv, 1) := by decide +kernel
theorem dX9_rowsOf_21 : decode cX9_rowsOf 21 = .ok (.lstore_n 1, 1) := by decide +kernel
theorem dX9_rowsOf_22 : decode cX9_rowsOf 22 = .ok (.iinc 3 1, 3) := by decide +kernel
theorem dX9_rowsOf_25 : decode cX9_rowsOf 25 = .ok (.goto (-21), 3) := by decide +kernel
theorem dX9_rowsOf_28 : decode cX9_rowsOf 28 = .ok (.lload_n 1, 1) := by decide +kernel
theorem dX9_rowsOf_29 : decode cX9_rowsOf 29 = .ok (.lreturn, 1) := by decide +kernel
theorem dX9_wordsOf_0 : decode cX9_wordsOf 0 = .ok (.aload_n 0, 1) := by decide +kernel
theorem dX9_wordsOf_1 : decode cX9_wordsOf 1 = .ok (.getfield 22, 3) := by decide +kernel
theorem dX9_wordsOf_4 : decode cX9_wordsOf 4 = .ok (.ifCond .ne 12, 3) := by decide +kernel
theorem dX9_wordsOf_7 : decode cX9_wordsOf 7 = .ok (.aload_n 0, 1) := by decide +kernel
theorem dX9_wordsOf_8 : decode cX9_wordsOf 8 = .ok (.invokevirtual 26, 3) := by decide +kernel
theorem dX9_wordsOf_11 : decode cX9_wordsOf 11 = .ok (.aload_n 0, 1) := by decide +kernel
theorem dX9_wordsOf_12 : decode cX9_wordsOf 12 = .ok (.iconst 1, 1) := by decide +kernel
theorem dX9_wordsOf_13 : decode cX9_wordsOf 13 = .ok (.putfield 22, 3) := by decide +kernel
theorem dX9_wordsOf_16 : decode cX9_wordsOf 16 = .ok (.iload_n 1, 1) := by decide +kernel
theorem dX9_wordsOf_17 : decode cX9_wordsOf 17 = .ok (.ifCond .lt 21, 3) := by decide +kernel
theorem dX9_wordsOf_20 : decode cX9_wordsOf 20 = .ok (.iload_n 1, 1) := by decide +kernel
theorem dX9_wordsOf_21 : decode cX9_wordsOf 21 = .ok (.aload_n 0, 1) := by decide +kernel
theorem dX9_wordsOf_22 : decode cX9_wordsOf 22 = .ok (.getfield 9, 3) := by decide +kernel
theorem dX9_wordsOf_25 : decode cX9_wordsOf 25 = .ok (.arraylength, 1) := by decide +kernel
theorem dX9_wordsOf_26 : decode cX9_wordsOf 26 = .ok (.if_icmp .ge 12, 3) := by decide +kernel
theorem dX9_wordsOf_29 : decode cX9_wordsOf 29 = .ok (.aload_n 0, 1) := by decide +kernel
theorem dX9_wordsOf_30 : decode cX9_wordsOf 30 = .ok (.getfield 9, 3) := by decide +kernel
theorem dX9_wordsOf_33 : decode cX9_wordsOf 33 = .ok (.iload_n 1, 1) := by decide +kernel
theorem dX9_wordsOf_34 : decode cX9_wordsOf 34 = .ok (.laload, 1) := by decide +kernel
theorem dX9_wordsOf_35 : decode cX9_wordsOf 35 = .ok (.goto 4, 3) := by decide +kernel
theorem dX9_wordsOf_38 : decode cX9_wordsOf 38 = .ok (.lconst 0, 1) := by decide +kernel
theorem dX9_wordsOf_39 : decode cX9_wordsOf 39 = .ok (.lreturn, 1) := by decide +kernel
theorem dX9_oneBitOff_0 : decode cX9_oneBitOff 0 = .ok (.bipush 41, 2) := by decide +kernel
theorem dX9_oneBitOff_2 : decode cX9_oneBitOff 2 = .ok (.iload_n 1, 1) := by decide +kernel
theorem dX9_oneBitOff_3 : decode cX9_oneBitOff 3 = .ok (.isub, 1) := by decide +kernel
theorem dX9_oneBitOff_4 : decode cX9_oneBitOff 4 = .ok (.i2l, 1) := by decide +kernel
theorem dX9_oneBitOff_5 : decode cX9_oneBitOff 5 = .ok (.aload_n 0, 1) := by decide +kernel
theorem dX9_oneBitOff_6 : decode cX9_oneBitOff 6 = .ok (.iload_n 1, 1) := by decide +kernel
theorem dX9_oneBitOff_7 : decode cX9_oneBitOff 7 = .ok (.iconst 1, 1) := by decide +kernel
theorem dX9_oneBitOff_8 : decode cX9_oneBitOff 8 = .ok (.isub, 1) := by decide +kernel
theorem dX9_oneBitOff_9 : decode cX9_oneBitOff 9 = .ok (.invokevirtual 29, 3) := by decide +kernel
theorem dX9_oneBitOff_12 : decode cX9_oneBitOff 12 = .ok (.lmul, 1) := by decide +kernel
theorem dX9_oneBitOff_13 : decode cX9_oneBitOff 13 = .ok (.iload_n 1, 1) := by decide +kernel
theorem dX9_oneBitOff_14 : decode cX9_oneBitOff 14 = .ok (.iconst 1, 1) := by decide +kernel
theorem dX9_oneBitOff_15 : decode cX9_oneBitOff 15 = .ok (.iadd, 1) := by decide +kernel
theorem dX9_oneBitOff_16 : decode cX9_oneBitOff 16 = .ok (.i2l, 1) := by decide +kernel
theorem dX9_oneBitOff_17 : decode cX9_oneBitOff 17 = .ok (.aload_n 0, 1) := by decide +kernel
theorem dX9_oneBitOff_18 : decode cX9_oneBitOff 18 = .ok (.iload_n 1, 1) := by decide +kernel
theorem dX9_oneBitOff_19 : decode cX9_oneBitOff 19 = .ok (.iconst 1, 1) := by decide +kernel
theorem dX9_oneBitOff_20 : decode cX9_oneBitOff 20 = .ok (.iadd, 1) := by decide +kernel
theorem dX9_oneBitOff_21 : decode cX9_oneBitOff 21 = .ok (.invokevirtual 29, 3) := by decide +kernel
theorem dX9_oneBitOff_24 : decode cX9_oneBitOff 24 = .ok (.lmul, 1) := by decide +kernel
theorem dX9_oneBitOff_25 : decode cX9_oneBitOff 25 = .ok (.ladd, 1) := by decide +kernel
theorem dX9_oneBitOff_26 : decode cX9_oneBitOff 26 = .ok (.lreturn, 1) := by decide +kernel
theorem dX9_countWords_0 : decode cX9_countWords 0 = .ok (.aload_n 0, 1) := by decide +kernel
theorem dX9_countWords_1 : decode cX9_countWords 1 = .ok (.invokevirtual 33, 3) := by decide +kernel
theorem dX9_countWords_4 : decode cX9_countWords 4 = .ok (.iconst 0, 1) := by decide +kernel
theorem dX9_countWords_5 : decode cX9_countWords 5 = .ok (.istore_n 1, 1) := by decide +kernel
theorem dX9_countWords_6 : decode cX9_countWords 6 = .ok (.iload_n 1, 1) := by decide +kernel
theorem dX9_countWords_7 : decode cX9_countWords 7 = .ok (.bipush 40, 2) := by decide +kernel
theorem dX9_countWords_9 : decode cX9_countWords 9 = .ok (.if_icmp .gt 60, 3) := by decide +kernel
theorem dX9_countWords_12 : decode cX9_countWords 12 = .ok (.aload_n 0, 1) := by decide +kernel
theorem dX9_countWords_13 : decode cX9_countWords 13 = .ok (.getfield 18, 3) := by decide +kernel
theorem dX9_countWords_16 : decode cX9_countWords 16 = .ok (.iload_n 1, 1) := by decide +kernel
theorem dX9_countWords_17 : decode cX9_countWords 17 = .ok (.iaload, 1) := by decide +kernel
theorem dX9_countWords_18 : decode cX9_countWords 18 = .ok (.ifCond .le 45, 3) := by decide +kernel
theorem dX9_countWords_21 : decode cX9_countWords 21 = .ok (.aload_n 0, 1) := by decide +kernel
theorem dX9_countWords_22 : decode cX9_countWords 22 = .ok (.iload_n 1, 1) := by decide +kernel
theorem dX9_countWords_23 : decode cX9_countWords 23 = .ok (.invokevirtual 36, 3) := by decide +kernel
theorem dX9_countWords_26 : decode cX9_countWords 26 = .ok (.iconst 0, 1) := by decide +kernel
theorem dX9_countWords_27 : decode cX9_countWords 27 = .ok (.istore_n 2, 1) := by decide +kernel
theorem dX9_countWords_28 : decode cX9_countWords 28 = .ok (.iload_n 2, 1) := by decide +kernel
theorem dX9_countWords_29 : decode cX9_countWords 29 = .ok (.bipush 40, 2) := by decide +kernel
theorem dX9_countWords_31 : decode cX9_countWords 31 = .ok (.if_icmp .gt 32, 3) := by decide +kernel
theorem dX9_countWords_34 : decode cX9_countWords 34 = .ok (.aload_n 0, 1) := by decide +kernel
theorem dX9_countWords_35 : decode cX9_countWords 35 = .ok (.getfield 9, 3) := by decide +kernel
theorem dX9_countWords_38 : decode cX9_countWords 38 = .ok (.iload_n 2, 1) := by decide +kernel
theorem dX9_countWords_39 : decode cX9_countWords 39 = .ok (.dup2, 1) := by decide +kernel
theorem dX9_countWords_40 : decode cX9_countWords 40 = .ok (.laload, 1) := by decide +kernel
theorem dX9_countWords_41 : decode cX9_countWords 41 = .ok (.aload_n 0, 1) := by decide +kernel
theorem dX9_countWords_42 : decode cX9_countWords 42 = .ok (.getfield 18, 3) := by decide +kernel
theorem dX9_countWords_45 : decode cX9_countWords 45 = .ok (.iload_n 1, 1) := by decide +kernel
theorem dX9_countWords_46 : decode cX9_countWords 46 = .ok (.iaload, 1) := by decide +kernel
theorem dX9_countWords_47 : decode cX9_countWords 47 = .ok (.i2l, 1) := by decide +kernel
theorem dX9_countWords_48 : decode cX9_countWords 48 = .ok (.aload_n 0, 1) := by decide +kernel
theorem dX9_countWords_49 : decode cX9_countWords 49 = .ok (.getfield 15, 3) := by decide +kernel
theorem dX9_countWords_52 : decode cX9_countWords 52 = .ok (.iload_n 2, 1) := by decide +kernel
theorem dX9_countWords_53 : decode cX9_countWords 53 = .ok (.laload, 1) := by decide +kernel
theorem dX9_countWords_54 : decode cX9_countWords 54 = .ok (.lmul, 1) := by decide +kernel
theorem dX9_countWords_55 : decode cX9_countWords 55 = .ok (.ladd, 1) := by decide +kernel
theorem dX9_countWords_56 : decode cX9_countWords 56 = .ok (.lastore, 1) := by decide +kernel
theorem dX9_countWords_57 : decode cX9_countWords 57 = .ok (.iinc 2 1, 3) := by decide +kernel
theorem dX9_countWords_60 : decode cX9_countWords 60 = .ok (.goto (-32), 3) := by decide +kernel
theorem dX9_countWords_63 : decode cX9_countWords 63 = .ok (.iinc 1 1, 3) := by decide +kernel
theorem dX9_countWords_66 : decode cX9_countWords 66 = .ok (.goto (-60), 3) := by decide +kernel
theorem dX9_countWords_69 : decode cX9_countWords 69 = .ok (.iconst 0, 1) := by decide +kernel
theorem dX9_countWords_70 : decode cX9_countWords 70 = .ok (.istore_n 1, 1) := by decide +kernel
theorem dX9_countWords_71 : decode cX9_countWords 71 = .ok (.iload_n 1, 1) := by decide +kernel
theorem dX9_countWords_72 : decode cX9_countWords 72 = .ok (.bipush 40, 2) := by decide +kernel
theorem dX9_countWords_74 : decode cX9_countWords 74 = .ok (.if_icmp .gt 21, 3) := by decide +kernel
theorem dX9_countWords_77 : decode cX9_countWords 77 = .ok (.aload_n 0, 1) := by decide +kernel
theorem dX9_countWords_78 : decode cX9_countWords 78 = .ok (.getfield 9, 3) := by decide +kernel
theorem dX9_countWords_81 : decode cX9_countWords 81 = .ok (.iload_n 1, 1) := by decide +kernel
theorem dX9_countWords_82 : decode cX9_countWords 82 = .ok (.dup2, 1) := by decide +kernel
theorem dX9_countWords_83 : decode cX9_countWords 83 = .ok (.laload, 1) := by decide +kernel
theorem dX9_countWords_84 : decode cX9_countWords 84 = .ok (.ldc2_w 40, 3) := by decide +kernel
theorem dX9_countWords_87 : decode cX9_countWords 87 = .ok (.ldiv, 1) := by decide +kernel
theorem dX9_countWords_88 : decode cX9_countWords 88 = .ok (.lastore, 1) := by decide +kernel
theorem dX9_countWords_89 : decode cX9_countWords 89 = .ok (.iinc 1 1, 3) := by decide +kernel
theorem dX9_countWords_92 : decode cX9_countWords 92 = .ok (.goto (-21), 3) := by decide +kernel
theorem dX9_countWords_95 : decode cX9_countWords 95 = .ok (.return_, 1) := by decide +kernel
theorem dX9_countMasks_0 : decode cX9_countMasks 0 = .ok (.iconst 0, 1) := by decide +kernel
theorem dX9_countMasks_1 : decode cX9_countMasks 1 = .ok (.istore_n 1, 1) := by decide +kernel
theorem dX9_countMasks_2 : decode cX9_countMasks 2 = .ok (.iload_n 1, 1) := by decide +kernel
theorem dX9_countMasks_3 : decode cX9_countMasks 3 = .ok (.sipush 256, 3) := by decide +kernel
theorem dX9_countMasks_6 : decode cX9_countMasks 6 = .ok (.if_icmp .ge 64, 3) := by decide +kernel
theorem dX9_countMasks_9 : decode cX9_countMasks 9 = .ok (.iconst 0, 1) := by decide +kernel
theorem dX9_countMasks_10 : decode cX9_countMasks 10 = .ok (.istore_n 2, 1) := by decide +kernel
theorem dX9_countMasks_11 : decode cX9_countMasks 11 = .ok (.iconst 1, 1) := by decide +kernel
theorem dX9_countMasks_12 : decode cX9_countMasks 12 = .ok (.istore_n 3, 1) := by decide +kernel
theorem dX9_countMasks_13 : decode cX9_countMasks 13 = .ok (.iconst 0, 1) := by decide +kernel
theorem dX9_countMasks_14 : decode cX9_countMasks 14 = .ok (.istore 4, 2) := by decide +kernel
theorem dX9_countMasks_16 : decode cX9_countMasks 16 = .ok (.iload 4, 2) := by decide +kernel
theorem dX9_countMasks_18 : decode cX9_countMasks 18 = .ok (.bipush 40, 2) := by decide +kernel
theorem dX9_countMasks_20 : decode cX9_countMasks 20 = .ok (.if_icmp .ge 25, 3) := by decide +kernel
theorem dX9_countMasks_23 : decode cX9_countMasks 23 = .ok (.iload_n 2, 1) := by decide +kernel
theorem dX9_countMasks_24 : decode cX9_countMasks 24 = .ok (.iload_n 3, 1) := by decide +kernel
theorem dX9_countMasks_25 : decode cX9_countMasks 25 = .ok (.iload_n 1, 1) := by decide +kernel
theorem dX9_countMasks_26 : decode cX9_countMasks 26 = .ok (.iand, 1) := by decide +kernel
theorem dX9_countMasks_27 : decode cX9_countMasks 27 = .ok (.invokestatic 42, 3) := by decide +kernel
theorem dX9_countMasks_30 : decode cX9_countMasks 30 = .ok (.iconst 1, 1) := by decide +kernel
theorem dX9_countMasks_31 : decode cX9_countMasks 31 = .ok (.iand, 1) := by decide +kernel
theorem dX9_countMasks_32 : decode cX9_countMasks 32 = .ok (.iadd, 1) := by decide +kernel
theorem dX9_countMasks_33 : decode cX9_countMasks 33 = .ok (.istore_n 2, 1) := by decide +kernel
theorem dX9_countMasks_34 : decode cX9_countMasks 34 = .ok (.iload_n 3, 1) := by decide +kernel
theorem dX9_countMasks_35 : decode cX9_countMasks 35 = .ok (.invokestatic 48, 3) := by decide +kernel
theorem dX9_countMasks_38 : decode cX9_countMasks 38 = .ok (.istore_n 3, 1) := by decide +kernel
theorem dX9_countMasks_39 : decode cX9_countMasks 39 = .ok (.iinc 4 1, 3) := by decide +kernel
theorem dX9_countMasks_42 : decode cX9_countMasks 42 = .ok (.goto (-26), 3) := by decide +kernel
theorem dX9_countMasks_45 : decode cX9_countMasks 45 = .ok (.iload_n 2, 1) := by decide +kernel
theorem dX9_countMasks_46 : decode cX9_countMasks 46 = .ok (.aload_n 0, 1) := by decide +kernel
theorem dX9_countMasks_47 : decode cX9_countMasks 47 = .ok (.getfield 18, 3) := by decide +kernel
theorem dX9_countMasks_50 : decode cX9_countMasks 50 = .ok (.arraylength, 1) := by decide +kernel
theorem dX9_countMasks_51 : decode cX9_countMasks 51 = .ok (.if_icmp .ge 13, 3) := by decide +kernel
theorem dX9_countMasks_54 : decode cX9_countMasks 54 = .ok (.aload_n 0, 1) := by decide +kernel
theorem dX9_countMasks_55 : decode cX9_countMasks 55 = .ok (.getfield 18, 3) := by decide +kernel
theorem dX9_countMasks_58 : decode cX9_countMasks 58 = .ok (.iload_n 2, 1) := by decide +kernel
theorem dX9_countMasks_59 : decode cX9_countMasks 59 = .ok (.dup2, 1) := by decide +kernel
theorem dX9_countMasks_60 : decode cX9_countMasks 60 = .ok (.iaload, 1) := by decide +kernel
theorem dX9_countMasks_61 : decode cX9_countMasks 61 = .ok (.iconst 1, 1) := by decide +kernel
theorem dX9_countMasks_62 : decode cX9_countMasks 62 = .ok (.iadd, 1) := by decide +kernel
theorem dX9_countMasks_63 : decode cX9_countMasks 63 = .ok (.iastore, 1) := by decide +kernel
theorem dX9_countMasks_64 : decode cX9_countMasks 64 = .ok (.iinc 1 1, 3) := by decide +kernel
theorem dX9_countMasks_67 : decode cX9_countMasks 67 = .ok (.goto (-65), 3) := by decide +kernel
theorem dX9_countMasks_70 : decode cX9_countMasks 70 = .ok (.return_, 1) := by decide +kernel
theorem dX9_addUpSigns_0 : decode cX9_addUpSigns 0 = .ok (.aload_n 0, 1) := by decide +kernel
theorem dX9_addUpSigns_1 : decode cX9_addUpSigns 1 = .ok (.getfield 15, 3) := by decide +kernel
theorem dX9_addUpSigns_4 : decode cX9_addUpSigns 4 = .ok (.lconst 0, 1) := by decide +kernel
theorem dX9_addUpSigns_5 : decode cX9_addUpSigns 5 = .ok (.invokestatic 53, 3) := by decide +kernel
theorem dX9_addUpSigns_8 : decode cX9_addUpSigns 8 = .ok (.aload_n 0, 1) := by decide +kernel
theorem dX9_addUpSigns_9 : decode cX9_addUpSigns 9 = .ok (.getfield 15, 3) := by decide +kernel
theorem dX9_addUpSigns_12 : decode cX9_addUpSigns 12 = .ok (.iconst 0, 1) := by decide +kernel
theorem dX9_addUpSigns_13 : decode cX9_addUpSigns 13 = .ok (.lconst 1, 1) := by decide +kernel
theorem dX9_addUpSigns_14 : decode cX9_addUpSigns 14 = .ok (.lastore, 1) := by decide +kernel
theorem dX9_addUpSigns_15 : decode cX9_addUpSigns 15 = .ok (.iconst 0, 1) := by decide +kernel
theorem dX9_addUpSigns_16 : decode cX9_addUpSigns 16 = .ok (.istore_n 2, 1) := by decide +kernel
theorem dX9_addUpSigns_17 : decode cX9_addUpSigns 17 = .ok (.iload_n 2, 1) := by decide +kernel
theorem dX9_addUpSigns_18 : decode cX9_addUpSigns 18 = .ok (.bipush 40, 2) := by decide +kernel
theorem dX9_addUpSigns_20 : decode cX9_addUpSigns 20 = .ok (.if_icmp .ge 57, 3) := by decide +kernel
theorem dX9_addUpSigns_23 : decode cX9_addUpSigns 23 = .ok (.iload_n 2, 1) := by decide +kernel
theorem dX9_addUpSigns_24 : decode cX9_addUpSigns 24 = .ok (.iconst 1, 1) := by decide +kernel
theorem dX9_addUpSigns_25 : decode cX9_addUpSigns 25 = .ok (.iadd, 1) := by decide +kernel
theorem dX9_addUpSigns_26 : decode cX9_addUpSigns 26 = .ok (.istore_n 3, 1) := by decide +kernel
theorem dX9_addUpSigns_27 : decode cX9_addUpSigns 27 = .ok (.iload_n 3, 1) := by decide +kernel
theorem dX9_addUpSigns_28 : decode cX9_addUpSigns 28 = .ok (.ifCond .le 43, 3) := by decide +kernel
theorem dX9_addUpSigns_31 : decode cX9_addUpSigns 31 = .ok (.aload_n 0, 1) := by decide +kernel
theorem dX9_addUpSigns_32 : decode cX9_addUpSigns 32 = .ok (.getfield 15, 3) := by decide +kernel
theorem dX9_addUpSigns_35 : decode cX9_addUpSigns 35 = .ok (.iload_n 3, 1) := by decide +kernel
theorem dX9_addUpSigns_36 : decode cX9_addUpSigns 36 = .ok (.dup2, 1) := by decide +kernel
theorem dX9_addUpSigns_37 : decode cX9_addUpSigns 37 = .ok (.laload, 1) := by decide +kernel
theorem dX9_addUpSigns_38 : decode cX9_addUpSigns 38 = .ok (.iload_n 2, 1) := by decide +kernel
theorem dX9_addUpSigns_39 : decode cX9_addUpSigns 39 = .ok (.iload_n 1, 1) := by decide +kernel
theorem dX9_addUpSigns_40 : decode cX9_addUpSigns 40 = .ok (.if_icmp .ge 15, 3) := by decide +kernel
theorem dX9_addUpSigns_43 : decode cX9_addUpSigns 43 = .ok (.aload_n 0, 1) := by decide +kernel
theorem dX9_addUpSigns_44 : decode cX9_addUpSigns 44 = .ok (.getfield 15, 3) := by decide +kernel
theorem dX9_addUpSigns_47 : decode cX9_addUpSigns 47 = .ok (.iload_n 3, 1) := by decide +kernel
theorem dX9_addUpSigns_48 : decode cX9_addUpSigns 48 = .ok (.iconst 1, 1) := by decide +kernel
theorem dX9_addUpSigns_49 : decode cX9_addUpSigns 49 = .ok (.isub, 1) := by decide +kernel
theorem dX9_addUpSigns_50 : decode cX9_addUpSigns 50 = .ok (.laload, 1) := by decide +kernel
theorem dX9_addUpSigns_51 : decode cX9_addUpSigns 51 = .ok (.lneg, 1) := by decide +kernel
theorem dX9_addUpSigns_52 : decode cX9_addUpSigns 52 = .ok (.goto 11, 3) := by decide +kernel
theorem dX9_addUpSigns_55 : decode cX9_addUpSigns 55 = .ok (.aload_n 0, 1) := by decide +kernel
theorem dX9_addUpSigns_56 : decode cX9_addUpSigns 56 = .ok (.getfield 15, 3) := by decide +kernel
theorem dX9_addUpSigns_59 : decode cX9_addUpSigns 59 = .ok (.iload_n 3, 1) := by decide +kernel
theorem dX9_addUpSigns_60 : decode cX9_addUpSigns 60 = .ok (.iconst 1, 1) := by decide +kernel
theorem dX9_addUpSigns_61 : decode cX9_addUpSigns 61 = .ok (.isub, 1) := by decide +kernel
theorem dX9_addUpSigns_62 : decode cX9_addUpSigns 62 = .ok (.laload, 1) := by decide +kernel
theorem dX9_addUpSigns_63 : decode cX9_addUpSigns 63 = .ok (.ladd, 1) := by decide +kernel
theorem dX9_addUpSigns_64 : decode cX9_addUpSigns 64 = .ok (.lastore, 1) := by decide +kernel
theorem dX9_addUpSigns_65 : decode cX9_addUpSigns 65 = .ok (.iinc 3 (-1), 3) := by decide +kernel
theorem dX9_addUpSigns_68 : decode cX9_addUpSigns 68 = .ok (.goto (-41), 3) := by decide +kernel
theorem dX9_addUpSigns_71 : decode cX9_addUpSigns 71 = .ok (.iinc 2 1, 3) := by decide +kernel
theorem dX9_addUpSigns_74 : decode cX9_addUpSigns 74 = .ok (.goto (-57), 3) := by decide +kernel
theorem dX9_addUpSigns_77 : decode cX9_addUpSigns 77 = .ok (.return_, 1) := by decide +kernel
theorem dX10_init_0 : decode cX10_init 0 = .ok (.aload_n 0, 1) := by decide +kernel
theorem dX10_init_1 : decode cX10_init 1 = .ok (.invokespecial 3, 3) := by decide +kernel
theorem dX10_init_4 : decode cX10_init 4 = .ok (.aload_n 0, 1) := by decide +kernel
theorem dX10_init_5 : decode cX10_init 5 = .ok (.lconst 0, 1) := by decide +kernel
theorem dX10_init_6 : decode cX10_init 6 = .ok (.putfield 9, 3) := by decide +kernel
theorem dX10_init_9 : decode cX10_init 9 = .ok (.aload_n 0, 1) := by decide +kernel
theorem dX10_init_10 : decode cX10_init 10 = .ok (.iconst 0, 1) := by decide +kernel
theorem dX10_init_11 : decode cX10_init 11 = .ok (.putfield 15, 3) := by decide +kernel
theorem dX10_init_14 : decode cX10_init 14 = .ok (.aload_n 0, 1) := by decide +kernel
theorem dX10_init_15 : decode cX10_init 15 = .ok (.iconst 0, 1) := by decide +kernel
theorem dX10_init_16 : decode cX10_init 16 = .ok (.putfield 19, 3) := by decide +kernel
theorem dX10_init_19 : decode cX10_init 19 = .ok (.return_, 1) := by decide +kernel
theorem dX10_clear_0 : decode cX10_clear 0 = .ok (.aload_n 0, 1) := by decide +kernel
theorem dX10_clear_1 : decode cX10_clear 1 = .ok (.lconst 0, 1) := by decide +kernel
theorem dX10_clear_2 : decode cX10_clear 2 = .ok (.putfield 9, 3) := by decide +kernel
theorem dX10_clear_5 : decode cX10_clear 5 = .ok (.aload_n 0, 1) := by decide +kernel
theorem dX10_clear_6 : decode cX10_clear 6 = .ok (.iconst 0, 1) := by decide +kernel
theorem dX10_clear_7 : decode cX10_clear 7 = .ok (.putfield 15, 3) := by decide +kernel
theorem dX10_clear_10 : decode cX10_clear 10 = .ok (.aload_n 0, 1) := by decide +kernel
theorem dX10_clear_11 : decode cX10_clear 11 = .ok (.iconst 0, 1) := by decide +kernel
theorem dX10_clear_12 : decode cX10_clear 12 = .ok (.putfield 19, 3) := by decide +kernel
theorem dX10_clear_15 : decode cX10_clear 15 = .ok (.return_, 1) := by decide +kernel
theorem dX10_mirror_0 : decode cX10_mirror 0 = .ok (.aload_n 0, 1) := by decide +kernel
theorem dX10_mirror_1 : decode cX10_mirror 1 = .ok (.aload_n 1, 1) := by decide +kernel
theorem dX10_mirror_2 : decode cX10_mirror 2 = .ok (.getfield 9, 3) := by decide +kernel
theorem dX10_mirror_5 : decode cX10_mirror 5 = .ok (.putfield 9, 3) := by decide +kernel
theorem dX10_mirror_8 : decode cX10_mirror 8 = .ok (.aload_n 0, 1) := by decide +kernel
theorem dX10_mirror_9 : decode cX10_mirror 9 = .ok (.aload_n 1, 1) := by decide +kernel
theorem dX10_mirror_10 : decode cX10_mirror 10 = .ok (.getfield 15, 3) := by decide +kernel
theorem dX10_mirror_13 : decode cX10_mirror 13 = .ok (.putfield 15, 3) := by decide +kernel
theorem dX10_mirror_16 : decode cX10_mirror 16 = .ok (.aload_n 0, 1) := by decide +kernel
theorem dX10_mirror_17 : decode cX10_mirror 17 = .ok (.aload_n 1, 1) := by decide +kernel
theorem dX10_mirror_18 : decode cX10_mirror 18 = .ok (.getfield 19, 3) := by decide +kernel
theorem dX10_mirror_21 : decode cX10_mirror 21 = .ok (.putfield 19, 3) := by decide +kernel
theorem dX10_mirror_24 : decode cX10_mirror 24 = .ok (.return_, 1) := by decide +kernel
theorem dX10_push_0 : decode cX10_push 0 = .ok (.aload_n 0, 1) := by decide +kernel
theorem dX10_push_1 : decode cX10_push 1 = .ok (.getfield 9, 3) := by decide +kernel
theorem dX10_push_4 : decode cX10_push 4 = .ok (.bipush 39, 2) := by decide +kernel
theorem dX10_push_6 : decode cX10_push 6 = .ok (.lushr, 1) := by decide +kernel
theorem dX10_push_7 : decode cX10_push 7 = .ok (.lconst 0, 1) := by decide +kernel
theorem dX10_push_8 : decode cX10_push 8 = .ok (.lcmp, 1) := by decide +kernel
theorem dX10_push_9 : decode cX10_push 9 = .ok (.ifCond .ne 7, 3) := by decide +kernel
theorem dX10_push_12 : decode cX10_push 12 = .ok (.iconst 0, 1) := by decide +kernel
theorem dX10_push_13 : decode cX10_push 13 = .ok (.goto 5, 3) := by decide +kernel
theorem dX10_push_16 : decode cX10_push 16 = .ok (.bipush 98, 2) := by decide +kernel
theorem dX10_push_18 : decode cX10_push 18 = .ok (.istore_n 2, 1) := by decide +kernel
theorem dX10_push_19 : decode cX10_push 19 = .ok (.aload_n 0, 1) := by decide +kernel
theorem dX10_push_20 : decode cX10_push 20 = .ok (.aload_n 0, 1) := by decide +kernel
theorem dX10_push_21 : decode cX10_push 21 = .ok (.getfield 9, 3) := by decide +kernel
theorem dX10_push_24 : decode cX10_push 24 = .ok (.iconst 1, 1) := by decide +kernel
theorem dX10_push_25 : decode cX10_push 25 = .ok (.lshl, 1) := by decide +kernel
theorem dX10_push_26 : decode cX10_push 26 = .ok (.iload_n 1, 1) := by decide +kernel
theorem dX10_push_27 : decode cX10_push 27 = .ok (.i2l, 1) := by decide +kernel
theorem dX10_push_28 : decode cX10_push 28 = .ok (.lor, 1) := by decide +kernel
theorem dX10_push_29 : decode cX10_push 29 = .ok (.ldc2_w 22, 3) := by decide +kernel
theorem dX10_push_32 : decode cX10_push 32 = .ok (.land, 1) := by decide +kernel
theorem dX10_push_33 : decode cX10_push 33 = .ok (.putfield 9, 3) := by decide +kernel
theorem dX10_push_36 : decode cX10_push 36 = .ok (.aload_n 0, 1) := by decide +kernel
theorem dX10_push_37 : decode cX10_push 37 = .ok (.aload_n 0, 1) := by decide +kernel
theorem dX10_push_38 : decode cX10_push 38 = .ok (.getfield 15, 3) := by decide +kernel
theorem dX10_push_41 : decode cX10_push 41 = .ok (.invokestatic 24, 3) := by decide +kernel
theorem dX10_push_44 : decode cX10_push 44 = .ok (.iload_n 1, 1) := by decide +kernel
theorem dX10_push_45 : decode cX10_push 45 = .ok (.ixor, 1) := by decide +kernel
theorem dX10_push_46 : decode cX10_push 46 = .ok (.iload_n 2, 1) := by decide +kernel
theorem dX10_push_47 : decode cX10_push 47 = .ok (.ixor, 1) := by decide +kernel
theorem dX10_push_48 : decode cX10_push 48 = .ok (.putfield 15, 3) := by decide +kernel
theorem dX10_push_51 : decode cX10_push 51 = .ok (.aload_n 0, 1) := by decide +kernel
theorem dX10_push_52 : decode cX10_push 52 = .ok (.dup, 1) := by decide +kernel
theorem dX10_push_53 : decode cX10_push 53 = .ok (.getfield 19, 3) := by decide +kernel
theorem dX10_push_56 : decode cX10_push 56 = .ok (.iconst 1, 1) := by decide +kernel
theorem dX10_push_57 : decode cX10_push 57 = .ok (.iadd, 1) := by decide +kernel
theorem dX10_push_58 : decode cX10_push 58 = .ok (.putfield 19, 3) := by decide +kernel
theorem dX10_push_61 : decode cX10_push 61 = .ok (.return_, 1) := by decide +kernel
theorem dX10_isFull_0 : decode cX10_isFull 0 = .ok (.aload_n 0, 1) := by decide +kernel
theorem dX10_isFull_1 : decode cX10_isFull 1 = .ok (.getfield 19, 3) := by decide +kernel
theorem dX10_isFull_4 : decode cX10_isFull 4 = .ok (.bipush 40, 2) := by decide +kernel
theorem dX10_isFull_6 : decode cX10_isFull 6 = .ok (.if_icmp .lt 7, 3) := by decide +kernel
theorem dX10_isFull_9 : decode cX10_isFull 9 = .ok (.iconst 1, 1) := by decide +kernel
theorem dX10_isFull_10 : decode cX10_isFull 10 = .ok (.goto 4, 3) := by decide +kernel
theorem dX10_isFull_13 : decode cX10_isFull 13 = .ok (.iconst 0, 1) := by decide +kernel
theorem dX10_isFull_14 : decode cX10_isFull 14 = .ok (.ireturn, 1) := by decide +kernel
theorem dX10_looksRight_0 : decode cX10_looksRight 0 = .ok (.aload_n 0, 1) := by decide +kernel
theorem dX10_looksRight_1 : decode cX10_looksRight 1 = .ok (.getfield 15, 3) := by decide +kernel
theorem dX10_looksRight_4 : decode cX10_looksRight 4 = .ok (.bipush 85, 2) := by decide +kernel
theorem dX10_looksRight_6 : decode cX10_looksRight 6 = .ok (.if_icmp .ne 16, 3) := by decide +kernel
theorem dX10_looksRight_9 : decode cX10_looksRight 9 = .ok (.aload_n 0, 1) := by decide +kernel
theorem dX10_looksRight_10 : decode cX10_looksRight 10 = .ok (.getfield 19, 3) := by decide +kernel
theorem dX10_looksRight_13 : decode cX10_looksRight 13 = .ok (.bipush 40, 2) := by decide +kernel
theorem dX10_looksRight_15 : decode cX10_looksRight 15 = .ok (.if_icmp .lt 7, 3) := by decide +kernel
theorem dX10_looksRight_18 : decode cX10_looksRight 18 = .ok (.iconst 1, 1) := by decide +kernel
theorem dX10_looksRight_19 : decode cX10_looksRight 19 = .ok (.goto 4, 3) := by decide +kernel
theorem dX10_looksRight_22 : decode cX10_looksRight 22 = .ok (.iconst 0, 1) := by decide +kernel
theorem dX10_looksRight_23 : decode cX10_looksRight 23 = .ok (.ireturn, 1) := by decide +kernel
theorem dX10_syndromeNow_0 : decode cX10_syndromeNow 0 = .ok (.aload_n 0, 1) := by decide +kernel
theorem dX10_syndromeNow_1 : decode cX10_syndromeNow 1 = .ok (.getfield 15, 3) := by decide +kernel
theorem dX10_syndromeNow_4 : decode cX10_syndromeNow 4 = .ok (.bipush 85, 2) := by decide +kernel
theorem dX10_syndromeNow_6 : decode cX10_syndromeNow 6 = .ok (.ixor, 1) := by decide +kernel
theorem dX10_syndromeNow_7 : decode cX10_syndromeNow 7 = .ok (.ireturn, 1) := by decide +kernel
theorem dX10_headerNow_0 : decode cX10_headerNow 0 = .ok (.aload_n 0, 1) := by decide +kernel
theorem dX10_headerNow_1 : decode cX10_headerNow 1 = .ok (.getfield 9, 3) := by decide +kernel
theorem dX10_headerNow_4 : decode cX10_headerNow 4 = .ok (.bipush 8, 2) := by decide +kernel
theorem dX10_headerNow_6 : decode cX10_headerNow 6 = .ok (.lushr, 1) := by decide +kernel
theorem dX10_headerNow_7 : decode cX10_headerNow 7 = .ok (.l2i, 1) := by decide +kernel
theorem dX10_headerNow_8 : decode cX10_headerNow 8 = .ok (.ireturn, 1) := by decide +kernel
theorem dJ6_bitCount_0f7a4_0 : decode cJ6_bitCount_0f7a4 0 = .ok (.iload_n 0, 1) := by decide +kernel
theorem dJ6_bitCount_0f7a4_1 : decode cJ6_bitCount_0f7a4 1 = .ok (.iload_n 0, 1) := by decide +kernel
theorem dJ6_bitCount_0f7a4_2 : decode cJ6_bitCount_0f7a4 2 = .ok (.iconst 1, 1) := by decide +kernel
theorem dJ6_bitCount_0f7a4_3 : decode cJ6_bitCount_0f7a4 3 = .ok (.iushr, 1) := by decide +kernel
theorem dJ6_bitCount_0f7a4_4 : decode cJ6_bitCount_0f7a4 4 = .ok (.ldc_w 265, 3) := by decide +kernel
theorem dJ6_bitCount_0f7a4_7 : decode cJ6_bitCount_0f7a4 7 = .ok (.iand, 1) := by decide +kernel
theorem dJ6_bitCount_0f7a4_8 : decode cJ6_bitCount_0f7a4 8 = .ok (.isub, 1) := by decide +kernel
theorem dJ6_bitCount_0f7a4_9 : decode cJ6_bitCount_0f7a4 9 = .ok (.istore_n 0, 1) := by decide +kernel
theorem dJ6_bitCount_0f7a4_10 : decode cJ6_bitCount_0f7a4 10 = .ok (.iload_n 0, 1) := by decide +kernel
theorem dJ6_bitCount_0f7a4_11 : decode cJ6_bitCount_0f7a4 11 = .ok (.ldc_w 266, 3) := by decide +kernel
theorem dJ6_bitCount_0f7a4_14 : decode cJ6_bitCount_0f7a4 14 = .ok (.iand, 1) := by decide +kernel
theorem dJ6_bitCount_0f7a4_15 : decode cJ6_bitCount_0f7a4 15 = .ok (.iload_n 0, 1) := by decide +kernel
theorem dJ6_bitCount_0f7a4_16 : decode cJ6_bitCount_0f7a4 16 = .ok (.iconst 2, 1) := by decide +kernel
theorem dJ6_bitCount_0f7a4_17 : decode cJ6_bitCount_0f7a4 17 = .ok (.iushr, 1) := by decide +kernel
theorem dJ6_bitCount_0f7a4_18 : decode cJ6_bitCount_0f7a4 18 = .ok (.ldc_w 266, 3) := by decide +kernel
theorem dJ6_bitCount_0f7a4_21 : decode cJ6_bitCount_0f7a4 21 = .ok (.iand, 1) := by decide +kernel
theorem dJ6_bitCount_0f7a4_22 : decode cJ6_bitCount_0f7a4 22 = .ok (.iadd, 1) := by decide +kernel
theorem dJ6_bitCount_0f7a4_23 : decode cJ6_bitCount_0f7a4 23 = .ok (.istore_n 0, 1) := by decide +kernel
theorem dJ6_bitCount_0f7a4_24 : decode cJ6_bitCount_0f7a4 24 = .ok (.iload_n 0, 1) := by decide +kernel
theorem dJ6_bitCount_0f7a4_25 : decode cJ6_bitCount_0f7a4 25 = .ok (.iload_n 0, 1) := by decide +kernel
theorem dJ6_bitCount_0f7a4_26 : decode cJ6_bitCount_0f7a4 26 = .ok (.iconst 4, 1) := by decide +kernel
theorem dJ6_bitCount_0f7a4_27 : decode cJ6_bitCount_0f7a4 27 = .ok (.iushr, 1) := by decide +kernel
theorem dJ6_bitCount_0f7a4_28 : decode cJ6_bitCount_0f7a4 28 = .ok (.iadd, 1) := by decide +kernel
theorem dJ6_bitCount_0f7a4_29 : decode cJ6_bitCount_0f7a4 29 = .ok (.ldc_w 267, 3) := by decide +kernel
theorem dJ6_bitCount_0f7a4_32 : decode cJ6_bitCount_0f7a4 32 = .ok (.iand, 1) := by decide +kernel
theorem dJ6_bitCount_0f7a4_33 : decode cJ6_bitCount_0f7a4 33 = .ok (.istore_n 0, 1) := by decide +kernel
theorem dJ6_bitCount_0f7a4_34 : decode cJ6_bitCount_0f7a4 34 = .ok (.iload_n 0, 1) := by decide +kernel
theorem dJ6_bitCount_0f7a4_35 : decode cJ6_bitCount_0f7a4 35 = .ok (.iload_n 0, 1) := by decide +kernel
theorem dJ6_bitCount_0f7a4_36 : decode cJ6_bitCount_0f7a4 36 = .ok (.bipush 8, 2) := by decide +kernel
theorem dJ6_bitCount_0f7a4_38 : decode cJ6_bitCount_0f7a4 38 = .ok (.iushr, 1) := by decide +kernel
theorem dJ6_bitCount_0f7a4_39 : decode cJ6_bitCount_0f7a4 39 = .ok (.iadd, 1) := by decide +kernel
theorem dJ6_bitCount_0f7a4_40 : decode cJ6_bitCount_0f7a4 40 = .ok (.istore_n 0, 1) := by decide +kernel
theorem dJ6_bitCount_0f7a4_41 : decode cJ6_bitCount_0f7a4 41 = .ok (.iload_n 0, 1) := by decide +kernel
theorem dJ6_bitCount_0f7a4_42 : decode cJ6_bitCount_0f7a4 42 = .ok (.iload_n 0, 1) := by decide +kernel
theorem dJ6_bitCount_0f7a4_43 : decode cJ6_bitCount_0f7a4 43 = .ok (.bipush 16, 2) := by decide +kernel
theorem dJ6_bitCount_0f7a4_45 : decode cJ6_bitCount_0f7a4 45 = .ok (.iushr, 1) := by decide +kernel
theorem dJ6_bitCount_0f7a4_46 : decode cJ6_bitCount_0f7a4 46 = .ok (.iadd, 1) := by decide +kernel
theorem dJ6_bitCount_0f7a4_47 : decode cJ6_bitCount_0f7a4 47 = .ok (.istore_n 0, 1) := by decide +kernel
theorem dJ6_bitCount_0f7a4_48 : decode cJ6_bitCount_0f7a4 48 = .ok (.iload_n 0, 1) := by decide +kernel
theorem dJ6_bitCount_0f7a4_49 : decode cJ6_bitCount_0f7a4 49 = .ok (.bipush 63, 2) := by decide +kernel
theorem dJ6_bitCount_0f7a4_51 : decode cJ6_bitCount_0f7a4 51 = .ok (.iand, 1) := by decide +kernel
theorem dJ6_bitCount_0f7a4_52 : decode cJ6_bitCount_0f7a4 52 = .ok (.ireturn, 1) := by decide +kernel
theorem dJ13_bitCount_95d88_0 : decode cJ13_bitCount_95d88 0 = .ok (.lload_n 0, 1) := by decide +kernel
theorem dJ13_bitCount_95d88_1 : decode cJ13_bitCount_95d88 1 = .ok (.lload_n 0, 1) := by decide +kernel
theorem dJ13_bitCount_95d88_2 : decode cJ13_bitCount_95d88 2 = .ok (.iconst 1, 1) := by decide +kernel
theorem dJ13_bitCount_95d88_3 : decode cJ13_bitCount_95d88 3 = .ok (.lushr, 1) := by decide +kernel
theorem dJ13_bitCount_95d88_4 : decode cJ13_bitCount_95d88 4 = .ok (.ldc2_w 314, 3) := by decide +kernel
theorem dJ13_bitCount_95d88_7 : decode cJ13_bitCount_95d88 7 = .ok (.land, 1) := by decide +kernel
theorem dJ13_bitCount_95d88_8 : decode cJ13_bitCount_95d88 8 = .ok (.lsub, 1) := by decide +kernel
theorem dJ13_bitCount_95d88_9 : decode cJ13_bitCount_95d88 9 = .ok (.lstore_n 0, 1) := by decide +kernel
theorem dJ13_bitCount_95d88_10 : decode cJ13_bitCount_95d88 10 = .ok (.lload_n 0, 1) := by decide +kernel
theorem dJ13_bitCount_95d88_11 : decode cJ13_bitCount_95d88 11 = .ok (.ldc2_w 316, 3) := by decide +kernel
theorem dJ13_bitCount_95d88_14 : decode cJ13_bitCount_95d88 14 = .ok (.land, 1) := by decide +kernel
theorem dJ13_bitCount_95d88_15 : decode cJ13_bitCount_95d88 15 = .ok (.lload_n 0, 1) := by decide +kernel
theorem dJ13_bitCount_95d88_16 : decode cJ13_bitCount_95d88 16 = .ok (.iconst 2, 1) := by decide +kernel
theorem dJ13_bitCount_95d88_17 : decode cJ13_bitCount_95d88 17 = .ok (.lushr, 1) := by decide +kernel
theorem dJ13_bitCount_95d88_18 : decode cJ13_bitCount_95d88 18 = .ok (.ldc2_w 316, 3) := by decide +kernel
theorem dJ13_bitCount_95d88_21 : decode cJ13_bitCount_95d88 21 = .ok (.land, 1) := by decide +kernel
theorem dJ13_bitCount_95d88_22 : decode cJ13_bitCount_95d88 22 = .ok (.ladd, 1) := by decide +kernel
theorem dJ13_bitCount_95d88_23 : decode cJ13_bitCount_95d88 23 = .ok (.lstore_n 0, 1) := by decide +kernel
theorem dJ13_bitCount_95d88_24 : decode cJ13_bitCount_95d88 24 = .ok (.lload_n 0, 1) := by decide +kernel
theorem dJ13_bitCount_95d88_25 : decode cJ13_bitCount_95d88 25 = .ok (.lload_n 0, 1) := by decide +kernel
theorem dJ13_bitCount_95d88_26 : decode cJ13_bitCount_95d88 26 = .ok (.iconst 4, 1) := by decide +kernel
theorem dJ13_bitCount_95d88_27 : decode cJ13_bitCount_95d88 27 = .ok (.lushr, 1) := by decide +kernel
theorem dJ13_bitCount_95d88_28 : decode cJ13_bitCount_95d88 28 = .ok (.ladd, 1) := by decide +kernel
theorem dJ13_bitCount_95d88_29 : decode cJ13_bitCount_95d88 29 = .ok (.ldc2_w 318, 3) := by decide +kernel
theorem dJ13_bitCount_95d88_32 : decode cJ13_bitCount_95d88 32 = .ok (.land, 1) := by decide +kernel
theorem dJ13_bitCount_95d88_33 : decode cJ13_bitCount_95d88 33 = .ok (.lstore_n 0, 1) := by decide +kernel
theorem dJ13_bitCount_95d88_34 : decode cJ13_bitCount_95d88 34 = .ok (.lload_n 0, 1) := by decide +kernel
theorem dJ13_bitCount_95d88_35 : decode cJ13_bitCount_95d88 35 = .ok (.lload_n 0, 1) := by decide +kernel
theorem dJ13_bitCount_95d88_36 : decode cJ13_bitCount_95d88 36 = .ok (.bipush 8, 2) := by decide +kernel
theorem dJ13_bitCount_95d88_38 : decode cJ13_bitCount_95d88 38 = .ok (.lushr, 1) := by decide +kernel
theorem dJ13_bitCount_95d88_39 : decode cJ13_bitCount_95d88 39 = .ok (.ladd, 1) := by decide +kernel
theorem dJ13_bitCount_95d88_40 : decode cJ13_bitCount_95d88 40 = .ok (.lstore_n 0, 1) := by decide +kernel
theorem dJ13_bitCount_95d88_41 : decode cJ13_bitCount_95d88 41 = .ok (.lload_n 0, 1) := by decide +kernel
theorem dJ13_bitCount_95d88_42 : decode cJ13_bitCount_95d88 42 = .ok (.lload_n 0, 1) := by decide +kernel
theorem dJ13_bitCount_95d88_43 : decode cJ13_bitCount_95d88 43 = .ok (.bipush 16, 2) := by decide +kernel
theorem dJ13_bitCount_95d88_45 : decode cJ13_bitCount_95d88 45 = .ok (.lushr, 1) := by decide +kernel
theorem dJ13_bitCount_95d88_46 : decode cJ13_bitCount_95d88 46 = .ok (.ladd, 1) := by decide +kernel
theorem dJ13_bitCount_95d88_47 : decode cJ13_bitCount_95d88 47 = .ok (.lstore_n 0, 1) := by decide +kernel
theorem dJ13_bitCount_95d88_48 : decode cJ13_bitCount_95d88 48 = .ok (.lload_n 0, 1) := by decide +kernel
theorem dJ13_bitCount_95d88_49 : decode cJ13_bitCount_95d88 49 = .ok (.lload_n 0, 1) := by decide +kernel
theorem dJ13_bitCount_95d88_50 : decode cJ13_bitCount_95d88 50 = .ok (.bipush 32, 2) := by decide +kernel
theorem dJ13_bitCount_95d88_52 : decode cJ13_bitCount_95d88 52 = .ok (.lushr, 1) := by decide +kernel
theorem dJ13_bitCount_95d88_53 : decode cJ13_bitCount_95d88 53 = .ok (.ladd, 1) := by decide +kernel
theorem dJ13_bitCount_95d88_54 : decode cJ13_bitCount_95d88 54 = .ok (.lstore_n 0, 1) := by decide +kernel
theorem dJ13_bitCount_95d88_55 : decode cJ13_bitCount_95d88 55 = .ok (.lload_n 0, 1) := by decide +kernel
theorem dJ13_bitCount_95d88_56 : decode cJ13_bitCount_95d88 56 = .ok (.l2i, 1) := by decide +kernel
theorem dJ13_bitCount_95d88_57 : decode cJ13_bitCount_95d88 57 = .ok (.bipush 127, 2) := by decide +kernel
theorem dJ13_bitCount_95d88_59 : decode cJ13_bitCount_95d88 59 = .ok (.iand, 1) := by decide +kernel
theorem dJ13_bitCount_95d88_60 : decode cJ13_bitCount_95d88 60 = .ok (.ireturn, 1) := by decide +kernel
theorem dJ9_max_7cf53_0 : decode cJ9_max_7cf53 0 = .ok (.iload_n 0, 1) := by decide +kernel
theorem dJ9_max_7cf53_1 : decode cJ9_max_7cf53 1 = .ok (.iload_n 1, 1) := by decide +kernel
theorem dJ9_max_7cf53_2 : decode cJ9_max_7cf53 2 = .ok (.if_icmp .lt 7, 3) := by decide +kernel
theorem dJ9_max_7cf53_5 : decode cJ9_max_7cf53 5 = .ok (.iload_n 0, 1) := by decide +kernel
theorem dJ9_max_7cf53_6 : decode cJ9_max_7cf53 6 = .ok (.goto 4, 3) := by decide +kernel
theorem dJ9_max_7cf53_9 : decode cJ9_max_7cf53 9 = .ok (.iload_n 1, 1) := by decide +kernel
theorem dJ9_max_7cf53_10 : decode cJ9_max_7cf53 10 = .ok (.ireturn, 1) := by decide +kernel
theorem dJ9_min_7cf53_0 : decode cJ9_min_7cf53 0 = .ok (.iload_n 0, 1) := by decide +kernel
theorem dJ9_min_7cf53_1 : decode cJ9_min_7cf53 1 = .ok (.iload_n 1, 1) := by decide +kernel
theorem dJ9_min_7cf53_2 : decode cJ9_min_7cf53 2 = .ok (.if_icmp .gt 7, 3) := by decide +kernel
theorem dJ9_min_7cf53_5 : decode cJ9_min_7cf53 5 = .ok (.iload_n 0, 1) := by decide +kernel
theorem dJ9_min_7cf53_6 : decode cJ9_min_7cf53 6 = .ok (.goto 4, 3) := by decide +kernel
theorem dJ9_min_7cf53_9 : decode cJ9_min_7cf53 9 = .ok (.iload_n 1, 1) := by decide +kernel
theorem dJ9_min_7cf53_10 : decode cJ9_min_7cf53 10 = .ok (.ireturn, 1) := by decide +kernel
theorem dJ7_fill_d0a16_0 : decode cJ7_fill_d0a16 0 = .ok (.iconst 0, 1) := by decide +kernel
theorem dJ7_fill_d0a16_1 : decode cJ7_fill_d0a16 1 = .ok (.istore_n 3, 1) := by decide +kernel
theorem dJ7_fill_d0a16_2 : decode cJ7_fill_d0a16 2 = .ok (.aload_n 0, 1) := by decide +kernel
theorem dJ7_fill_d0a16_3 : decode cJ7_fill_d0a16 3 = .ok (.arraylength, 1) := by decide +kernel
theorem dJ7_fill_d0a16_4 : decode cJ7_fill_d0a16 4 = .ok (.istore 4, 2) := by decide +kernel
theorem dJ7_fill_d0a16_6 : decode cJ7_fill_d0a16 6 = .ok (.iload_n 3, 1) := by decide +kernel
theorem dJ7_fill_d0a16_7 : decode cJ7_fill_d0a16 7 = .ok (.iload 4, 2) := by decide +kernel
theorem dJ7_fill_d0a16_9 : decode cJ7_fill_d0a16 9 = .ok (.if_icmp .ge 13, 3) := by decide +kernel
theorem dJ7_fill_d0a16_12 : decode cJ7_fill_d0a16 12 = .ok (.aload_n 0, 1) := by decide +kernel
theorem dJ7_fill_d0a16_13 : decode cJ7_fill_d0a16 13 = .ok (.iload_n 3, 1) := by decide +kernel
theorem dJ7_fill_d0a16_14 : decode cJ7_fill_d0a16 14 = .ok (.lload_n 1, 1) := by decide +kernel
theorem dJ7_fill_d0a16_15 : decode cJ7_fill_d0a16 15 = .ok (.lastore, 1) := by decide +kernel
theorem dJ7_fill_d0a16_16 : decode cJ7_fill_d0a16 16 = .ok (.iinc 3 1, 3) := by decide +kernel
theorem dJ7_fill_d0a16_19 : decode cJ7_fill_d0a16 19 = .ok (.goto (-13), 3) := by decide +kernel
theorem dJ7_fill_d0a16_22 : decode cJ7_fill_d0a16 22 = .ok (.return_, 1) := by decide +kernel
theorem dJ7_fill_53178_0 : decode cJ7_fill_53178 0 = .ok (.iconst 0, 1) := by decide +kernel
theorem dJ7_fill_53178_1 : decode cJ7_fill_53178 1 = .ok (.istore_n 2, 1) := by decide +kernel
theorem dJ7_fill_53178_2 : decode cJ7_fill_53178 2 = .ok (.aload_n 0, 1) := by decide +kernel
theorem dJ7_fill_53178_3 : decode cJ7_fill_53178 3 = .ok (.arraylength, 1) := by decide +kernel
theorem dJ7_fill_53178_4 : decode cJ7_fill_53178 4 = .ok (.istore_n 3, 1) := by decide +kernel
theorem dJ7_fill_53178_5 : decode cJ7_fill_53178 5 = .ok (.iload_n 2, 1) := by decide +kernel
theorem dJ7_fill_53178_6 : decode cJ7_fill_53178 6 = .ok (.iload_n 3, 1) := by decide +kernel
theorem dJ7_fill_53178_7 : decode cJ7_fill_53178 7 = .ok (.if_icmp .ge 13, 3) := by decide +kernel
theorem dJ7_fill_53178_10 : decode cJ7_fill_53178 10 = .ok (.aload_n 0, 1) := by decide +kernel
theorem dJ7_fill_53178_11 : decode cJ7_fill_53178 11 = .ok (.iload_n 2, 1) := by decide +kernel
theorem dJ7_fill_53178_12 : decode cJ7_fill_53178 12 = .ok (.iload_n 1, 1) := by decide +kernel
theorem dJ7_fill_53178_13 : decode cJ7_fill_53178 13 = .ok (.iastore, 1) := by decide +kernel
theorem dJ7_fill_53178_14 : decode cJ7_fill_53178 14 = .ok (.iinc 2 1, 3) := by decide +kernel
theorem dJ7_fill_53178_17 : decode cJ7_fill_53178 17 = .ok (.goto (-12), 3) := by decide +kernel
theorem dJ7_fill_53178_20 : decode cJ7_fill_53178 20 = .ok (.return_, 1) := by decide +kernel
