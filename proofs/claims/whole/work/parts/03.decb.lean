theorem dX11_init_0 : decode cX11_init 0 = .ok (.aload_n 0, 1) := by decide +kernel
theorem dX11_init_1 : decode cX11_init 1 = .ok (.invokespecial 3, 3) := by decide +kernel
theorem dX11_init_4 : decode cX11_init 4 = .ok (.aload_n 0, 1) := by decide +kernel
theorem dX11_init_5 : decode cX11_init 5 = .ok (.getstatic 9, 3) := by decide +kernel
theorem dX11_init_8 : decode cX11_init 8 = .ok (.invokevirtual 13, 3) := by decide +kernel
theorem dX11_init_11 : decode cX11_init 11 = .ok (.checkcast 14, 3) := by decide +kernel
theorem dX11_init_14 : decode cX11_init 14 = .ok (.putfield 18, 3) := by decide +kernel
theorem dX11_init_17 : decode cX11_init 17 = .ok (.aload_n 0, 1) := by decide +kernel
theorem dX11_init_18 : decode cX11_init 18 = .ok (.new 21, 3) := by decide +kernel
theorem dX11_init_21 : decode cX11_init 21 = .ok (.dup, 1) := by decide +kernel
theorem dX11_init_22 : decode cX11_init 22 = .ok (.invokespecial 23, 3) := by decide +kernel
theorem dX11_init_25 : decode cX11_init 25 = .ok (.putfield 24, 3) := by decide +kernel
theorem dX11_init_28 : decode cX11_init 28 = .ok (.aload_n 0, 1) := by decide +kernel
theorem dX11_init_29 : decode cX11_init 29 = .ok (.new 28, 3) := by decide +kernel
theorem dX11_init_32 : decode cX11_init 32 = .ok (.dup, 1) := by decide +kernel
theorem dX11_init_33 : decode cX11_init 33 = .ok (.invokespecial 30, 3) := by decide +kernel
theorem dX11_init_36 : decode cX11_init 36 = .ok (.putfield 31, 3) := by decide +kernel
theorem dX11_init_39 : decode cX11_init 39 = .ok (.aload_n 0, 1) := by decide +kernel
theorem dX11_init_40 : decode cX11_init 40 = .ok (.new 35, 3) := by decide +kernel
theorem dX11_init_43 : decode cX11_init 43 = .ok (.dup, 1) := by decide +kernel
theorem dX11_init_44 : decode cX11_init 44 = .ok (.invokespecial 37, 3) := by decide +kernel
theorem dX11_init_47 : decode cX11_init 47 = .ok (.putfield 38, 3) := by decide +kernel
theorem dX11_init_50 : decode cX11_init 50 = .ok (.aload_n 0, 1) := by decide +kernel
theorem dX11_init_51 : decode cX11_init 51 = .ok (.new 42, 3) := by decide +kernel
theorem dX11_init_54 : decode cX11_init 54 = .ok (.dup, 1) := by decide +kernel
theorem dX11_init_55 : decode cX11_init 55 = .ok (.aload_n 0, 1) := by decide +kernel
theorem dX11_init_56 : decode cX11_init 56 = .ok (.getfield 18, 3) := by decide +kernel
theorem dX11_init_59 : decode cX11_init 59 = .ok (.aload_n 0, 1) := by decide +kernel
theorem dX11_init_60 : decode cX11_init 60 = .ok (.getfield 31, 3) := by decide +kernel
theorem dX11_init_63 : decode cX11_init 63 = .ok (.aload_n 0, 1) := by decide +kernel
theorem dX11_init_64 : decode cX11_init 64 = .ok (.getfield 38, 3) := by decide +kernel
theorem dX11_init_67 : decode cX11_init 67 = .ok (.invokespecial 44, 3) := by decide +kernel
theorem dX11_init_70 : decode cX11_init 70 = .ok (.putfield 47, 3) := by decide +kernel
theorem dX11_init_73 : decode cX11_init 73 = .ok (.aload_n 0, 1) := by decide +kernel
theorem dX11_init_74 : decode cX11_init 74 = .ok (.new 42, 3) := by decide +kernel
theorem dX11_init_77 : decode cX11_init 77 = .ok (.dup, 1) := by decide +kernel
theorem dX11_init_78 : decode cX11_init 78 = .ok (.getstatic 9, 3) := by decide +kernel
theorem dX11_init_81 : decode cX11_init 81 = .ok (.invokevirtual 13, 3) := by decide +kernel
theorem dX11_init_84 : decode cX11_init 84 = .ok (.checkcast 14, 3) := by decide +kernel
theorem dX11_init_87 : decode cX11_init 87 = .ok (.aload_n 0, 1) := by decide +kernel
theorem dX11_init_88 : decode cX11_init 88 = .ok (.getfield 31, 3) := by decide +kernel
theorem dX11_init_91 : decode cX11_init 91 = .ok (.aconst_null, 1) := by decide +kernel
theorem dX11_init_92 : decode cX11_init 92 = .ok (.invokespecial 44, 3) := by decide +kernel
theorem dX11_init_95 : decode cX11_init 95 = .ok (.putfield 51, 3) := by decide +kernel
theorem dX11_init_98 : decode cX11_init 98 = .ok (.aload_n 0, 1) := by decide +kernel
theorem dX11_init_99 : decode cX11_init 99 = .ok (.new 42, 3) := by decide +kernel
theorem dX11_init_102 : decode cX11_init 102 = .ok (.dup, 1) := by decide +kernel
theorem dX11_init_103 : decode cX11_init 103 = .ok (.getstatic 9, 3) := by decide +kernel
theorem dX11_init_106 : decode cX11_init 106 = .ok (.invokevirtual 13, 3) := by decide +kernel
theorem dX11_init_109 : decode cX11_init 109 = .ok (.checkcast 14, 3) := by decide +kernel
theorem dX11_init_112 : decode cX11_init 112 = .ok (.aload_n 0, 1) := by decide +kernel
theorem dX11_init_113 : decode cX11_init 113 = .ok (.getfield 31, 3) := by decide +kernel
theorem dX11_init_116 : decode cX11_init 116 = .ok (.aconst_null, 1) := by decide +kernel
theorem dX11_init_117 : decode cX11_init 117 = .ok (.invokespecial 44, 3) := by decide +kernel
theorem dX11_init_120 : decode cX11_init 120 = .ok (.putfield 54, 3) := by decide +kernel
theorem dX11_init_123 : decode cX11_init 123 = .ok (.aload_n 0, 1) := by decide +kernel
theorem dX11_init_124 : decode cX11_init 124 = .ok (.new 57, 3) := by decide +kernel
theorem dX11_init_127 : decode cX11_init 127 = .ok (.dup, 1) := by decide +kernel
theorem dX11_init_128 : decode cX11_init 128 = .ok (.invokespecial 59, 3) := by decide +kernel
theorem dX11_init_131 : decode cX11_init 131 = .ok (.putfield 60, 3) := by decide +kernel
theorem dX11_init_134 : decode cX11_init 134 = .ok (.aload_n 0, 1) := by decide +kernel
theorem dX11_init_135 : decode cX11_init 135 = .ok (.sipush 424, 3) := by decide +kernel
theorem dX11_init_138 : decode cX11_init 138 = .ok (.newarray .int, 2) := by decide +kernel
theorem dX11_init_140 : decode cX11_init 140 = .ok (.putfield 64, 3) := by decide +kernel
theorem dX11_init_143 : decode cX11_init 143 = .ok (.aload_n 0, 1) := by decide +kernel
theorem dX11_init_144 : decode cX11_init 144 = .ok (.new 67, 3) := by decide +kernel
theorem dX11_init_147 : decode cX11_init 147 = .ok (.dup, 1) := by decide +kernel
theorem dX11_init_148 : decode cX11_init 148 = .ok (.invokespecial 69, 3) := by decide +kernel
theorem dX11_init_151 : decode cX11_init 151 = .ok (.putfield 70, 3) := by decide +kernel
theorem dX11_init_154 : decode cX11_init 154 = .ok (.aload_n 0, 1) := by decide +kernel
theorem dX11_init_155 : decode cX11_init 155 = .ok (.new 74, 3) := by decide +kernel
theorem dX11_init_158 : decode cX11_init 158 = .ok (.dup, 1) := by decide +kernel
theorem dX11_init_159 : decode cX11_init 159 = .ok (.invokespecial 76, 3) := by decide +kernel
theorem dX11_init_162 : decode cX11_init 162 = .ok (.putfield 77, 3) := by decide +kernel
theorem dX11_init_165 : decode cX11_init 165 = .ok (.aload_n 0, 1) := by decide +kernel
theorem dX11_init_166 : decode cX11_init 166 = .ok (.new 81, 3) := by decide +kernel
theorem dX11_init_169 : decode cX11_init 169 = .ok (.dup, 1) := by decide +kernel
theorem dX11_init_170 : decode cX11_init 170 = .ok (.invokespecial 83, 3) := by decide +kernel
theorem dX11_init_173 : decode cX11_init 173 = .ok (.putfield 84, 3) := by decide +kernel
theorem dX11_init_176 : decode cX11_init 176 = .ok (.return_, 1) := by decide +kernel
theorem dX11_feed_0 : decode cX11_feed 0 = .ok (.aload_n 0, 1) := by decide +kernel
theorem dX11_feed_1 : decode cX11_feed 1 = .ok (.getfield 24, 3) := by decide +kernel
theorem dX11_feed_4 : decode cX11_feed 4 = .ok (.sipush 160, 3) := by decide +kernel
theorem dX11_feed_7 : decode cX11_feed 7 = .ok (.invokevirtual 88, 3) := by decide +kernel
theorem dX11_feed_10 : decode cX11_feed 10 = .ok (.ifCond .ne 6, 3) := by decide +kernel
theorem dX11_feed_13 : decode cX11_feed 13 = .ok (.bipush (-4), 2) := by decide +kernel
theorem dX11_feed_15 : decode cX11_feed 15 = .ok (.ireturn, 1) := by decide +kernel
theorem dX11_feed_16 : decode cX11_feed 16 = .ok (.aload_n 0, 1) := by decide +kernel
theorem dX11_feed_17 : decode cX11_feed 17 = .ok (.getfield 24, 3) := by decide +kernel
theorem dX11_feed_20 : decode cX11_feed 20 = .ok (.bipush 32, 2) := by decide +kernel
theorem dX11_feed_22 : decode cX11_feed 22 = .ok (.iload_n 1, 1) := by decide +kernel
theorem dX11_feed_23 : decode cX11_feed 23 = .ok (.invokevirtual 92, 3) := by decide +kernel
theorem dX11_feed_26 : decode cX11_feed 26 = .ok (.aload_n 0, 1) := by decide +kernel
theorem dX11_feed_27 : decode cX11_feed 27 = .ok (.getfield 24, 3) := by decide +kernel
theorem dX11_feed_30 : decode cX11_feed 30 = .ok (.bipush 32, 2) := by decide +kernel
theorem dX11_feed_32 : decode cX11_feed 32 = .ok (.iload_n 2, 1) := by decide +kernel
theorem dX11_feed_33 : decode cX11_feed 33 = .ok (.invokevirtual 92, 3) := by decide +kernel
theorem dX11_feed_36 : decode cX11_feed 36 = .ok (.aload_n 0, 1) := by decide +kernel
theorem dX11_feed_37 : decode cX11_feed 37 = .ok (.getfield 24, 3) := by decide +kernel
theorem dX11_feed_40 : decode cX11_feed 40 = .ok (.bipush 32, 2) := by decide +kernel
theorem dX11_feed_42 : decode cX11_feed 42 = .ok (.iload_n 3, 1) := by decide +kernel
theorem dX11_feed_43 : decode cX11_feed 43 = .ok (.invokevirtual 92, 3) := by decide +kernel
theorem dX11_feed_46 : decode cX11_feed 46 = .ok (.aload_n 0, 1) := by decide +kernel
theorem dX11_feed_47 : decode cX11_feed 47 = .ok (.getfield 24, 3) := by decide +kernel
theorem dX11_feed_50 : decode cX11_feed 50 = .ok (.bipush 32, 2) := by decide +kernel
theorem dX11_feed_52 : decode cX11_feed 52 = .ok (.iload 4, 2) := by decide +kernel
theorem dX11_feed_54 : decode cX11_feed 54 = .ok (.invokevirtual 92, 3) := by decide +kernel
theorem dX11_feed_57 : decode cX11_feed 57 = .ok (.aload_n 0, 1) := by decide +kernel
theorem dX11_feed_58 : decode cX11_feed 58 = .ok (.getfield 24, 3) := by decide +kernel
theorem dX11_feed_61 : decode cX11_feed 61 = .ok (.bipush 32, 2) := by decide +kernel
theorem dX11_feed_63 : decode cX11_feed 63 = .ok (.iload 5, 2) := by decide +kernel
theorem dX11_feed_65 : decode cX11_feed 65 = .ok (.invokevirtual 92, 3) := by decide +kernel
theorem dX11_feed_68 : decode cX11_feed 68 = .ok (.aload_n 0, 1) := by decide +kernel
theorem dX11_feed_69 : decode cX11_feed 69 = .ok (.getfield 24, 3) := by decide +kernel
theorem dX11_feed_72 : decode cX11_feed 72 = .ok (.getfield 96, 3) := by decide +kernel
theorem dX11_feed_75 : decode cX11_feed 75 = .ok (.ireturn, 1) := by decide +kernel
theorem dX11_bits_0 : decode cX11_bits 0 = .ok (.iload_n 1, 1) := by decide +kernel
theorem dX11_bits_1 : decode cX11_bits 1 = .ok (.iconst 1, 1) := by decide +kernel
theorem dX11_bits_2 : decode cX11_bits 2 = .ok (.bipush 32, 2) := by decide +kernel
theorem dX11_bits_4 : decode cX11_bits 4 = .ok (.invokestatic 100, 3) := by decide +kernel
theorem dX11_bits_7 : decode cX11_bits 7 = .ok (.ifCond .ne 6, 3) := by decide +kernel
theorem dX11_bits_10 : decode cX11_bits 10 = .ok (.bipush (-3), 2) := by decide +kernel
theorem dX11_bits_12 : decode cX11_bits 12 = .ok (.ireturn, 1) := by decide +kernel
theorem dX11_bits_13 : decode cX11_bits 13 = .ok (.aload_n 0, 1) := by decide +kernel
theorem dX11_bits_14 : decode cX11_bits 14 = .ok (.getfield 24, 3) := by decide +kernel
theorem dX11_bits_17 : decode cX11_bits 17 = .ok (.iload_n 1, 1) := by decide +kernel
theorem dX11_bits_18 : decode cX11_bits 18 = .ok (.invokevirtual 88, 3) := by decide +kernel
theorem dX11_bits_21 : decode cX11_bits 21 = .ok (.ifCond .ne 6, 3) := by decide +kernel
theorem dX11_bits_24 : decode cX11_bits 24 = .ok (.bipush (-4), 2) := by decide +kernel
theorem dX11_bits_26 : decode cX11_bits 26 = .ok (.ireturn, 1) := by decide +kernel
theorem dX11_bits_27 : decode cX11_bits 27 = .ok (.aload_n 0, 1) := by decide +kernel
theorem dX11_bits_28 : decode cX11_bits 28 = .ok (.getfield 24, 3) := by decide +kernel
theorem dX11_bits_31 : decode cX11_bits 31 = .ok (.iload_n 1, 1) := by decide +kernel
theorem dX11_bits_32 : decode cX11_bits 32 = .ok (.iload_n 2, 1) := by decide +kernel
theorem dX11_bits_33 : decode cX11_bits 33 = .ok (.invokevirtual 92, 3) := by decide +kernel
theorem dX11_bits_36 : decode cX11_bits 36 = .ok (.aload_n 0, 1) := by decide +kernel
theorem dX11_bits_37 : decode cX11_bits 37 = .ok (.getfield 24, 3) := by decide +kernel
theorem dX11_bits_40 : decode cX11_bits 40 = .ok (.getfield 96, 3) := by decide +kernel
theorem dX11_bits_43 : decode cX11_bits 43 = .ok (.ireturn, 1) := by decide +kernel
theorem dX11_send_0 : decode cX11_send 0 = .ok (.iload_n 2, 1) := by decide +kernel
theorem dX11_send_1 : decode cX11_send 1 = .ok (.iconst 0, 1) := by decide +kernel
theorem dX11_send_2 : decode cX11_send 2 = .ok (.ldc 104, 2) := by decide +kernel
theorem dX11_send_4 : decode cX11_send 4 = .ok (.invokestatic 100, 3) := by decide +kernel
theorem dX11_send_7 : decode cX11_send 7 = .ok (.ifCond .ne 6, 3) := by decide +kernel
theorem dX11_send_10 : decode cX11_send 10 = .ok (.bipush (-3), 2) := by decide +kernel
theorem dX11_send_12 : decode cX11_send 12 = .ok (.ireturn, 1) := by decide +kernel
theorem dX11_send_13 : decode cX11_send 13 = .ok (.aload_n 0, 1) := by decide +kernel
theorem dX11_send_14 : decode cX11_send 14 = .ok (.iconst 1, 1) := by decide +kernel
theorem dX11_send_15 : decode cX11_send 15 = .ok (.invokevirtual 105, 3) := by decide +kernel
theorem dX11_send_18 : decode cX11_send 18 = .ok (.ifCond .ne 6, 3) := by decide +kernel
theorem dX11_send_21 : decode cX11_send 21 = .ok (.bipush (-4), 2) := by decide +kernel
theorem dX11_send_23 : decode cX11_send 23 = .ok (.ireturn, 1) := by decide +kernel
theorem dX11_send_24 : decode cX11_send 24 = .ok (.aload_n 0, 1) := by decide +kernel
theorem dX11_send_25 : decode cX11_send 25 = .ok (.getfield 31, 3) := by decide +kernel
theorem dX11_send_28 : decode cX11_send 28 = .ok (.iload_n 2, 1) := by decide +kernel
theorem dX11_send_29 : decode cX11_send 29 = .ok (.aload_n 0, 1) := by decide +kernel
theorem dX11_send_30 : decode cX11_send 30 = .ok (.getfield 18, 3) := by decide +kernel
theorem dX11_send_33 : decode cX11_send 33 = .ok (.iconst 0, 1) := by decide +kernel
theorem dX11_send_34 : decode cX11_send 34 = .ok (.iaload, 1) := by decide +kernel
theorem dX11_send_35 : decode cX11_send 35 = .ok (.invokevirtual 108, 3) := by decide +kernel
theorem dX11_send_38 : decode cX11_send 38 = .ok (.aload_n 0, 1) := by decide +kernel
theorem dX11_send_39 : decode cX11_send 39 = .ok (.getfield 31, 3) := by decide +kernel
theorem dX11_send_42 : decode cX11_send 42 = .ok (.aload_n 0, 1) := by decide +kernel
theorem dX11_send_43 : decode cX11_send 43 = .ok (.getfield 24, 3) := by decide +kernel
theorem dX11_send_46 : decode cX11_send 46 = .ok (.iload_n 1, 1) := by decide +kernel
theorem dX11_send_47 : decode cX11_send 47 = .ok (.aload_n 0, 1) := by decide +kernel
theorem dX11_send_48 : decode cX11_send 48 = .ok (.getfield 18, 3) := by decide +kernel
theorem dX11_send_51 : decode cX11_send 51 = .ok (.iconst 0, 1) := by decide +kernel
theorem dX11_send_52 : decode cX11_send 52 = .ok (.iaload, 1) := by decide +kernel
theorem dX11_send_53 : decode cX11_send 53 = .ok (.invokevirtual 111, 3) := by decide +kernel
theorem dX11_send_56 : decode cX11_send 56 = .ok (.aload_n 0, 1) := by decide +kernel
theorem dX11_send_57 : decode cX11_send 57 = .ok (.getfield 31, 3) := by decide +kernel
theorem dX11_send_60 : decode cX11_send 60 = .ok (.getfield 115, 3) := by decide +kernel
theorem dX11_send_63 : decode cX11_send 63 = .ok (.iconst 1, 1) := by decide +kernel
theorem dX11_send_64 : decode cX11_send 64 = .ok (.isub, 1) := by decide +kernel
theorem dX11_send_65 : decode cX11_send 65 = .ok (.ireturn, 1) := by decide +kernel
theorem dX11_rest_0 : decode cX11_rest 0 = .ok (.iload_n 1, 1) := by decide +kernel
theorem dX11_rest_1 : decode cX11_rest 1 = .ok (.iconst 1, 1) := by decide +kernel
theorem dX11_rest_2 : decode cX11_rest 2 = .ok (.bipush 20, 2) := by decide +kernel
theorem dX11_rest_4 : decode cX11_rest 4 = .ok (.invokestatic 100, 3) := by decide +kernel
theorem dX11_rest_7 : decode cX11_rest 7 = .ok (.ifCond .ne 6, 3) := by decide +kernel
theorem dX11_rest_10 : decode cX11_rest 10 = .ok (.bipush (-3), 2) := by decide +kernel
theorem dX11_rest_12 : decode cX11_rest 12 = .ok (.ireturn, 1) := by decide +kernel
theorem dX11_rest_13 : decode cX11_rest 13 = .ok (.aload_n 0, 1) := by decide +kernel
theorem dX11_rest_14 : decode cX11_rest 14 = .ok (.iload_n 1, 1) := by decide +kernel
theorem dX11_rest_15 : decode cX11_rest 15 = .ok (.invokevirtual 105, 3) := by decide +kernel
theorem dX11_rest_18 : decode cX11_rest 18 = .ok (.ifCond .ne 6, 3) := by decide +kernel
theorem dX11_rest_21 : decode cX11_rest 21 = .ok (.bipush (-4), 2) := by decide +kernel
theorem dX11_rest_23 : decode cX11_rest 23 = .ok (.ireturn, 1) := by decide +kernel
theorem dX11_rest_24 : decode cX11_rest 24 = .ok (.iconst 0, 1) := by decide +kernel
theorem dX11_rest_25 : decode cX11_rest 25 = .ok (.istore_n 2, 1) := by decide +kernel
theorem dX11_rest_26 : decode cX11_rest 26 = .ok (.iload_n 2, 1) := by decide +kernel
theorem dX11_rest_27 : decode cX11_rest 27 = .ok (.iload_n 1, 1) := by decide +kernel
theorem dX11_rest_28 : decode cX11_rest 28 = .ok (.if_icmp .ge 40, 3) := by decide +kernel
theorem dX11_rest_31 : decode cX11_rest 31 = .ok (.aload_n 0, 1) := by decide +kernel
theorem dX11_rest_32 : decode cX11_rest 32 = .ok (.getfield 31, 3) := by decide +kernel
theorem dX11_rest_35 : decode cX11_rest 35 = .ok (.aload_n 0, 1) := by decide +kernel
theorem dX11_rest_36 : decode cX11_rest 36 = .ok (.getfield 18, 3) := by decide +kernel
theorem dX11_rest_39 : decode cX11_rest 39 = .ok (.iconst 0, 1) := by decide +kernel
theorem dX11_rest_40 : decode cX11_rest 40 = .ok (.iaload, 1) := by decide +kernel
theorem dX11_rest_41 : decode cX11_rest 41 = .ok (.invokevirtual 118, 3) := by decide +kernel
theorem dX11_rest_44 : decode cX11_rest 44 = .ok (.aload_n 0, 1) := by decide +kernel
theorem dX11_rest_45 : decode cX11_rest 45 = .ok (.getfield 31, 3) := by decide +kernel
theorem dX11_rest_48 : decode cX11_rest 48 = .ok (.aload_n 0, 1) := by decide +kernel
theorem dX11_rest_49 : decode cX11_rest 49 = .ok (.getfield 24, 3) := by decide +kernel
theorem dX11_rest_52 : decode cX11_rest 52 = .ok (.iconst 1, 1) := by decide +kernel
theorem dX11_rest_53 : decode cX11_rest 53 = .ok (.aload_n 0, 1) := by decide +kernel
theorem dX11_rest_54 : decode cX11_rest 54 = .ok (.getfield 18, 3) := by decide +kernel
theorem dX11_rest_57 : decode cX11_rest 57 = .ok (.iconst 0, 1) := by decide +kernel
theorem dX11_rest_58 : decode cX11_rest 58 = .ok (.iaload, 1) := by decide +kernel
theorem dX11_rest_59 : decode cX11_rest 59 = .ok (.invokevirtual 111, 3) := by decide +kernel
theorem dX11_rest_62 : decode cX11_rest 62 = .ok (.iinc 2 1, 3) := by decide +kernel
theorem dX11_rest_65 : decode cX11_rest 65 = .ok (.goto (-39), 3) := by decide +kernel
theorem dX11_rest_68 : decode cX11_rest 68 = .ok (.aload_n 0, 1) := by decide +kernel
theorem dX11_rest_69 : decode cX11_rest 69 = .ok (.getfield 31, 3) := by decide +kernel
theorem dX11_rest_72 : decode cX11_rest 72 = .ok (.getfield 115, 3) := by decide +kernel
theorem dX11_rest_75 : decode cX11_rest 75 = .ok (.ireturn, 1) := by decide +kernel
theorem dX11_flip_0 : decode cX11_flip 0 = .ok (.aload_n 0, 1) := by decide +kernel
theorem dX11_flip_1 : decode cX11_flip 1 = .ok (.getfield 24, 3) := by decide +kernel
theorem dX11_flip_4 : decode cX11_flip 4 = .ok (.iload_n 1, 1) := by decide +kernel
theorem dX11_flip_5 : decode cX11_flip 5 = .ok (.invokevirtual 122, 3) := by decide +kernel
theorem dX11_flip_8 : decode cX11_flip 8 = .ok (.ifCond .ne 6, 3) := by decide +kernel
theorem dX11_flip_11 : decode cX11_flip 11 = .ok (.bipush (-2), 2) := by decide +kernel
theorem dX11_flip_13 : decode cX11_flip 13 = .ok (.ireturn, 1) := by decide +kernel
theorem dX11_flip_14 : decode cX11_flip 14 = .ok (.iload_n 1, 1) := by decide +kernel
theorem dX11_flip_15 : decode cX11_flip 15 = .ok (.aload_n 0, 1) := by decide +kernel
theorem dX11_flip_16 : decode cX11_flip 16 = .ok (.getfield 24, 3) := by decide +kernel
theorem dX11_flip_19 : decode cX11_flip 19 = .ok (.getfield 125, 3) := by decide +kernel
theorem dX11_flip_22 : decode cX11_flip 22 = .ok (.if_icmp .ge 6, 3) := by decide +kernel
theorem dX11_flip_25 : decode cX11_flip 25 = .ok (.bipush (-5), 2) := by decide +kernel
theorem dX11_flip_27 : decode cX11_flip 27 = .ok (.ireturn, 1) := by decide +kernel
theorem dX11_flip_28 : decode cX11_flip 28 = .ok (.aload_n 0, 1) := by decide +kernel
theorem dX11_flip_29 : decode cX11_flip 29 = .ok (.getfield 24, 3) := by decide +kernel
theorem dX11_flip_32 : decode cX11_flip 32 = .ok (.iload_n 1, 1) := by decide +kernel
theorem dX11_flip_33 : decode cX11_flip 33 = .ok (.invokevirtual 128, 3) := by decide +kernel
theorem dX11_flip_36 : decode cX11_flip 36 = .ok (.aload_n 0, 1) := by decide +kernel
theorem dX11_flip_37 : decode cX11_flip 37 = .ok (.getfield 24, 3) := by decide +kernel
theorem dX11_flip_40 : decode cX11_flip 40 = .ok (.iload_n 1, 1) := by decide +kernel
theorem dX11_flip_41 : decode cX11_flip 41 = .ok (.invokevirtual 131, 3) := by decide +kernel
theorem dX11_flip_44 : decode cX11_flip 44 = .ok (.ireturn, 1) := by decide +kernel
theorem dX11_drop_0 : decode cX11_drop 0 = .ok (.aload_n 0, 1) := by decide +kernel
theorem dX11_drop_1 : decode cX11_drop 1 = .ok (.getfield 24, 3) := by decide +kernel
theorem dX11_drop_4 : decode cX11_drop 4 = .ok (.iload_n 1, 1) := by decide +kernel
theorem dX11_drop_5 : decode cX11_drop 5 = .ok (.invokevirtual 122, 3) := by decide +kernel
theorem dX11_drop_8 : decode cX11_drop 8 = .ok (.ifCond .ne 6, 3) := by decide +kernel
theorem dX11_drop_11 : decode cX11_drop 11 = .ok (.bipush (-2), 2) := by decide +kernel
theorem dX11_drop_13 : decode cX11_drop 13 = .ok (.ireturn, 1) := by decide +kernel
theorem dX11_drop_14 : decode cX11_drop 14 = .ok (.iload_n 2, 1) := by decide +kernel
theorem dX11_drop_15 : decode cX11_drop 15 = .ok (.iconst 1, 1) := by decide +kernel
theorem dX11_drop_16 : decode cX11_drop 16 = .ok (.sipush 400, 3) := by decide +kernel
theorem dX11_drop_19 : decode cX11_drop 19 = .ok (.invokestatic 100, 3) := by decide +kernel
theorem dX11_drop_22 : decode cX11_drop 22 = .ok (.ifCond .eq 16, 3) := by decide +kernel
theorem dX11_drop_25 : decode cX11_drop 25 = .ok (.iload_n 2, 1) := by decide +kernel
theorem dX11_drop_26 : decode cX11_drop 26 = .ok (.aload_n 0, 1) := by decide +kernel
theorem dX11_drop_27 : decode cX11_drop 27 = .ok (.getfield 24, 3) := by decide +kernel
theorem dX11_drop_30 : decode cX11_drop 30 = .ok (.getfield 96, 3) := by decide +kernel
theorem dX11_drop_33 : decode cX11_drop 33 = .ok (.iload_n 1, 1) := by decide +kernel
theorem dX11_drop_34 : decode cX11_drop 34 = .ok (.isub, 1) := by decide +kernel
theorem dX11_drop_35 : decode cX11_drop 35 = .ok (.if_icmp .le 6, 3) := by decide +kernel
theorem dX11_drop_38 : decode cX11_drop 38 = .ok (.bipush (-3), 2) := by decide +kernel
theorem dX11_drop_40 : decode cX11_drop 40 = .ok (.ireturn, 1) := by decide +kernel
theorem dX11_drop_41 : decode cX11_drop 41 = .ok (.iload_n 1, 1) := by decide +kernel
theorem dX11_drop_42 : decode cX11_drop 42 = .ok (.aload_n 0, 1) := by decide +kernel
theorem dX11_drop_43 : decode cX11_drop 43 = .ok (.getfield 24, 3) := by decide +kernel
theorem dX11_drop_46 : decode cX11_drop 46 = .ok (.getfield 125, 3) := by decide +kernel
theorem dX11_drop_49 : decode cX11_drop 49 = .ok (.if_icmp .ge 6, 3) := by decide +kernel
theorem dX11_drop_52 : decode cX11_drop 52 = .ok (.bipush (-5), 2) := by decide +kernel
theorem dX11_drop_54 : decode cX11_drop 54 = .ok (.ireturn, 1) := by decide +kernel
theorem dX11_drop_55 : decode cX11_drop 55 = .ok (.aload_n 0, 1) := by decide +kernel
theorem dX11_drop_56 : decode cX11_drop 56 = .ok (.getfield 24, 3) := by decide +kernel
theorem dX11_drop_59 : decode cX11_drop 59 = .ok (.iload_n 1, 1) := by decide +kernel
theorem dX11_drop_60 : decode cX11_drop 60 = .ok (.iload_n 2, 1) := by decide +kernel
theorem dX11_drop_61 : decode cX11_drop 61 = .ok (.invokevirtual 135, 3) := by decide +kernel
theorem dX11_drop_64 : decode cX11_drop 64 = .ok (.aload_n 0, 1) := by decide +kernel
theorem dX11_drop_65 : decode cX11_drop 65 = .ok (.getfield 24, 3) := by decide +kernel
theorem dX11_drop_68 : decode cX11_drop 68 = .ok (.getfield 96, 3) := by decide +kernel
theorem dX11_drop_71 : decode cX11_drop 71 = .ok (.ireturn, 1) := by decide +kernel
theorem dX11_slip_0 : decode cX11_slip 0 = .ok (.iload_n 1, 1) := by decide +kernel
theorem dX11_slip_1 : decode cX11_slip 1 = .ok (.iconst 0, 1) := by decide +kernel
theorem dX11_slip_2 : decode cX11_slip 2 = .ok (.aload_n 0, 1) := by decide +kernel
theorem dX11_slip_3 : decode cX11_slip 3 = .ok (.getfield 24, 3) := by decide +kernel
theorem dX11_slip_6 : decode cX11_slip 6 = .ok (.getfield 96, 3) := by decide +kernel
theorem dX11_slip_9 : decode cX11_slip 9 = .ok (.invokestatic 100, 3) := by decide +kernel
theorem dX11_slip_12 : decode cX11_slip 12 = .ok (.ifCond .ne 6, 3) := by decide +kernel
theorem dX11_slip_15 : decode cX11_slip 15 = .ok (.bipush (-2), 2) := by decide +kernel
theorem dX11_slip_17 : decode cX11_slip 17 = .ok (.ireturn, 1) := by decide +kernel
theorem dX11_slip_18 : decode cX11_slip 18 = .ok (.iload_n 2, 1) := by decide +kernel
theorem dX11_slip_19 : decode cX11_slip 19 = .ok (.iconst 1, 1) := by decide +kernel
theorem dX11_slip_20 : decode cX11_slip 20 = .ok (.bipush 32, 2) := by decide +kernel
theorem dX11_slip_22 : decode cX11_slip 22 = .ok (.invokestatic 100, 3) := by decide +kernel
theorem dX11_slip_25 : decode cX11_slip 25 = .ok (.ifCond .ne 6, 3) := by decide +kernel
theorem dX11_slip_28 : decode cX11_slip 28 = .ok (.bipush (-3), 2) := by decide +kernel
theorem dX11_slip_30 : decode cX11_slip 30 = .ok (.ireturn, 1) := by decide +kernel
theorem dX11_slip_31 : decode cX11_slip 31 = .ok (.aload_n 0, 1) := by decide +kernel
theorem dX11_slip_32 : decode cX11_slip 32 = .ok (.getfield 24, 3) := by decide +kernel
theorem dX11_slip_35 : decode cX11_slip 35 = .ok (.iload_n 2, 1) := by decide +kernel
theorem dX11_slip_36 : decode cX11_slip 36 = .ok (.invokevirtual 88, 3) := by decide +kernel
theorem dX11_slip_39 : decode cX11_slip 39 = .ok (.ifCond .ne 6, 3) := by decide +kernel
theorem dX11_slip_42 : decode cX11_slip 42 = .ok (.bipush (-4), 2) := by decide +kernel
theorem dX11_slip_44 : decode cX11_slip 44 = .ok (.ireturn, 1) := by decide +kernel
theorem dX11_slip_45 : decode cX11_slip 45 = .ok (.iload_n 1, 1) := by decide +kernel
theorem dX11_slip_46 : decode cX11_slip 46 = .ok (.aload_n 0, 1) := by decide +kernel
theorem dX11_slip_47 : decode cX11_slip 47 = .ok (.getfield 24, 3) := by decide +kernel
theorem dX11_slip_50 : decode cX11_slip 50 = .ok (.getfield 125, 3) := by decide +kernel
theorem dX11_slip_53 : decode cX11_slip 53 = .ok (.if_icmp .ge 6, 3) := by decide +kernel
theorem dX11_slip_56 : decode cX11_slip 56 = .ok (.bipush (-5), 2) := by decide +kernel
theorem dX11_slip_58 : decode cX11_slip 58 = .ok (.ireturn, 1) := by decide +kernel
theorem dX11_slip_59 : decode cX11_slip 59 = .ok (.aload_n 0, 1) := by decide +kernel
theorem dX11_slip_60 : decode cX11_slip 60 = .ok (.getfield 24, 3) := by decide +kernel
theorem dX11_slip_63 : decode cX11_slip 63 = .ok (.iload_n 1, 1) := by decide +kernel
theorem dX11_slip_64 : decode cX11_slip 64 = .ok (.iload_n 2, 1) := by decide +kernel
theorem dX11_slip_65 : decode cX11_slip 65 = .ok (.iload_n 3, 1) := by decide +kernel
theorem dX11_slip_66 : decode cX11_slip 66 = .ok (.invokevirtual 138, 3) := by decide +kernel
theorem dX11_slip_69 : decode cX11_slip 69 = .ok (.aload_n 0, 1) := by decide +kernel
theorem dX11_slip_70 : decode cX11_slip 70 = .ok (.getfield 24, 3) := by decide +kernel
theorem dX11_slip_73 : decode cX11_slip 73 = .ok (.getfield 96, 3) := by decide +kernel
theorem dX11_slip_76 : decode cX11_slip 76 = .ok (.ireturn, 1) := by decide +kernel
theorem dX11_disturb_0 : decode cX11_disturb 0 = .ok (.aload_n 0, 1) := by decide +kernel
theorem dX11_disturb_1 : decode cX11_disturb 1 = .ok (.getfield 24, 3) := by decide +kernel
theorem dX11_disturb_4 : decode cX11_disturb 4 = .ok (.iload_n 1, 1) := by decide +kernel
theorem dX11_disturb_5 : decode cX11_disturb 5 = .ok (.invokevirtual 122, 3) := by decide +kernel
theorem dX11_disturb_8 : decode cX11_disturb 8 = .ok (.ifCond .ne 6, 3) := by decide +kernel
theorem dX11_disturb_11 : decode cX11_disturb 11 = .ok (.bipush (-2), 2) := by decide +kernel
theorem dX11_disturb_13 : decode cX11_disturb 13 = .ok (.ireturn, 1) := by decide +kernel
theorem dX11_disturb_14 : decode cX11_disturb 14 = .ok (.iload_n 2, 1) := by decide +kernel
theorem dX11_disturb_15 : decode cX11_disturb 15 = .ok (.iconst 1, 1) := by decide +kernel
theorem dX11_disturb_16 : decode cX11_disturb 16 = .ok (.sipush 2000, 3) := by decide +kernel
theorem dX11_disturb_19 : decode cX11_disturb 19 = .ok (.invokestatic 100, 3) := by decide +kernel
theorem dX11_disturb_22 : decode cX11_disturb 22 = .ok (.ifCond .eq 16, 3) := by decide +kernel
theorem dX11_disturb_25 : decode cX11_disturb 25 = .ok (.iload_n 2, 1) := by decide +kernel
theorem dX11_disturb_26 : decode cX11_disturb 26 = .ok (.aload_n 0, 1) := by decide +kernel
theorem dX11_disturb_27 : decode cX11_disturb 27 = .ok (.getfield 24, 3) := by decide +kernel
theorem dX11_disturb_30 : decode cX11_disturb 30 = .ok (.getfield 96, 3) := by decide +kernel
theorem dX11_disturb_33 : decode cX11_disturb 33 = .ok (.iload_n 1, 1) := by decide +kernel
theorem dX11_disturb_34 : decode cX11_disturb 34 = .ok (.isub, 1) := by decide +kernel
theorem dX11_disturb_35 : decode cX11_disturb 35 = .ok (.if_icmp .le 6, 3) := by decide +kernel
theorem dX11_disturb_38 : decode cX11_disturb 38 = .ok (.bipush (-3), 2) := by decide +kernel
theorem dX11_disturb_40 : decode cX11_disturb 40 = .ok (.ireturn, 1) := by decide +kernel
theorem dX11_disturb_41 : decode cX11_disturb 41 = .ok (.iload_n 3, 1) := by decide +kernel
theorem dX11_disturb_42 : decode cX11_disturb 42 = .ok (.iconst 1, 1) := by decide +kernel
theorem dX11_disturb_43 : decode cX11_disturb 43 = .ok (.sipush 1000, 3) := by decide +kernel
theorem dX11_disturb_46 : decode cX11_disturb 46 = .ok (.invokestatic 100, 3) := by decide +kernel
theorem dX11_disturb_49 : decode cX11_disturb 49 = .ok (.ifCond .eq 14, 3) := by decide +kernel
theorem dX11_disturb_52 : decode cX11_disturb 52 = .ok (.iload 4, 2) := by decide +kernel
theorem dX11_disturb_54 : decode cX11_disturb 54 = .ok (.iconst 0, 1) := by decide +kernel
theorem dX11_disturb_55 : decode cX11_disturb 55 = .ok (.ldc 104, 2) := by decide +kernel
theorem dX11_disturb_57 : decode cX11_disturb 57 = .ok (.invokestatic 100, 3) := by decide +kernel
theorem dX11_disturb_60 : decode cX11_disturb 60 = .ok (.ifCond .ne 6, 3) := by decide +kernel
theorem dX11_disturb_63 : decode cX11_disturb 63 = .ok (.bipush (-3), 2) := by decide +kernel
theorem dX11_disturb_65 : decode cX11_disturb 65 = .ok (.ireturn, 1) := by decide +kernel
theorem dX11_disturb_66 : decode cX11_disturb 66 = .ok (.iload_n 1, 1) := by decide +kernel
theorem dX11_disturb_67 : decode cX11_disturb 67 = .ok (.aload_n 0, 1) := by decide +kernel
theorem dX11_disturb_68 : decode cX11_disturb 68 = .ok (.getfield 24, 3) := by decide +kernel
theorem dX11_disturb_71 : decode cX11_disturb 71 = .ok (.getfield 125, 3) := by decide +kernel
theorem dX11_disturb_74 : decode cX11_disturb 74 = .ok (.if_icmp .ge 6, 3) := by decide +kernel
theorem dX11_disturb_77 : decode cX11_disturb 77 = .ok (.bipush (-5), 2) := by decide +kernel
theorem dX11_disturb_79 : decode cX11_disturb 79 = .ok (.ireturn, 1) := by decide +kernel
theorem dX11_disturb_80 : decode cX11_disturb 80 = .ok (.iconst 0, 1) := by decide +kernel
theorem dX11_disturb_81 : decode cX11_disturb 81 = .ok (.istore 5, 2) := by decide +kernel
theorem dX11_disturb_83 : decode cX11_disturb 83 = .ok (.iload 4, 2) := by decide +kernel
theorem dX11_disturb_85 : decode cX11_disturb 85 = .ok (.istore 6, 2) := by decide +kernel
theorem dX11_disturb_87 : decode cX11_disturb 87 = .ok (.iconst 0, 1) := by decide +kernel
theorem dX11_disturb_88 : decode cX11_disturb 88 = .ok (.istore 7, 2) := by decide +kernel
theorem dX11_disturb_90 : decode cX11_disturb 90 = .ok (.iload 7, 2) := by decide +kernel
theorem dX11_disturb_92 : decode cX11_disturb 92 = .ok (.iload_n 2, 1) := by decide +kernel
theorem dX11_disturb_93 : decode cX11_disturb 93 = .ok (.if_icmp .ge 37, 3) := by decide +kernel
theorem dX11_disturb_96 : decode cX11_disturb 96 = .ok (.iload 6, 2) := by decide +kernel
theorem dX11_disturb_98 : decode cX11_disturb 98 = .ok (.invokestatic 142, 3) := by decide +kernel
theorem dX11_disturb_101 : decode cX11_disturb 101 = .ok (.istore 6, 2) := by decide +kernel
theorem dX11_disturb_103 : decode cX11_disturb 103 = .ok (.iload 6, 2) := by decide +kernel
theorem dX11_disturb_105 : decode cX11_disturb 105 = .ok (.iload_n 3, 1) := by decide +kernel
theorem dX11_disturb_106 : decode cX11_disturb 106 = .ok (.irem, 1) := by decide +kernel
theorem dX11_disturb_107 : decode cX11_disturb 107 = .ok (.ifCond .ne 17, 3) := by decide +kernel
theorem dX11_disturb_110 : decode cX11_disturb 110 = .ok (.aload_n 0, 1) := by decide +kernel
theorem dX11_disturb_111 : decode cX11_disturb 111 = .ok (.getfield 24, 3) := by decide +kernel
theorem dX11_disturb_114 : decode cX11_disturb 114 = .ok (.iload_n 1, 1) := by decide +kernel
theorem dX11_disturb_115 : decode cX11_disturb 115 = .ok (.iload 7, 2) := by decide +kernel
theorem dX11_disturb_117 : decode cX11_disturb 117 = .ok (.iadd, 1) := by decide +kernel
theorem dX11_disturb_118 : decode cX11_disturb 118 = .ok (.invokevirtual 128, 3) := by decide +kernel
theorem dX11_disturb_121 : decode cX11_disturb 121 = .ok (.iinc 5 1, 3) := by decide +kernel
theorem dX11_disturb_124 : decode cX11_disturb 124 = .ok (.iinc 7 1, 3) := by decide +kernel
theorem dX11_disturb_127 : decode cX11_disturb 127 = .ok (.goto (-37), 3) := by decide +kernel
theorem dX11_disturb_130 : decode cX11_disturb 130 = .ok (.iload 5, 2) := by decide +kernel
theorem dX11_disturb_132 : decode cX11_disturb 132 = .ok (.ireturn, 1) := by decide +kernel
theorem dX11_bit_0 : decode cX11_bit 0 = .ok (.aload_n 0, 1) := by decide +kernel
theorem dX11_bit_1 : decode cX11_bit 1 = .ok (.getfield 24, 3) := by decide +kernel
theorem dX11_bit_4 : decode cX11_bit 4 = .ok (.iload_n 1, 1) := by decide +kernel
theorem dX11_bit_5 : decode cX11_bit 5 = .ok (.invokevirtual 122, 3) := by decide +kernel
theorem dX11_bit_8 : decode cX11_bit 8 = .ok (.ifCond .eq 14, 3) := by decide +kernel
theorem dX11_bit_11 : decode cX11_bit 11 = .ok (.aload_n 0, 1) := by decide +kernel
theorem dX11_bit_12 : decode cX11_bit 12 = .ok (.getfield 24, 3) := by decide +kernel
theorem dX11_bit_15 : decode cX11_bit 15 = .ok (.iload_n 1, 1) := by decide +kernel
theorem dX11_bit_16 : decode cX11_bit 16 = .ok (.invokevirtual 131, 3) := by decide +kernel
theorem dX11_bit_19 : decode cX11_bit 19 = .ok (.goto 4, 3) := by decide +kernel
theorem dX11_bit_22 : decode cX11_bit 22 = .ok (.iconst (-1), 1) := by decide +kernel
theorem dX11_bit_23 : decode cX11_bit 23 = .ok (.ireturn, 1) := by decide +kernel
theorem dX11_empty_0 : decode cX11_empty 0 = .ok (.aload_n 0, 1) := by decide +kernel
theorem dX11_empty_1 : decode cX11_empty 1 = .ok (.getfield 24, 3) := by decide +kernel
theorem dX11_empty_4 : decode cX11_empty 4 = .ok (.getfield 96, 3) := by decide +kernel
theorem dX11_empty_7 : decode cX11_empty 7 = .ok (.istore_n 1, 1) := by decide +kernel
theorem dX11_empty_8 : decode cX11_empty 8 = .ok (.aload_n 0, 1) := by decide +kernel
theorem dX11_empty_9 : decode cX11_empty 9 = .ok (.getfield 24, 3) := by decide +kernel
theorem dX11_empty_12 : decode cX11_empty 12 = .ok (.invokevirtual 145, 3) := by decide +kernel
theorem dX11_empty_15 : decode cX11_empty 15 = .ok (.aload_n 0, 1) := by decide +kernel
theorem dX11_empty_16 : decode cX11_empty 16 = .ok (.getfield 31, 3) := by decide +kernel
theorem dX11_empty_19 : decode cX11_empty 19 = .ok (.invokevirtual 148, 3) := by decide +kernel
theorem dX11_empty_22 : decode cX11_empty 22 = .ok (.iload_n 1, 1) := by decide +kernel
theorem dX11_empty_23 : decode cX11_empty 23 = .ok (.ireturn, 1) := by decide +kernel
theorem dX11_terms_0 : decode cX11_terms 0 = .ok (.iload_n 1, 1) := by decide +kernel
theorem dX11_terms_1 : decode cX11_terms 1 = .ok (.iconst 0, 1) := by decide +kernel
theorem dX11_terms_2 : decode cX11_terms 2 = .ok (.bipush 6, 2) := by decide +kernel
theorem dX11_terms_4 : decode cX11_terms 4 = .ok (.invokestatic 100, 3) := by decide +kernel
theorem dX11_terms_7 : decode cX11_terms 7 = .ok (.ifCond .ne 6, 3) := by decide +kernel
theorem dX11_terms_10 : decode cX11_terms 10 = .ok (.bipush (-2), 2) := by decide +kernel
theorem dX11_terms_12 : decode cX11_terms 12 = .ok (.ireturn, 1) := by decide +kernel
theorem dX11_terms_13 : decode cX11_terms 13 = .ok (.iload_n 2, 1) := by decide +kernel
theorem dX11_terms_14 : decode cX11_terms 14 = .ok (.getstatic 151, 3) := by decide +kernel
theorem dX11_terms_17 : decode cX11_terms 17 = .ok (.iload_n 1, 1) := by decide +kernel
theorem dX11_terms_18 : decode cX11_terms 18 = .ok (.iaload, 1) := by decide +kernel
theorem dX11_terms_19 : decode cX11_terms 19 = .ok (.getstatic 154, 3) := by decide +kernel
theorem dX11_terms_22 : decode cX11_terms 22 = .ok (.iload_n 1, 1) := by decide +kernel
theorem dX11_terms_23 : decode cX11_terms 23 = .ok (.iaload, 1) := by decide +kernel
theorem dX11_terms_24 : decode cX11_terms 24 = .ok (.invokestatic 100, 3) := by decide +kernel
theorem dX11_terms_27 : decode cX11_terms 27 = .ok (.ifCond .ne 6, 3) := by decide +kernel
theorem dX11_terms_30 : decode cX11_terms 30 = .ok (.bipush (-3), 2) := by decide +kernel
theorem dX11_terms_32 : decode cX11_terms 32 = .ok (.ireturn, 1) := by decide +kernel
theorem dX11_terms_33 : decode cX11_terms 33 = .ok (.iload_n 1, 1) := by decide +kernel
theorem dX11_terms_34 : decode cX11_terms 34 = .ok (.ifCond .ne 13, 3) := by decide +kernel
theorem dX11_terms_37 : decode cX11_terms 37 = .ok (.aload_n 0, 1) := by decide +kernel
theorem dX11_terms_38 : decode cX11_terms 38 = .ok (.invokevirtual 157, 3) := by decide +kernel
theorem dX11_terms_41 : decode cX11_terms 41 = .ok (.ifCond .eq 6, 3) := by decide +kernel
theorem dX11_terms_44 : decode cX11_terms 44 = .ok (.bipush (-5), 2) := by decide +kernel
theorem dX11_terms_46 : decode cX11_terms 46 = .ok (.ireturn, 1) := by decide +kernel
theorem dX11_terms_47 : decode cX11_terms 47 = .ok (.aload_n 0, 1) := by decide +kernel
theorem dX11_terms_48 : decode cX11_terms 48 = .ok (.getfield 18, 3) := by decide +kernel
theorem dX11_terms_51 : decode cX11_terms 51 = .ok (.iload_n 1, 1) := by decide +kernel
theorem dX11_terms_52 : decode cX11_terms 52 = .ok (.iaload, 1) := by decide +kernel
theorem dX11_terms_53 : decode cX11_terms 53 = .ok (.istore_n 3, 1) := by decide +kernel
theorem dX11_terms_54 : decode cX11_terms 54 = .ok (.aload_n 0, 1) := by decide +kernel
theorem dX11_terms_55 : decode cX11_terms 55 = .ok (.getfield 18, 3) := by decide +kernel
theorem dX11_terms_58 : decode cX11_terms 58 = .ok (.iload_n 1, 1) := by decide +kernel
theorem dX11_terms_59 : decode cX11_terms 59 = .ok (.iload_n 2, 1) := by decide +kernel
theorem dX11_terms_60 : decode cX11_terms 60 = .ok (.iastore, 1) := by decide +kernel
theorem dX11_terms_61 : decode cX11_terms 61 = .ok (.iload_n 3, 1) := by decide +kernel
theorem dX11_terms_62 : decode cX11_terms 62 = .ok (.ireturn, 1) := by decide +kernel
theorem dX11_take_0 : decode cX11_take 0 = .ok (.iload_n 1, 1) := by decide +kernel
theorem dX11_take_1 : decode cX11_take 1 = .ok (.iconst 1, 1) := by decide +kernel
theorem dX11_take_2 : decode cX11_take 2 = .ok (.sipush 9600, 3) := by decide +kernel
theorem dX11_take_5 : decode cX11_take 5 = .ok (.invokestatic 100, 3) := by decide +kernel
theorem dX11_take_8 : decode cX11_take 8 = .ok (.ifCond .ne 6, 3) := by decide +kernel
theorem dX11_take_11 : decode cX11_take 11 = .ok (.bipush (-3), 2) := by decide +kernel
theorem dX11_take_13 : decode cX11_take 13 = .ok (.ireturn, 1) := by decide +kernel
theorem dX11_take_14 : decode cX11_take 14 = .ok (.aload_n 0, 1) := by decide +kernel
theorem dX11_take_15 : decode cX11_take 15 = .ok (.iload_n 1, 1) := by decide +kernel
theorem dX11_take_16 : decode cX11_take 16 = .ok (.invokevirtual 161, 3) := by decide +kernel
theorem dX11_take_19 : decode cX11_take 19 = .ok (.istore_n 2, 1) := by decide +kernel
theorem dX11_take_20 : decode cX11_take 20 = .ok (.aload_n 0, 1) := by decide +kernel
theorem dX11_take_21 : decode cX11_take 21 = .ok (.aload_n 0, 1) := by decide +kernel
theorem dX11_take_22 : decode cX11_take 22 = .ok (.getfield 47, 3) := by decide +kernel
theorem dX11_take_25 : decode cX11_take 25 = .ok (.iload_n 2, 1) := by decide +kernel
theorem dX11_take_26 : decode cX11_take 26 = .ok (.iconst (-1), 1) := by decide +kernel
theorem dX11_take_27 : decode cX11_take 27 = .ok (.invokevirtual 164, 3) := by decide +kernel
theorem dX11_take_30 : decode cX11_take 30 = .ok (.aload_n 0, 1) := by decide +kernel
theorem dX11_take_31 : decode cX11_take 31 = .ok (.getfield 24, 3) := by decide +kernel
theorem dX11_take_34 : decode cX11_take 34 = .ok (.iload_n 2, 1) := by decide +kernel
theorem dX11_take_35 : decode cX11_take 35 = .ok (.putfield 125, 3) := by decide +kernel
theorem dX11_take_38 : decode cX11_take 38 = .ok (.aload_n 0, 1) := by decide +kernel
theorem dX11_take_39 : decode cX11_take 39 = .ok (.getfield 47, 3) := by decide +kernel
theorem dX11_take_42 : decode cX11_take 42 = .ok (.getfield 168, 3) := by decide +kernel
theorem dX11_take_45 : decode cX11_take 45 = .ok (.ireturn, 1) := by decide +kernel
theorem dX11_fresh_0 : decode cX11_fresh 0 = .ok (.aload_n 0, 1) := by decide +kernel
theorem dX11_fresh_1 : decode cX11_fresh 1 = .ok (.getfield 47, 3) := by decide +kernel
theorem dX11_fresh_4 : decode cX11_fresh 4 = .ok (.getfield 171, 3) := by decide +kernel
theorem dX11_fresh_7 : decode cX11_fresh 7 = .ok (.iconst 3, 1) := by decide +kernel
theorem dX11_fresh_8 : decode cX11_fresh 8 = .ok (.iaload, 1) := by decide +kernel
theorem dX11_fresh_9 : decode cX11_fresh 9 = .ok (.istore_n 1, 1) := by decide +kernel
theorem dX11_fresh_10 : decode cX11_fresh 10 = .ok (.aload_n 0, 1) := by decide +kernel
theorem dX11_fresh_11 : decode cX11_fresh 11 = .ok (.getfield 47, 3) := by decide +kernel
theorem dX11_fresh_14 : decode cX11_fresh 14 = .ok (.invokevirtual 174, 3) := by decide +kernel
theorem dX11_fresh_17 : decode cX11_fresh 17 = .ok (.aload_n 0, 1) := by decide +kernel
theorem dX11_fresh_18 : decode cX11_fresh 18 = .ok (.getfield 38, 3) := by decide +kernel
theorem dX11_fresh_21 : decode cX11_fresh 21 = .ok (.invokevirtual 175, 3) := by decide +kernel
theorem dX11_fresh_24 : decode cX11_fresh 24 = .ok (.iload_n 1, 1) := by decide +kernel
theorem dX11_fresh_25 : decode cX11_fresh 25 = .ok (.ireturn, 1) := by decide +kernel
theorem dX11_stage_0 : decode cX11_stage 0 = .ok (.iload_n 1, 1) := by decide +kernel
theorem dX11_stage_1 : decode cX11_stage 1 = .ok (.iconst 0, 1) := by decide +kernel
theorem dX11_stage_2 : decode cX11_stage 2 = .ok (.iconst 1, 1) := by decide +kernel
theorem dX11_stage_3 : decode cX11_stage 3 = .ok (.invokestatic 100, 3) := by decide +kernel
theorem dX11_stage_6 : decode cX11_stage 6 = .ok (.ifCond .eq 13, 3) := by decide +kernel
theorem dX11_stage_9 : decode cX11_stage 9 = .ok (.iload_n 2, 1) := by decide +kernel
theorem dX11_stage_10 : decode cX11_stage 10 = .ok (.iconst 0, 1) := by decide +kernel
theorem dX11_stage_11 : decode cX11_stage 11 = .ok (.bipush 42, 2) := by decide +kernel
theorem dX11_stage_13 : decode cX11_stage 13 = .ok (.invokestatic 100, 3) := by decide +kernel
theorem dX11_stage_16 : decode cX11_stage 16 = .ok (.ifCond .ne 6, 3) := by decide +kernel
theorem dX11_stage_19 : decode cX11_stage 19 = .ok (.bipush (-2), 2) := by decide +kernel
theorem dX11_stage_21 : decode cX11_stage 21 = .ok (.ireturn, 1) := by decide +kernel
theorem dX11_stage_22 : decode cX11_stage 22 = .ok (.iload_n 1, 1) := by decide +kernel
theorem dX11_stage_23 : decode cX11_stage 23 = .ok (.ifCond .ne 17, 3) := by decide +kernel
theorem dX11_stage_26 : decode cX11_stage 26 = .ok (.aload_n 0, 1) := by decide +kernel
theorem dX11_stage_27 : decode cX11_stage 27 = .ok (.getfield 31, 3) := by decide +kernel
theorem dX11_stage_30 : decode cX11_stage 30 = .ok (.getfield 176, 3) := by decide +kernel
theorem dX11_stage_33 : decode cX11_stage 33 = .ok (.iload_n 2, 1) := by decide +kernel
theorem dX11_stage_34 : decode cX11_stage 34 = .ok (.invokevirtual 180, 3) := by decide +kernel
theorem dX11_stage_37 : decode cX11_stage 37 = .ok (.goto 14, 3) := by decide +kernel
theorem dX11_stage_40 : decode cX11_stage 40 = .ok (.aload_n 0, 1) := by decide +kernel
theorem dX11_stage_41 : decode cX11_stage 41 = .ok (.getfield 47, 3) := by decide +kernel
theorem dX11_stage_44 : decode cX11_stage 44 = .ok (.getfield 185, 3) := by decide +kernel
theorem dX11_stage_47 : decode cX11_stage 47 = .ok (.iload_n 2, 1) := by decide +kernel
theorem dX11_stage_48 : decode cX11_stage 48 = .ok (.invokevirtual 180, 3) := by decide +kernel
theorem dX11_stage_51 : decode cX11_stage 51 = .ok (.ireturn, 1) := by decide +kernel
theorem dX11_stages_0 : decode cX11_stages 0 = .ok (.iload_n 1, 1) := by decide +kernel
theorem dX11_stages_1 : decode cX11_stages 1 = .ok (.iconst 0, 1) := by decide +kernel
theorem dX11_stages_2 : decode cX11_stages 2 = .ok (.sipush 2047, 3) := by decide +kernel
theorem dX11_stages_5 : decode cX11_stages 5 = .ok (.invokestatic 100, 3) := by decide +kernel
theorem dX11_stages_8 : decode cX11_stages 8 = .ok (.ifCond .ne 6, 3) := by decide +kernel
theorem dX11_stages_11 : decode cX11_stages 11 = .ok (.bipush (-3), 2) := by decide +kernel
theorem dX11_stages_13 : decode cX11_stages 13 = .ok (.ireturn, 1) := by decide +kernel
theorem dX11_stages_14 : decode cX11_stages 14 = .ok (.aload_n 0, 1) := by decide +kernel
theorem dX11_stages_15 : decode cX11_stages 15 = .ok (.getfield 47, 3) := by decide +kernel
theorem dX11_stages_18 : decode cX11_stages 18 = .ok (.getfield 185, 3) := by decide +kernel
theorem dX11_stages_21 : decode cX11_stages 21 = .ok (.iload_n 1, 1) := by decide +kernel
theorem dX11_stages_22 : decode cX11_stages 22 = .ok (.iload_n 2, 1) := by decide +kernel
theorem dX11_stages_23 : decode cX11_stages 23 = .ok (.invokevirtual 186, 3) := by decide +kernel
theorem dX11_stages_26 : decode cX11_stages 26 = .ok (.aload_n 0, 1) := by decide +kernel
theorem dX11_stages_27 : decode cX11_stages 27 = .ok (.getfield 47, 3) := by decide +kernel
theorem dX11_stages_30 : decode cX11_stages 30 = .ok (.getfield 185, 3) := by decide +kernel
theorem dX11_stages_33 : decode cX11_stages 33 = .ok (.invokevirtual 189, 3) := by decide +kernel
theorem dX11_stages_36 : decode cX11_stages 36 = .ok (.ireturn, 1) := by decide +kernel
theorem dX11_state_0 : decode cX11_state 0 = .ok (.iload_n 1, 1) := by decide +kernel
theorem dX11_state_1 : decode cX11_state 1 = .ok (.tableswitch 186 0 10 #[59, 67, 75, 83, 91, 99, 107, 123, 151, 162, 178], 59) := by decide +kernel
theorem dX11_state_60 : decode cX11_state 60 = .ok (.aload_n 0, 1) := by decide +kernel
theorem dX11_state_61 : decode cX11_state 61 = .ok (.getfield 47, 3) := by decide +kernel
theorem dX11_state_64 : decode cX11_state 64 = .ok (.getfield 168, 3) := by decide +kernel
theorem dX11_state_67 : decode cX11_state 67 = .ok (.ireturn, 1) := by decide +kernel
theorem dX11_state_68 : decode cX11_state 68 = .ok (.aload_n 0, 1) := by decide +kernel
theorem dX11_state_69 : decode cX11_state 69 = .ok (.getfield 47, 3) := by decide +kernel
theorem dX11_state_72 : decode cX11_state 72 = .ok (.getfield 193, 3) := by decide +kernel
theorem dX11_state_75 : decode cX11_state 75 = .ok (.ireturn, 1) := by decide +kernel
theorem dX11_state_76 : decode cX11_state 76 = .ok (.aload_n 0, 1) := by decide +kernel
theorem dX11_state_77 : decode cX11_state 77 = .ok (.getfield 47, 3) := by decide +kernel
theorem dX11_state_80 : decode cX11_state 80 = .ok (.getfield 196, 3) := by decide +kernel
theorem dX11_state_83 : decode cX11_state 83 = .ok (.ireturn, 1) := by decide +kernel
theorem dX11_state_84 : decode cX11_state 84 = .ok (.aload_n 0, 1) := by decide +kernel
theorem dX11_state_85 : decode cX11_state 85 = .ok (.getfield 47, 3) := by decide +kernel
theorem dX11_state_88 : decode cX11_state 88 = .ok (.getfield 199, 3) := by decide +kernel
theorem dX11_state_91 : decode cX11_state 91 = .ok (.ireturn, 1) := by decide +kernel
theorem dX11_state_92 : decode cX11_state 92 = .ok (.aload_n 0, 1) := by decide +kernel
theorem dX11_state_93 : decode cX11_state 93 = .ok (.getfield 47, 3) := by decide +kernel
theorem dX11_state_96 : decode cX11_state 96 = .ok (.invokevirtual 202, 3) := by decide +kernel
theorem dX11_state_99 : decode cX11_state 99 = .ok (.ireturn, 1) := by decide +kernel
theorem dX11_state_100 : decode cX11_state 100 = .ok (.aload_n 0, 1) := by decide +kernel
theorem dX11_state_101 : decode cX11_state 101 = .ok (.getfield 47, 3) := by decide +kernel
theorem dX11_state_104 : decode cX11_state 104 = .ok (.invokevirtual 205, 3) := by decide +kernel
theorem dX11_state_107 : decode cX11_state 107 = .ok (.ireturn, 1) := by decide +kernel
theorem dX11_state_108 : decode cX11_state 108 = .ok (.aload_n 0, 1) := by decide +kernel
theorem dX11_state_109 : decode cX11_state 109 = .ok (.getfield 47, 3) := by decide +kernel
theorem dX11_state_112 : decode cX11_state 112 = .ok (.getfield 208, 3) := by decide +kernel
theorem dX11_state_115 : decode cX11_state 115 = .ok (.ifCond .eq 7, 3) := by decide +kernel
theorem dX11_state_118 : decode cX11_state 118 = .ok (.iconst 1, 1) := by decide +kernel
theorem dX11_state_119 : decode cX11_state 119 = .ok (.goto 4, 3) := by decide +kernel
theorem dX11_state_122 : decode cX11_state 122 = .ok (.iconst 0, 1) := by decide +kernel
theorem dX11_state_123 : decode cX11_state 123 = .ok (.ireturn, 1) := by decide +kernel
theorem dX11_state_124 : decode cX11_state 124 = .ok (.aload_n 0, 1) := by decide +kernel
theorem dX11_state_125 : decode cX11_state 125 = .ok (.getfield 47, 3) := by decide +kernel
theorem dX11_state_128 : decode cX11_state 128 = .ok (.getfield 212, 3) := by decide +kernel
theorem dX11_state_131 : decode cX11_state 131 = .ok (.invokevirtual 215, 3) := by decide +kernel
theorem dX11_state_134 : decode cX11_state 134 = .ok (.ifCond .eq 16, 3) := by decide +kernel
theorem dX11_state_137 : decode cX11_state 137 = .ok (.aload_n 0, 1) := by decide +kernel
theorem dX11_state_138 : decode cX11_state 138 = .ok (.getfield 47, 3) := by decide +kernel
theorem dX11_state_141 : decode cX11_state 141 = .ok (.getfield 212, 3) := by decide +kernel
theorem dX11_state_144 : decode cX11_state 144 = .ok (.invokevirtual 218, 3) := by decide +kernel
theorem dX11_state_147 : decode cX11_state 147 = .ok (.goto 4, 3) := by decide +kernel
theorem dX11_state_150 : decode cX11_state 150 = .ok (.iconst (-1), 1) := by decide +kernel
theorem dX11_state_151 : decode cX11_state 151 = .ok (.ireturn, 1) := by decide +kernel
theorem dX11_state_152 : decode cX11_state 152 = .ok (.aload_n 0, 1) := by decide +kernel
theorem dX11_state_153 : decode cX11_state 153 = .ok (.getfield 47, 3) := by decide +kernel
theorem dX11_state_156 : decode cX11_state 156 = .ok (.getfield 212, 3) := by decide +kernel
theorem dX11_state_159 : decode cX11_state 159 = .ok (.getfield 221, 3) := by decide +kernel
theorem dX11_state_162 : decode cX11_state 162 = .ok (.ireturn, 1) := by decide +kernel
theorem dX11_state_163 : decode cX11_state 163 = .ok (.aload_n 0, 1) := by decide +kernel
theorem dX11_state_164 : decode cX11_state 164 = .ok (.getfield 47, 3) := by decide +kernel
theorem dX11_state_167 : decode cX11_state 167 = .ok (.getfield 224, 3) := by decide +kernel
theorem dX11_state_170 : decode cX11_state 170 = .ok (.ifCond .eq 7, 3) := by decide +kernel
theorem dX11_state_173 : decode cX11_state 173 = .ok (.iconst 1, 1) := by decide +kernel
theorem dX11_state_174 : decode cX11_state 174 = .ok (.goto 4, 3) := by decide +kernel
theorem dX11_state_177 : decode cX11_state 177 = .ok (.iconst 0, 1) := by decide +kernel
theorem dX11_state_178 : decode cX11_state 178 = .ok (.ireturn, 1) := by decide +kernel
theorem dX11_state_179 : decode cX11_state 179 = .ok (.aload_n 0, 1) := by decide +kernel
theorem dX11_state_180 : decode cX11_state 180 = .ok (.getfield 47, 3) := by decide +kernel
theorem dX11_state_183 : decode cX11_state 183 = .ok (.getfield 227, 3) := by decide +kernel
theorem dX11_state_186 : decode cX11_state 186 = .ok (.ireturn, 1) := by decide +kernel
theorem dX11_state_187 : decode cX11_state 187 = .ok (.bipush (-2), 2) := by decide +kernel
theorem dX11_state_189 : decode cX11_state 189 = .ok (.ireturn, 1) := by decide +kernel
theorem dX11_count_0 : decode cX11_count 0 = .ok (.iload_n 1, 1) := by decide +kernel
theorem dX11_count_1 : decode cX11_count 1 = .ok (.iconst 0, 1) := by decide +kernel
theorem dX11_count_2 : decode cX11_count 2 = .ok (.bipush 13, 2) := by decide +kernel
theorem dX11_count_4 : decode cX11_count 4 = .ok (.invokestatic 100, 3) := by decide +kernel
theorem dX11_count_7 : decode cX11_count 7 = .ok (.ifCond .eq 15, 3) := by decide +kernel
theorem dX11_count_10 : decode cX11_count 10 = .ok (.aload_n 0, 1) := by decide +kernel
theorem dX11_count_11 : decode cX11_count 11 = .ok (.getfield 47, 3) := by decide +kernel
theorem dX11_count_14 : decode cX11_count 14 = .ok (.getfield 171, 3) := by decide +kernel
theorem dX11_count_17 : decode cX11_count 17 = .ok (.iload_n 1, 1) := by decide +kernel
theorem dX11_count_18 : decode cX11_count 18 = .ok (.iaload, 1) := by decide +kernel
theorem dX11_count_19 : decode cX11_count 19 = .ok (.goto 5, 3) := by decide +kernel
theorem dX11_count_22 : decode cX11_count 22 = .ok (.bipush (-2), 2) := by decide +kernel
theorem dX11_count_24 : decode cX11_count 24 = .ok (.ireturn, 1) := by decide +kernel
theorem dX11_delivered_0 : decode cX11_delivered 0 = .ok (.iload_n 2, 1) := by decide +kernel
theorem dX11_delivered_1 : decode cX11_delivered 1 = .ok (.iconst 0, 1) := by decide +kernel
theorem dX11_delivered_2 : decode cX11_delivered 2 = .ok (.iconst 3, 1) := by decide +kernel
theorem dX11_delivered_3 : decode cX11_delivered 3 = .ok (.invokestatic 100, 3) := by decide +kernel
theorem dX11_delivered_6 : decode cX11_delivered 6 = .ok (.ifCond .eq 17, 3) := by decide +kernel
theorem dX11_delivered_9 : decode cX11_delivered 9 = .ok (.aload_n 0, 1) := by decide +kernel
theorem dX11_delivered_10 : decode cX11_delivered 10 = .ok (.getfield 38, 3) := by decide +kernel
theorem dX11_delivered_13 : decode cX11_delivered 13 = .ok (.getfield 230, 3) := by decide +kernel
theorem dX11_delivered_16 : decode cX11_delivered 16 = .ok (.iload_n 1, 1) := by decide +kernel
theorem dX11_delivered_17 : decode cX11_delivered 17 = .ok (.invokevirtual 234, 3) := by decide +kernel
theorem dX11_delivered_20 : decode cX11_delivered 20 = .ok (.ifCond .ne 6, 3) := by decide +kernel
theorem dX11_delivered_23 : decode cX11_delivered 23 = .ok (.bipush (-2), 2) := by decide +kernel
theorem dX11_delivered_25 : decode cX11_delivered 25 = .ok (.ireturn, 1) := by decide +kernel
theorem dX11_delivered_26 : decode cX11_delivered 26 = .ok (.iload_n 2, 1) := by decide +kernel
theorem dX11_delivered_27 : decode cX11_delivered 27 = .ok (.iconst 3, 1) := by decide +kernel
theorem dX11_delivered_28 : decode cX11_delivered 28 = .ok (.if_icmp .ne 11, 3) := by decide +kernel
theorem dX11_delivered_31 : decode cX11_delivered 31 = .ok (.aload_n 0, 1) := by decide +kernel
theorem dX11_delivered_32 : decode cX11_delivered 32 = .ok (.iload_n 1, 1) := by decide +kernel
theorem dX11_delivered_33 : decode cX11_delivered 33 = .ok (.invokevirtual 239, 3) := by decide +kernel
theorem dX11_delivered_36 : decode cX11_delivered 36 = .ok (.goto 15, 3) := by decide +kernel
theorem dX11_delivered_39 : decode cX11_delivered 39 = .ok (.aload_n 0, 1) := by decide +kernel
theorem dX11_delivered_40 : decode cX11_delivered 40 = .ok (.getfield 38, 3) := by decide +kernel
theorem dX11_delivered_43 : decode cX11_delivered 43 = .ok (.getfield 230, 3) := by decide +kernel
theorem dX11_delivered_46 : decode cX11_delivered 46 = .ok (.iload_n 1, 1) := by decide +kernel
theorem dX11_delivered_47 : decode cX11_delivered 47 = .ok (.iload_n 2, 1) := by decide +kernel
theorem dX11_delivered_48 : decode cX11_delivered 48 = .ok (.invokevirtual 242, 3) := by decide +kernel
theorem dX11_delivered_51 : decode cX11_delivered 51 = .ok (.ireturn, 1) := by decide +kernel
theorem dX11_load_0 : decode cX11_load 0 = .ok (.aload_n 0, 1) := by decide +kernel
theorem dX11_load_1 : decode cX11_load 1 = .ok (.getfield 38, 3) := by decide +kernel
theorem dX11_load_4 : decode cX11_load 4 = .ok (.getfield 230, 3) := by decide +kernel
theorem dX11_load_7 : decode cX11_load 7 = .ok (.iload_n 1, 1) := by decide +kernel
theorem dX11_load_8 : decode cX11_load 8 = .ok (.invokevirtual 234, 3) := by decide +kernel
theorem dX11_load_11 : decode cX11_load 11 = .ok (.ifCond .ne 6, 3) := by decide +kernel
theorem dX11_load_14 : decode cX11_load 14 = .ok (.bipush (-2), 2) := by decide +kernel
theorem dX11_load_16 : decode cX11_load 16 = .ok (.ireturn, 1) := by decide +kernel
theorem dX11_load_17 : decode cX11_load 17 = .ok (.iload_n 2, 1) := by decide +kernel
theorem dX11_load_18 : decode cX11_load 18 = .ok (.iconst 0, 1) := by decide +kernel
theorem dX11_load_19 : decode cX11_load 19 = .ok (.aload_n 0, 1) := by decide +kernel
theorem dX11_load_20 : decode cX11_load 20 = .ok (.getfield 18, 3) := by decide +kernel
theorem dX11_load_23 : decode cX11_load 23 = .ok (.iconst 0, 1) := by decide +kernel
theorem dX11_load_24 : decode cX11_load 24 = .ok (.iaload, 1) := by decide +kernel
theorem dX11_load_25 : decode cX11_load 25 = .ok (.iconst 1, 1) := by decide +kernel
theorem dX11_load_26 : decode cX11_load 26 = .ok (.isub, 1) := by decide +kernel
theorem dX11_load_27 : decode cX11_load 27 = .ok (.invokestatic 100, 3) := by decide +kernel
theorem dX11_load_30 : decode cX11_load 30 = .ok (.ifCond .eq 15, 3) := by decide +kernel
theorem dX11_load_33 : decode cX11_load 33 = .ok (.aload_n 0, 1) := by decide +kernel
theorem dX11_load_34 : decode cX11_load 34 = .ok (.getfield 38, 3) := by decide +kernel
theorem dX11_load_37 : decode cX11_load 37 = .ok (.iload_n 1, 1) := by decide +kernel
theorem dX11_load_38 : decode cX11_load 38 = .ok (.iload_n 2, 1) := by decide +kernel
theorem dX11_load_39 : decode cX11_load 39 = .ok (.invokevirtual 246, 3) := by decide +kernel
theorem dX11_load_42 : decode cX11_load 42 = .ok (.goto 4, 3) := by decide +kernel
theorem dX11_load_45 : decode cX11_load 45 = .ok (.iconst (-1), 1) := by decide +kernel
theorem dX11_load_46 : decode cX11_load 46 = .ok (.ireturn, 1) := by decide +kernel
theorem dX11_field_0 : decode cX11_field 0 = .ok (.iload_n 2, 1) := by decide +kernel
theorem dX11_field_1 : decode cX11_field 1 = .ok (.iconst 0, 1) := by decide +kernel
theorem dX11_field_2 : decode cX11_field 2 = .ok (.iconst 4, 1) := by decide +kernel
theorem dX11_field_3 : decode cX11_field 3 = .ok (.invokestatic 100, 3) := by decide +kernel
theorem dX11_field_6 : decode cX11_field 6 = .ok (.ifCond .eq 17, 3) := by decide +kernel
theorem dX11_field_9 : decode cX11_field 9 = .ok (.aload_n 0, 1) := by decide +kernel
theorem dX11_field_10 : decode cX11_field 10 = .ok (.getfield 38, 3) := by decide +kernel
theorem dX11_field_13 : decode cX11_field 13 = .ok (.getfield 230, 3) := by decide +kernel
theorem dX11_field_16 : decode cX11_field 16 = .ok (.iload_n 1, 1) := by decide +kernel
theorem dX11_field_17 : decode cX11_field 17 = .ok (.invokevirtual 234, 3) := by decide +kernel
theorem dX11_field_20 : decode cX11_field 20 = .ok (.ifCond .ne 6, 3) := by decide +kernel
theorem dX11_field_23 : decode cX11_field 23 = .ok (.bipush (-2), 2) := by decide +kernel
theorem dX11_field_25 : decode cX11_field 25 = .ok (.ireturn, 1) := by decide +kernel
theorem dX11_field_26 : decode cX11_field 26 = .ok (.aload_n 0, 1) := by decide +kernel
theorem dX11_field_27 : decode cX11_field 27 = .ok (.getfield 38, 3) := by decide +kernel
theorem dX11_field_30 : decode cX11_field 30 = .ok (.getfield 230, 3) := by decide +kernel
theorem dX11_field_33 : decode cX11_field 33 = .ok (.iload_n 1, 1) := by decide +kernel
theorem dX11_field_34 : decode cX11_field 34 = .ok (.iconst 0, 1) := by decide +kernel
theorem dX11_field_35 : decode cX11_field 35 = .ok (.invokevirtual 242, 3) := by decide +kernel
theorem dX11_field_38 : decode cX11_field 38 = .ok (.istore_n 3, 1) := by decide +kernel
theorem dX11_field_39 : decode cX11_field 39 = .ok (.iload_n 2, 1) := by decide +kernel
theorem dX11_field_40 : decode cX11_field 40 = .ok (.tableswitch 60 0 3 #[32, 37, 46, 53], 32) := by decide +kernel
theorem dX11_field_72 : decode cX11_field 72 = .ok (.iload_n 3, 1) := by decide +kernel
theorem dX11_field_73 : decode cX11_field 73 = .ok (.bipush 28, 2) := by decide +kernel
theorem dX11_field_75 : decode cX11_field 75 = .ok (.iushr, 1) := by decide +kernel
theorem dX11_field_76 : decode cX11_field 76 = .ok (.ireturn, 1) := by decide +kernel
theorem dX11_field_77 : decode cX11_field 77 = .ok (.iload_n 3, 1) := by decide +kernel
theorem dX11_field_78 : decode cX11_field 78 = .ok (.bipush 20, 2) := by decide +kernel
theorem dX11_field_80 : decode cX11_field 80 = .ok (.iushr, 1) := by decide +kernel
theorem dX11_field_81 : decode cX11_field 81 = .ok (.sipush 255, 3) := by decide +kernel
theorem dX11_field_84 : decode cX11_field 84 = .ok (.iand, 1) := by decide +kernel
theorem dX11_field_85 : decode cX11_field 85 = .ok (.ireturn, 1) := by decide +kernel
theorem dX11_field_86 : decode cX11_field 86 = .ok (.iload_n 3, 1) := by decide +kernel
theorem dX11_field_87 : decode cX11_field 87 = .ok (.iconst 4, 1) := by decide +kernel
theorem dX11_field_88 : decode cX11_field 88 = .ok (.iushr, 1) := by decide +kernel
theorem dX11_field_89 : decode cX11_field 89 = .ok (.ldc 249, 2) := by decide +kernel
theorem dX11_field_91 : decode cX11_field 91 = .ok (.iand, 1) := by decide +kernel
theorem dX11_field_92 : decode cX11_field 92 = .ok (.ireturn, 1) := by decide +kernel
theorem dX11_field_93 : decode cX11_field 93 = .ok (.iload_n 3, 1) := by decide +kernel
theorem dX11_field_94 : decode cX11_field 94 = .ok (.iconst 1, 1) := by decide +kernel
theorem dX11_field_95 : decode cX11_field 95 = .ok (.iushr, 1) := by decide +kernel
theorem dX11_field_96 : decode cX11_field 96 = .ok (.bipush 7, 2) := by decide +kernel
theorem dX11_field_98 : decode cX11_field 98 = .ok (.iand, 1) := by decide +kernel
theorem dX11_field_99 : decode cX11_field 99 = .ok (.ireturn, 1) := by decide +kernel
theorem dX11_field_100 : decode cX11_field 100 = .ok (.iload_n 3, 1) := by decide +kernel
theorem dX11_field_101 : decode cX11_field 101 = .ok (.iconst 1, 1) := by decide +kernel
theorem dX11_field_102 : decode cX11_field 102 = .ok (.iand, 1) := by decide +kernel
theorem dX11_field_103 : decode cX11_field 103 = .ok (.ireturn, 1) := by decide +kernel
theorem dX11_judged_0 : decode cX11_judged 0 = .ok (.iload_n 2, 1) := by decide +kernel
theorem dX11_judged_1 : decode cX11_judged 1 = .ok (.iconst 0, 1) := by decide +kernel
theorem dX11_judged_2 : decode cX11_judged 2 = .ok (.iconst 2, 1) := by decide +kernel
theorem dX11_judged_3 : decode cX11_judged 3 = .ok (.invokestatic 100, 3) := by decide +kernel
theorem dX11_judged_6 : decode cX11_judged 6 = .ok (.ifCond .eq 17, 3) := by decide +kernel
theorem dX11_judged_9 : decode cX11_judged 9 = .ok (.aload_n 0, 1) := by decide +kernel
theorem dX11_judged_10 : decode cX11_judged 10 = .ok (.getfield 38, 3) := by decide +kernel
theorem dX11_judged_13 : decode cX11_judged 13 = .ok (.getfield 250, 3) := by decide +kernel
theorem dX11_judged_16 : decode cX11_judged 16 = .ok (.iload_n 1, 1) := by decide +kernel
theorem dX11_judged_17 : decode cX11_judged 17 = .ok (.invokevirtual 234, 3) := by decide +kernel
theorem dX11_judged_20 : decode cX11_judged 20 = .ok (.ifCond .ne 6, 3) := by decide +kernel
theorem dX11_judged_23 : decode cX11_judged 23 = .ok (.bipush (-2), 2) := by decide +kernel
theorem dX11_judged_25 : decode cX11_judged 25 = .ok (.ireturn, 1) := by decide +kernel
theorem dX11_judged_26 : decode cX11_judged 26 = .ok (.aload_n 0, 1) := by decide +kernel
theorem dX11_judged_27 : decode cX11_judged 27 = .ok (.getfield 38, 3) := by decide +kernel
theorem dX11_judged_30 : decode cX11_judged 30 = .ok (.getfield 250, 3) := by decide +kernel
theorem dX11_judged_33 : decode cX11_judged 33 = .ok (.iload_n 1, 1) := by decide +kernel
theorem dX11_judged_34 : decode cX11_judged 34 = .ok (.iload_n 2, 1) := by decide +kernel
theorem dX11_judged_35 : decode cX11_judged 35 = .ok (.invokevirtual 242, 3) := by decide +kernel
theorem dX11_judged_38 : decode cX11_judged 38 = .ok (.ireturn, 1) := by decide +kernel
theorem dX11_turn_0 : decode cX11_turn 0 = .ok (.iload_n 2, 1) := by decide +kernel
theorem dX11_turn_1 : decode cX11_turn 1 = .ok (.iconst 0, 1) := by decide +kernel
theorem dX11_turn_2 : decode cX11_turn 2 = .ok (.iconst 2, 1) := by decide +kernel
theorem dX11_turn_3 : decode cX11_turn 3 = .ok (.invokestatic 100, 3) := by decide +kernel
theorem dX11_turn_6 : decode cX11_turn 6 = .ok (.ifCond .eq 17, 3) := by decide +kernel
theorem dX11_turn_9 : decode cX11_turn 9 = .ok (.aload_n 0, 1) := by decide +kernel
theorem dX11_turn_10 : decode cX11_turn 10 = .ok (.getfield 38, 3) := by decide +kernel
theorem dX11_turn_13 : decode cX11_turn 13 = .ok (.getfield 252, 3) := by decide +kernel
theorem dX11_turn_16 : decode cX11_turn 16 = .ok (.iload_n 1, 1) := by decide +kernel
theorem dX11_turn_17 : decode cX11_turn 17 = .ok (.invokevirtual 234, 3) := by decide +kernel
theorem dX11_turn_20 : decode cX11_turn 20 = .ok (.ifCond .ne 6, 3) := by decide +kernel
theorem dX11_turn_23 : decode cX11_turn 23 = .ok (.bipush (-2), 2) := by decide +kernel
theorem dX11_turn_25 : decode cX11_turn 25 = .ok (.ireturn, 1) := by decide +kernel
theorem dX11_turn_26 : decode cX11_turn 26 = .ok (.aload_n 0, 1) := by decide +kernel
theorem dX11_turn_27 : decode cX11_turn 27 = .ok (.getfield 38, 3) := by decide +kernel
theorem dX11_turn_30 : decode cX11_turn 30 = .ok (.getfield 252, 3) := by decide +kernel
theorem dX11_turn_33 : decode cX11_turn 33 = .ok (.iload_n 1, 1) := by decide +kernel
theorem dX11_turn_34 : decode cX11_turn 34 = .ok (.iload_n 2, 1) := by decide +kernel
theorem dX11_turn_35 : decode cX11_turn 35 = .ok (.invokevirtual 242, 3) := by decide +kernel
theorem dX11_turn_38 : decode cX11_turn 38 = .ok (.ireturn, 1) := by decide +kernel
theorem dX11_lost_0 : decode cX11_lost 0 = .ok (.lconst 0, 1) := by decide +kernel
theorem dX11_lost_1 : decode cX11_lost 1 = .ok (.lstore_n 1, 1) := by decide +kernel
theorem dX11_lost_2 : decode cX11_lost 2 = .ok (.aload_n 0, 1) := by decide +kernel
theorem dX11_lost_3 : decode cX11_lost 3 = .ok (.getfield 38, 3) := by decide +kernel
theorem dX11_lost_6 : decode cX11_lost 6 = .ok (.getfield 230, 3) := by decide +kernel
theorem dX11_lost_9 : decode cX11_lost 9 = .ok (.invokevirtual 255, 3) := by decide +kernel
theorem dX11_lost_12 : decode cX11_lost 12 = .ok (.istore_n 3, 1) := by decide +kernel
theorem dX11_lost_13 : decode cX11_lost 13 = .ok (.iload_n 3, 1) := by decide +kernel
theorem dX11_lost_14 : decode cX11_lost 14 = .ok (.aload_n 0, 1) := by decide +kernel
theorem dX11_lost_15 : decode cX11_lost 15 = .ok (.getfield 38, 3) := by decide +kernel
theorem dX11_lost_18 : decode cX11_lost 18 = .ok (.getfield 230, 3) := by decide +kernel
theorem dX11_lost_21 : decode cX11_lost 21 = .ok (.getfield 258, 3) := by decide +kernel
theorem dX11_lost_24 : decode cX11_lost 24 = .ok (.if_icmp .ge 29, 3) := by decide +kernel
theorem dX11_lost_27 : decode cX11_lost 27 = .ok (.aload_n 0, 1) := by decide +kernel
theorem dX11_lost_28 : decode cX11_lost 28 = .ok (.iload_n 3, 1) := by decide +kernel
theorem dX11_lost_29 : decode cX11_lost 29 = .ok (.invokevirtual 239, 3) := by decide +kernel
theorem dX11_lost_32 : decode cX11_lost 32 = .ok (.istore 4, 2) := by decide +kernel
theorem dX11_lost_34 : decode cX11_lost 34 = .ok (.iload 4, 2) := by decide +kernel
theorem dX11_lost_36 : decode cX11_lost 36 = .ok (.iconst (-1), 1) := by decide +kernel
theorem dX11_lost_37 : decode cX11_lost 37 = .ok (.if_icmp .eq 10, 3) := by decide +kernel
theorem dX11_lost_40 : decode cX11_lost 40 = .ok (.lload_n 1, 1) := by decide +kernel
theorem dX11_lost_41 : decode cX11_lost 41 = .ok (.lconst 1, 1) := by decide +kernel
theorem dX11_lost_42 : decode cX11_lost 42 = .ok (.iload 4, 2) := by decide +kernel
theorem dX11_lost_44 : decode cX11_lost 44 = .ok (.lshl, 1) := by decide +kernel
theorem dX11_lost_45 : decode cX11_lost 45 = .ok (.lor, 1) := by decide +kernel
theorem dX11_lost_46 : decode cX11_lost 46 = .ok (.lstore_n 1, 1) := by decide +kernel
theorem dX11_lost_47 : decode cX11_lost 47 = .ok (.iinc 3 1, 3) := by decide +kernel
theorem dX11_lost_50 : decode cX11_lost 50 = .ok (.goto (-37), 3) := by decide +kernel
theorem dX11_lost_53 : decode cX11_lost 53 = .ok (.aload_n 0, 1) := by decide +kernel
theorem dX11_lost_54 : decode cX11_lost 54 = .ok (.getfield 31, 3) := by decide +kernel
theorem dX11_lost_57 : decode cX11_lost 57 = .ok (.getfield 115, 3) := by decide +kernel
theorem dX11_lost_60 : decode cX11_lost 60 = .ok (.lload_n 1, 1) := by decide +kernel
theorem dX11_lost_61 : decode cX11_lost 61 = .ok (.invokestatic 261, 3) := by decide +kernel
theorem dX11_lost_64 : decode cX11_lost 64 = .ok (.isub, 1) := by decide +kernel
theorem dX11_lost_65 : decode cX11_lost 65 = .ok (.ireturn, 1) := by decide +kernel
theorem dX11_look_0 : decode cX11_look 0 = .ok (.iload_n 1, 1) := by decide +kernel
theorem dX11_look_1 : decode cX11_look 1 = .ok (.iconst 0, 1) := by decide +kernel
theorem dX11_look_2 : decode cX11_look 2 = .ok (.sipush 9600, 3) := by decide +kernel
theorem dX11_look_5 : decode cX11_look 5 = .ok (.invokestatic 100, 3) := by decide +kernel
theorem dX11_look_8 : decode cX11_look 8 = .ok (.ifCond .ne 6, 3) := by decide +kernel
theorem dX11_look_11 : decode cX11_look 11 = .ok (.bipush (-3), 2) := by decide +kernel
theorem dX11_look_13 : decode cX11_look 13 = .ok (.ireturn, 1) := by decide +kernel
theorem dX11_look_14 : decode cX11_look 14 = .ok (.aload_n 0, 1) := by decide +kernel
theorem dX11_look_15 : decode cX11_look 15 = .ok (.getfield 51, 3) := by decide +kernel
theorem dX11_look_18 : decode cX11_look 18 = .ok (.aload_n 0, 1) := by decide +kernel
theorem dX11_look_19 : decode cX11_look 19 = .ok (.getfield 47, 3) := by decide +kernel
theorem dX11_look_22 : decode cX11_look 22 = .ok (.invokevirtual 267, 3) := by decide +kernel
theorem dX11_look_25 : decode cX11_look 25 = .ok (.aload_n 0, 1) := by decide +kernel
theorem dX11_look_26 : decode cX11_look 26 = .ok (.aload_n 0, 1) := by decide +kernel
theorem dX11_look_27 : decode cX11_look 27 = .ok (.getfield 51, 3) := by decide +kernel
theorem dX11_look_30 : decode cX11_look 30 = .ok (.aload_n 0, 1) := by decide +kernel
theorem dX11_look_31 : decode cX11_look 31 = .ok (.iload_n 1, 1) := by decide +kernel
theorem dX11_look_32 : decode cX11_look 32 = .ok (.invokevirtual 161, 3) := by decide +kernel
theorem dX11_look_35 : decode cX11_look 35 = .ok (.iconst (-1), 1) := by decide +kernel
theorem dX11_look_36 : decode cX11_look 36 = .ok (.invokevirtual 164, 3) := by decide +kernel
theorem dX11_look_39 : decode cX11_look 39 = .ok (.aload_n 0, 1) := by decide +kernel
theorem dX11_look_40 : decode cX11_look 40 = .ok (.getfield 51, 3) := by decide +kernel
theorem dX11_look_43 : decode cX11_look 43 = .ok (.getfield 168, 3) := by decide +kernel
theorem dX11_look_46 : decode cX11_look 46 = .ok (.ireturn, 1) := by decide +kernel
theorem dX11_until_0 : decode cX11_until 0 = .ok (.iload_n 1, 1) := by decide +kernel
theorem dX11_until_1 : decode cX11_until 1 = .ok (.iconst 0, 1) := by decide +kernel
theorem dX11_until_2 : decode cX11_until 2 = .ok (.iconst 2, 1) := by decide +kernel
theorem dX11_until_3 : decode cX11_until 3 = .ok (.invokestatic 100, 3) := by decide +kernel
theorem dX11_until_6 : decode cX11_until 6 = .ok (.ifCond .ne 6, 3) := by decide +kernel
theorem dX11_until_9 : decode cX11_until 9 = .ok (.bipush (-3), 2) := by decide +kernel
theorem dX11_until_11 : decode cX11_until 11 = .ok (.ireturn, 1) := by decide +kernel
theorem dX11_until_12 : decode cX11_until 12 = .ok (.aload_n 0, 1) := by decide +kernel
theorem dX11_until_13 : decode cX11_until 13 = .ok (.getfield 47, 3) := by decide +kernel
theorem dX11_until_16 : decode cX11_until 16 = .ok (.getfield 168, 3) := by decide +kernel
theorem dX11_until_19 : decode cX11_until 19 = .ok (.iload_n 1, 1) := by decide +kernel
theorem dX11_until_20 : decode cX11_until 20 = .ok (.if_icmp .ne 5, 3) := by decide +kernel
theorem dX11_until_23 : decode cX11_until 23 = .ok (.iconst 0, 1) := by decide +kernel
theorem dX11_until_24 : decode cX11_until 24 = .ok (.ireturn, 1) := by decide +kernel
theorem dX11_until_25 : decode cX11_until 25 = .ok (.aload_n 0, 1) := by decide +kernel
theorem dX11_until_26 : decode cX11_until 26 = .ok (.getfield 51, 3) := by decide +kernel
theorem dX11_until_29 : decode cX11_until 29 = .ok (.aload_n 0, 1) := by decide +kernel
theorem dX11_until_30 : decode cX11_until 30 = .ok (.getfield 47, 3) := by decide +kernel
theorem dX11_until_33 : decode cX11_until 33 = .ok (.invokevirtual 267, 3) := by decide +kernel
theorem dX11_until_36 : decode cX11_until 36 = .ok (.aload_n 0, 1) := by decide +kernel
theorem dX11_until_37 : decode cX11_until 37 = .ok (.getfield 24, 3) := by decide +kernel
theorem dX11_until_40 : decode cX11_until 40 = .ok (.getfield 125, 3) := by decide +kernel
theorem dX11_until_43 : decode cX11_until 43 = .ok (.istore_n 2, 1) := by decide +kernel
theorem dX11_until_44 : decode cX11_until 44 = .ok (.iload_n 2, 1) := by decide +kernel
theorem dX11_until_45 : decode cX11_until 45 = .ok (.aload_n 0, 1) := by decide +kernel
theorem dX11_until_46 : decode cX11_until 46 = .ok (.getfield 24, 3) := by decide +kernel
theorem dX11_until_49 : decode cX11_until 49 = .ok (.getfield 96, 3) := by decide +kernel
theorem dX11_until_52 : decode cX11_until 52 = .ok (.if_icmp .ge 50, 3) := by decide +kernel
theorem dX11_until_55 : decode cX11_until 55 = .ok (.aload_n 0, 1) := by decide +kernel
theorem dX11_until_56 : decode cX11_until 56 = .ok (.getfield 51, 3) := by decide +kernel
theorem dX11_until_59 : decode cX11_until 59 = .ok (.aload_n 0, 1) := by decide +kernel
theorem dX11_until_60 : decode cX11_until 60 = .ok (.getfield 24, 3) := by decide +kernel
theorem dX11_until_63 : decode cX11_until 63 = .ok (.iload_n 2, 1) := by decide +kernel
theorem dX11_until_64 : decode cX11_until 64 = .ok (.invokevirtual 131, 3) := by decide +kernel
theorem dX11_until_67 : decode cX11_until 67 = .ok (.iload_n 2, 1) := by decide +kernel
theorem dX11_until_68 : decode cX11_until 68 = .ok (.iconst 1, 1) := by decide +kernel
theorem dX11_until_69 : decode cX11_until 69 = .ok (.iadd, 1) := by decide +kernel
theorem dX11_until_70 : decode cX11_until 70 = .ok (.invokevirtual 271, 3) := by decide +kernel
theorem dX11_until_73 : decode cX11_until 73 = .ok (.aload_n 0, 1) := by decide +kernel
theorem dX11_until_74 : decode cX11_until 74 = .ok (.getfield 51, 3) := by decide +kernel
theorem dX11_until_77 : decode cX11_until 77 = .ok (.getfield 168, 3) := by decide +kernel
theorem dX11_until_80 : decode cX11_until 80 = .ok (.iload_n 1, 1) := by decide +kernel
theorem dX11_until_81 : decode cX11_until 81 = .ok (.if_icmp .ne 15, 3) := by decide +kernel
theorem dX11_until_84 : decode cX11_until 84 = .ok (.iload_n 2, 1) := by decide +kernel
theorem dX11_until_85 : decode cX11_until 85 = .ok (.iconst 1, 1) := by decide +kernel
theorem dX11_until_86 : decode cX11_until 86 = .ok (.iadd, 1) := by decide +kernel
theorem dX11_until_87 : decode cX11_until 87 = .ok (.aload_n 0, 1) := by decide +kernel
theorem dX11_until_88 : decode cX11_until 88 = .ok (.getfield 24, 3) := by decide +kernel
theorem dX11_until_91 : decode cX11_until 91 = .ok (.getfield 125, 3) := by decide +kernel
theorem dX11_until_94 : decode cX11_until 94 = .ok (.isub, 1) := by decide +kernel
theorem dX11_until_95 : decode cX11_until 95 = .ok (.ireturn, 1) := by decide +kernel
theorem dX11_until_96 : decode cX11_until 96 = .ok (.iinc 2 1, 3) := by decide +kernel
theorem dX11_until_99 : decode cX11_until 99 = .ok (.goto (-55), 3) := by decide +kernel
theorem dX11_until_102 : decode cX11_until 102 = .ok (.iconst (-1), 1) := by decide +kernel
theorem dX11_until_103 : decode cX11_until 103 = .ok (.ireturn, 1) := by decide +kernel
theorem dX11_would_0 : decode cX11_would 0 = .ok (.aload_n 0, 1) := by decide +kernel
theorem dX11_would_1 : decode cX11_would 1 = .ok (.getfield 24, 3) := by decide +kernel
theorem dX11_would_4 : decode cX11_would 4 = .ok (.iload_n 1, 1) := by decide +kernel
theorem dX11_would_5 : decode cX11_would 5 = .ok (.invokevirtual 122, 3) := by decide +kernel
theorem dX11_would_8 : decode cX11_would 8 = .ok (.ifCond .eq 12, 3) := by decide +kernel
theorem dX11_would_11 : decode cX11_would 11 = .ok (.iload_n 2, 1) := by decide +kernel
theorem dX11_would_12 : decode cX11_would 12 = .ok (.iconst 0, 1) := by decide +kernel
theorem dX11_would_13 : decode cX11_would 13 = .ok (.iconst 5, 1) := by decide +kernel
theorem dX11_would_14 : decode cX11_would 14 = .ok (.invokestatic 100, 3) := by decide +kernel
theorem dX11_would_17 : decode cX11_would 17 = .ok (.ifCond .ne 6, 3) := by decide +kernel
theorem dX11_would_20 : decode cX11_would 20 = .ok (.bipush (-2), 2) := by decide +kernel
theorem dX11_would_22 : decode cX11_would 22 = .ok (.ireturn, 1) := by decide +kernel
theorem dX11_would_23 : decode cX11_would 23 = .ok (.iload_n 1, 1) := by decide +kernel
theorem dX11_would_24 : decode cX11_would 24 = .ok (.aload_n 0, 1) := by decide +kernel
theorem dX11_would_25 : decode cX11_would 25 = .ok (.getfield 24, 3) := by decide +kernel
theorem dX11_would_28 : decode cX11_would 28 = .ok (.getfield 125, 3) := by decide +kernel
theorem dX11_would_31 : decode cX11_would 31 = .ok (.if_icmp .ge 6, 3) := by decide +kernel
theorem dX11_would_34 : decode cX11_would 34 = .ok (.bipush (-5), 2) := by decide +kernel
theorem dX11_would_36 : decode cX11_would 36 = .ok (.ireturn, 1) := by decide +kernel
theorem dX11_would_37 : decode cX11_would 37 = .ok (.aload_n 0, 1) := by decide +kernel
theorem dX11_would_38 : decode cX11_would 38 = .ok (.getfield 51, 3) := by decide +kernel
theorem dX11_would_41 : decode cX11_would 41 = .ok (.aload_n 0, 1) := by decide +kernel
theorem dX11_would_42 : decode cX11_would 42 = .ok (.getfield 47, 3) := by decide +kernel
theorem dX11_would_45 : decode cX11_would 45 = .ok (.invokevirtual 267, 3) := by decide +kernel
theorem dX11_would_48 : decode cX11_would 48 = .ok (.aload_n 0, 1) := by decide +kernel
theorem dX11_would_49 : decode cX11_would 49 = .ok (.aload_n 0, 1) := by decide +kernel
theorem dX11_would_50 : decode cX11_would 50 = .ok (.getfield 51, 3) := by decide +kernel
theorem dX11_would_53 : decode cX11_would 53 = .ok (.aload_n 0, 1) := by decide +kernel
theorem dX11_would_54 : decode cX11_would 54 = .ok (.getfield 24, 3) := by decide +kernel
theorem dX11_would_57 : decode cX11_would 57 = .ok (.getfield 96, 3) := by decide +kernel
theorem dX11_would_60 : decode cX11_would 60 = .ok (.iload_n 1, 1) := by decide +kernel
theorem dX11_would_61 : decode cX11_would 61 = .ok (.invokevirtual 164, 3) := by decide +kernel
theorem dX11_would_64 : decode cX11_would 64 = .ok (.iload_n 2, 1) := by decide +kernel
theorem dX11_would_65 : decode cX11_would 65 = .ok (.tableswitch 83 0 4 #[35, 45, 55, 65, 75], 35) := by decide +kernel
theorem dX11_would_100 : decode cX11_would 100 = .ok (.aload_n 0, 1) := by decide +kernel
theorem dX11_would_101 : decode cX11_would 101 = .ok (.getfield 51, 3) := by decide +kernel
theorem dX11_would_104 : decode cX11_would 104 = .ok (.getfield 171, 3) := by decide +kernel
theorem dX11_would_107 : decode cX11_would 107 = .ok (.iconst 3, 1) := by decide +kernel
theorem dX11_would_108 : decode cX11_would 108 = .ok (.iaload, 1) := by decide +kernel
theorem dX11_would_109 : decode cX11_would 109 = .ok (.ireturn, 1) := by decide +kernel
theorem dX11_would_110 : decode cX11_would 110 = .ok (.aload_n 0, 1) := by decide +kernel
theorem dX11_would_111 : decode cX11_would 111 = .ok (.getfield 51, 3) := by decide +kernel
theorem dX11_would_114 : decode cX11_would 114 = .ok (.getfield 171, 3) := by decide +kernel
theorem dX11_would_117 : decode cX11_would 117 = .ok (.iconst 1, 1) := by decide +kernel
theorem dX11_would_118 : decode cX11_would 118 = .ok (.iaload, 1) := by decide +kernel
theorem dX11_would_119 : decode cX11_would 119 = .ok (.ireturn, 1) := by decide +kernel
theorem dX11_would_120 : decode cX11_would 120 = .ok (.aload_n 0, 1) := by decide +kernel
theorem dX11_would_121 : decode cX11_would 121 = .ok (.getfield 51, 3) := by decide +kernel
theorem dX11_would_124 : decode cX11_would 124 = .ok (.getfield 171, 3) := by decide +kernel
theorem dX11_would_127 : decode cX11_would 127 = .ok (.iconst 2, 1) := by decide +kernel
theorem dX11_would_128 : decode cX11_would 128 = .ok (.iaload, 1) := by decide +kernel
theorem dX11_would_129 : decode cX11_would 129 = .ok (.ireturn, 1) := by decide +kernel
theorem dX11_would_130 : decode cX11_would 130 = .ok (.aload_n 0, 1) := by decide +kernel
theorem dX11_would_131 : decode cX11_would 131 = .ok (.getfield 51, 3) := by decide +kernel
theorem dX11_would_134 : decode cX11_would 134 = .ok (.getfield 171, 3) := by decide +kernel
theorem dX11_would_137 : decode cX11_would 137 = .ok (.iconst 5, 1) := by decide +kernel
theorem dX11_would_138 : decode cX11_would 138 = .ok (.iaload, 1) := by decide +kernel
theorem dX11_would_139 : decode cX11_would 139 = .ok (.ireturn, 1) := by decide +kernel
theorem dX11_would_140 : decode cX11_would 140 = .ok (.aload_n 0, 1) := by decide +kernel
theorem dX11_would_141 : decode cX11_would 141 = .ok (.getfield 51, 3) := by decide +kernel
theorem dX11_would_144 : decode cX11_would 144 = .ok (.getfield 168, 3) := by decide +kernel
theorem dX11_would_147 : decode cX11_would 147 = .ok (.ireturn, 1) := by decide +kernel
theorem dX11_would_148 : decode cX11_would 148 = .ok (.aload_n 0, 1) := by decide +kernel
theorem dX11_would_149 : decode cX11_would 149 = .ok (.getfield 51, 3) := by decide +kernel
theorem dX11_would_152 : decode cX11_would 152 = .ok (.getfield 171, 3) := by decide +kernel
theorem dX11_would_155 : decode cX11_would 155 = .ok (.bipush 9, 2) := by decide +kernel
theorem dX11_would_157 : decode cX11_would 157 = .ok (.iaload, 1) := by decide +kernel
theorem dX11_would_158 : decode cX11_would 158 = .ok (.ireturn, 1) := by decide +kernel
theorem dX11_worst_0 : decode cX11_worst 0 = .ok (.aload_n 0, 1) := by decide +kernel
theorem dX11_worst_1 : decode cX11_worst 1 = .ok (.sipush 4800, 3) := by decide +kernel
theorem dX11_worst_4 : decode cX11_worst 4 = .ok (.invokevirtual 161, 3) := by decide +kernel
theorem dX11_worst_7 : decode cX11_worst 7 = .ok (.istore_n 1, 1) := by decide +kernel
theorem dX11_worst_8 : decode cX11_worst 8 = .ok (.aload_n 0, 1) := by decide +kernel
theorem dX11_worst_9 : decode cX11_worst 9 = .ok (.bipush 48, 2) := by decide +kernel
theorem dX11_worst_11 : decode cX11_worst 11 = .ok (.invokevirtual 161, 3) := by decide +kernel
theorem dX11_worst_14 : decode cX11_worst 14 = .ok (.istore_n 2, 1) := by decide +kernel
theorem dX11_worst_15 : decode cX11_worst 15 = .ok (.iconst (-1), 1) := by decide +kernel
theorem dX11_worst_16 : decode cX11_worst 16 = .ok (.istore_n 3, 1) := by decide +kernel
theorem dX11_worst_17 : decode cX11_worst 17 = .ok (.iconst 0, 1) := by decide +kernel
theorem dX11_worst_18 : decode cX11_worst 18 = .ok (.istore 4, 2) := by decide +kernel
theorem dX11_worst_20 : decode cX11_worst 20 = .ok (.aload_n 0, 1) := by decide +kernel
theorem dX11_worst_21 : decode cX11_worst 21 = .ok (.getfield 24, 3) := by decide +kernel
theorem dX11_worst_24 : decode cX11_worst 24 = .ok (.getfield 125, 3) := by decide +kernel
theorem dX11_worst_27 : decode cX11_worst 27 = .ok (.istore 5, 2) := by decide +kernel
theorem dX11_worst_29 : decode cX11_worst 29 = .ok (.iload 5, 2) := by decide +kernel
theorem dX11_worst_31 : decode cX11_worst 31 = .ok (.iload_n 2, 1) := by decide +kernel
theorem dX11_worst_32 : decode cX11_worst 32 = .ok (.if_icmp .ge 64, 3) := by decide +kernel
theorem dX11_worst_35 : decode cX11_worst 35 = .ok (.aload_n 0, 1) := by decide +kernel
theorem dX11_worst_36 : decode cX11_worst 36 = .ok (.getfield 51, 3) := by decide +kernel
theorem dX11_worst_39 : decode cX11_worst 39 = .ok (.aload_n 0, 1) := by decide +kernel
theorem dX11_worst_40 : decode cX11_worst 40 = .ok (.getfield 47, 3) := by decide +kernel
theorem dX11_worst_43 : decode cX11_worst 43 = .ok (.invokevirtual 267, 3) := by decide +kernel
theorem dX11_worst_46 : decode cX11_worst 46 = .ok (.aload_n 0, 1) := by decide +kernel
theorem dX11_worst_47 : decode cX11_worst 47 = .ok (.aload_n 0, 1) := by decide +kernel
theorem dX11_worst_48 : decode cX11_worst 48 = .ok (.getfield 51, 3) := by decide +kernel
theorem dX11_worst_51 : decode cX11_worst 51 = .ok (.iload_n 1, 1) := by decide +kernel
theorem dX11_worst_52 : decode cX11_worst 52 = .ok (.iload 5, 2) := by decide +kernel
theorem dX11_worst_54 : decode cX11_worst 54 = .ok (.invokevirtual 164, 3) := by decide +kernel
theorem dX11_worst_57 : decode cX11_worst 57 = .ok (.iload_n 3, 1) := by decide +kernel
theorem dX11_worst_58 : decode cX11_worst 58 = .ok (.iconst (-1), 1) := by decide +kernel
theorem dX11_worst_59 : decode cX11_worst 59 = .ok (.if_icmp .eq 17, 3) := by decide +kernel
theorem dX11_worst_62 : decode cX11_worst 62 = .ok (.aload_n 0, 1) := by decide +kernel
theorem dX11_worst_63 : decode cX11_worst 63 = .ok (.getfield 51, 3) := by decide +kernel
theorem dX11_worst_66 : decode cX11_worst 66 = .ok (.getfield 171, 3) := by decide +kernel
theorem dX11_worst_69 : decode cX11_worst 69 = .ok (.iconst 3, 1) := by decide +kernel
theorem dX11_worst_70 : decode cX11_worst 70 = .ok (.iaload, 1) := by decide +kernel
theorem dX11_worst_71 : decode cX11_worst 71 = .ok (.iload 4, 2) := by decide +kernel
theorem dX11_worst_73 : decode cX11_worst 73 = .ok (.if_icmp .ge 17, 3) := by decide +kernel
theorem dX11_worst_76 : decode cX11_worst 76 = .ok (.iload 5, 2) := by decide +kernel
theorem dX11_worst_78 : decode cX11_worst 78 = .ok (.istore_n 3, 1) := by decide +kernel
theorem dX11_worst_79 : decode cX11_worst 79 = .ok (.aload_n 0, 1) := by decide +kernel
theorem dX11_worst_80 : decode cX11_worst 80 = .ok (.getfield 51, 3) := by decide +kernel
theorem dX11_worst_83 : decode cX11_worst 83 = .ok (.getfield 171, 3) := by decide +kernel
theorem dX11_worst_86 : decode cX11_worst 86 = .ok (.iconst 3, 1) := by decide +kernel
theorem dX11_worst_87 : decode cX11_worst 87 = .ok (.iaload, 1) := by decide +kernel
theorem dX11_worst_88 : decode cX11_worst 88 = .ok (.istore 4, 2) := by decide +kernel
theorem dX11_worst_90 : decode cX11_worst 90 = .ok (.iinc 5 1, 3) := by decide +kernel
theorem dX11_worst_93 : decode cX11_worst 93 = .ok (.goto (-64), 3) := by decide +kernel
theorem dX11_worst_96 : decode cX11_worst 96 = .ok (.iload_n 3, 1) := by decide +kernel
theorem dX11_worst_97 : decode cX11_worst 97 = .ok (.ireturn, 1) := by decide +kernel
theorem dX11_regained_0 : decode cX11_regained 0 = .ok (.iload_n 1, 1) := by decide +kernel
theorem dX11_regained_1 : decode cX11_regained 1 = .ok (.iconst 1, 1) := by decide +kernel
theorem dX11_regained_2 : decode cX11_regained 2 = .ok (.sipush 400, 3) := by decide +kernel
theorem dX11_regained_5 : decode cX11_regained 5 = .ok (.invokestatic 100, 3) := by decide +kernel
theorem dX11_regained_8 : decode cX11_regained 8 = .ok (.ifCond .eq 14, 3) := by decide +kernel
theorem dX11_regained_11 : decode cX11_regained 11 = .ok (.iload_n 1, 1) := by decide +kernel
theorem dX11_regained_12 : decode cX11_regained 12 = .ok (.aload_n 0, 1) := by decide +kernel
theorem dX11_regained_13 : decode cX11_regained 13 = .ok (.getfield 24, 3) := by decide +kernel
theorem dX11_regained_16 : decode cX11_regained 16 = .ok (.invokevirtual 274, 3) := by decide +kernel
theorem dX11_regained_19 : decode cX11_regained 19 = .ok (.if_icmp .le 6, 3) := by decide +kernel
theorem dX11_regained_22 : decode cX11_regained 22 = .ok (.bipush (-3), 2) := by decide +kernel
theorem dX11_regained_24 : decode cX11_regained 24 = .ok (.ireturn, 1) := by decide +kernel
theorem dX11_regained_25 : decode cX11_regained 25 = .ok (.aload_n 0, 1) := by decide +kernel
theorem dX11_regained_26 : decode cX11_regained 26 = .ok (.getfield 51, 3) := by decide +kernel
theorem dX11_regained_29 : decode cX11_regained 29 = .ok (.aload_n 0, 1) := by decide +kernel
theorem dX11_regained_30 : decode cX11_regained 30 = .ok (.getfield 47, 3) := by decide +kernel
theorem dX11_regained_33 : decode cX11_regained 33 = .ok (.invokevirtual 267, 3) := by decide +kernel
theorem dX11_regained_36 : decode cX11_regained 36 = .ok (.aload_n 0, 1) := by decide +kernel
theorem dX11_regained_37 : decode cX11_regained 37 = .ok (.aload_n 0, 1) := by decide +kernel
theorem dX11_regained_38 : decode cX11_regained 38 = .ok (.getfield 24, 3) := by decide +kernel
theorem dX11_regained_41 : decode cX11_regained 41 = .ok (.getfield 125, 3) := by decide +kernel
theorem dX11_regained_44 : decode cX11_regained 44 = .ok (.iload_n 1, 1) := by decide +kernel
theorem dX11_regained_45 : decode cX11_regained 45 = .ok (.iadd, 1) := by decide +kernel
theorem dX11_regained_46 : decode cX11_regained 46 = .ok (.invokevirtual 277, 3) := by decide +kernel
theorem dX11_regained_49 : decode cX11_regained 49 = .ok (.ireturn, 1) := by decide +kernel
theorem dX11_spread_0 : decode cX11_spread 0 = .ok (.aload_n 0, 1) := by decide +kernel
theorem dX11_spread_1 : decode cX11_spread 1 = .ok (.getfield 24, 3) := by decide +kernel
theorem dX11_spread_4 : decode cX11_spread 4 = .ok (.iload_n 1, 1) := by decide +kernel
theorem dX11_spread_5 : decode cX11_spread 5 = .ok (.invokevirtual 122, 3) := by decide +kernel
theorem dX11_spread_8 : decode cX11_spread 8 = .ok (.ifCond .ne 6, 3) := by decide +kernel
theorem dX11_spread_11 : decode cX11_spread 11 = .ok (.bipush (-2), 2) := by decide +kernel
theorem dX11_spread_13 : decode cX11_spread 13 = .ok (.ireturn, 1) := by decide +kernel
theorem dX11_spread_14 : decode cX11_spread 14 = .ok (.iload_n 2, 1) := by decide +kernel
theorem dX11_spread_15 : decode cX11_spread 15 = .ok (.iconst (-1), 1) := by decide +kernel
theorem dX11_spread_16 : decode cX11_spread 16 = .ok (.if_icmp .ge 6, 3) := by decide +kernel
theorem dX11_spread_19 : decode cX11_spread 19 = .ok (.bipush (-3), 2) := by decide +kernel
theorem dX11_spread_21 : decode cX11_spread 21 = .ok (.ireturn, 1) := by decide +kernel
theorem dX11_spread_22 : decode cX11_spread 22 = .ok (.iload_n 1, 1) := by decide +kernel
theorem dX11_spread_23 : decode cX11_spread 23 = .ok (.aload_n 0, 1) := by decide +kernel
theorem dX11_spread_24 : decode cX11_spread 24 = .ok (.getfield 24, 3) := by decide +kernel
theorem dX11_spread_27 : decode cX11_spread 27 = .ok (.getfield 125, 3) := by decide +kernel
theorem dX11_spread_30 : decode cX11_spread 30 = .ok (.if_icmp .ge 6, 3) := by decide +kernel
theorem dX11_spread_33 : decode cX11_spread 33 = .ok (.bipush (-5), 2) := by decide +kernel
theorem dX11_spread_35 : decode cX11_spread 35 = .ok (.ireturn, 1) := by decide +kernel
theorem dX11_spread_36 : decode cX11_spread 36 = .ok (.aload_n 0, 1) := by decide +kernel
theorem dX11_spread_37 : decode cX11_spread 37 = .ok (.getfield 51, 3) := by decide +kernel
theorem dX11_spread_40 : decode cX11_spread 40 = .ok (.aload_n 0, 1) := by decide +kernel
theorem dX11_spread_41 : decode cX11_spread 41 = .ok (.getfield 47, 3) := by decide +kernel
theorem dX11_spread_44 : decode cX11_spread 44 = .ok (.invokevirtual 267, 3) := by decide +kernel
theorem dX11_spread_47 : decode cX11_spread 47 = .ok (.aload_n 0, 1) := by decide +kernel
theorem dX11_spread_48 : decode cX11_spread 48 = .ok (.getfield 54, 3) := by decide +kernel
theorem dX11_spread_51 : decode cX11_spread 51 = .ok (.aload_n 0, 1) := by decide +kernel
theorem dX11_spread_52 : decode cX11_spread 52 = .ok (.getfield 47, 3) := by decide +kernel
theorem dX11_spread_55 : decode cX11_spread 55 = .ok (.invokevirtual 267, 3) := by decide +kernel
theorem dX11_spread_58 : decode cX11_spread 58 = .ok (.iconst 0, 1) := by decide +kernel
theorem dX11_spread_59 : decode cX11_spread 59 = .ok (.istore_n 3, 1) := by decide +kernel
theorem dX11_spread_60 : decode cX11_spread 60 = .ok (.aload_n 0, 1) := by decide +kernel
theorem dX11_spread_61 : decode cX11_spread 61 = .ok (.getfield 24, 3) := by decide +kernel
theorem dX11_spread_64 : decode cX11_spread 64 = .ok (.getfield 125, 3) := by decide +kernel
theorem dX11_spread_67 : decode cX11_spread 67 = .ok (.istore 4, 2) := by decide +kernel
theorem dX11_spread_69 : decode cX11_spread 69 = .ok (.iload 4, 2) := by decide +kernel
theorem dX11_spread_71 : decode cX11_spread 71 = .ok (.aload_n 0, 1) := by decide +kernel
theorem dX11_spread_72 : decode cX11_spread 72 = .ok (.getfield 24, 3) := by decide +kernel
theorem dX11_spread_75 : decode cX11_spread 75 = .ok (.getfield 96, 3) := by decide +kernel
theorem dX11_spread_78 : decode cX11_spread 78 = .ok (.if_icmp .ge 115, 3) := by decide +kernel
theorem dX11_spread_81 : decode cX11_spread 81 = .ok (.aload_n 0, 1) := by decide +kernel
theorem dX11_spread_82 : decode cX11_spread 82 = .ok (.getfield 24, 3) := by decide +kernel
theorem dX11_spread_85 : decode cX11_spread 85 = .ok (.iload 4, 2) := by decide +kernel
theorem dX11_spread_87 : decode cX11_spread 87 = .ok (.invokevirtual 131, 3) := by decide +kernel
theorem dX11_spread_90 : decode cX11_spread 90 = .ok (.istore 5, 2) := by decide +kernel
theorem dX11_spread_92 : decode cX11_spread 92 = .ok (.iload 4, 2) := by decide +kernel
theorem dX11_spread_94 : decode cX11_spread 94 = .ok (.iload_n 1, 1) := by decide +kernel
theorem dX11_spread_95 : decode cX11_spread 95 = .ok (.if_icmp .ne 10, 3) := by decide +kernel
theorem dX11_spread_98 : decode cX11_spread 98 = .ok (.iconst 1, 1) := by decide +kernel
theorem dX11_spread_99 : decode cX11_spread 99 = .ok (.iload 5, 2) := by decide +kernel
theorem dX11_spread_101 : decode cX11_spread 101 = .ok (.isub, 1) := by decide +kernel
theorem dX11_spread_102 : decode cX11_spread 102 = .ok (.goto 5, 3) := by decide +kernel
theorem dX11_spread_105 : decode cX11_spread 105 = .ok (.iload 5, 2) := by decide +kernel
theorem dX11_spread_107 : decode cX11_spread 107 = .ok (.istore 6, 2) := by decide +kernel
theorem dX11_spread_109 : decode cX11_spread 109 = .ok (.aload_n 0, 1) := by decide +kernel
theorem dX11_spread_110 : decode cX11_spread 110 = .ok (.getfield 51, 3) := by decide +kernel
theorem dX11_spread_113 : decode cX11_spread 113 = .ok (.iload 5, 2) := by decide +kernel
theorem dX11_spread_115 : decode cX11_spread 115 = .ok (.invokevirtual 280, 3) := by decide +kernel
theorem dX11_spread_118 : decode cX11_spread 118 = .ok (.istore 7, 2) := by decide +kernel
theorem dX11_spread_120 : decode cX11_spread 120 = .ok (.aload_n 0, 1) := by decide +kernel
theorem dX11_spread_121 : decode cX11_spread 121 = .ok (.getfield 54, 3) := by decide +kernel
theorem dX11_spread_124 : decode cX11_spread 124 = .ok (.iload 6, 2) := by decide +kernel
theorem dX11_spread_126 : decode cX11_spread 126 = .ok (.invokevirtual 280, 3) := by decide +kernel
theorem dX11_spread_129 : decode cX11_spread 129 = .ok (.istore 8, 2) := by decide +kernel
theorem dX11_spread_131 : decode cX11_spread 131 = .ok (.iload 7, 2) := by decide +kernel
theorem dX11_spread_133 : decode cX11_spread 133 = .ok (.iconst (-1), 1) := by decide +kernel
theorem dX11_spread_134 : decode cX11_spread 134 = .ok (.if_icmp .eq 27, 3) := by decide +kernel
theorem dX11_spread_137 : decode cX11_spread 137 = .ok (.iload 8, 2) := by decide +kernel
theorem dX11_spread_139 : decode cX11_spread 139 = .ok (.iconst (-1), 1) := by decide +kernel
theorem dX11_spread_140 : decode cX11_spread 140 = .ok (.if_icmp .eq 21, 3) := by decide +kernel
theorem dX11_spread_143 : decode cX11_spread 143 = .ok (.iload 7, 2) := by decide +kernel
theorem dX11_spread_145 : decode cX11_spread 145 = .ok (.iload 8, 2) := by decide +kernel
theorem dX11_spread_147 : decode cX11_spread 147 = .ok (.if_icmp .eq 14, 3) := by decide +kernel
theorem dX11_spread_150 : decode cX11_spread 150 = .ok (.iload_n 3, 1) := by decide +kernel
theorem dX11_spread_151 : decode cX11_spread 151 = .ok (.iload_n 2, 1) := by decide +kernel
theorem dX11_spread_152 : decode cX11_spread 152 = .ok (.if_icmp .ne 6, 3) := by decide +kernel
theorem dX11_spread_155 : decode cX11_spread 155 = .ok (.iload 4, 2) := by decide +kernel
theorem dX11_spread_157 : decode cX11_spread 157 = .ok (.ireturn, 1) := by decide +kernel
theorem dX11_spread_158 : decode cX11_spread 158 = .ok (.iinc 3 1, 3) := by decide +kernel
theorem dX11_spread_161 : decode cX11_spread 161 = .ok (.aload_n 0, 1) := by decide +kernel
theorem dX11_spread_162 : decode cX11_spread 162 = .ok (.getfield 51, 3) := by decide +kernel
theorem dX11_spread_165 : decode cX11_spread 165 = .ok (.iload 5, 2) := by decide +kernel
theorem dX11_spread_167 : decode cX11_spread 167 = .ok (.iload 4, 2) := by decide +kernel
theorem dX11_spread_169 : decode cX11_spread 169 = .ok (.iconst 1, 1) := by decide +kernel
theorem dX11_spread_170 : decode cX11_spread 170 = .ok (.iadd, 1) := by decide +kernel
theorem dX11_spread_171 : decode cX11_spread 171 = .ok (.invokevirtual 271, 3) := by decide +kernel
theorem dX11_spread_174 : decode cX11_spread 174 = .ok (.aload_n 0, 1) := by decide +kernel
theorem dX11_spread_175 : decode cX11_spread 175 = .ok (.getfield 54, 3) := by decide +kernel
theorem dX11_spread_178 : decode cX11_spread 178 = .ok (.iload 6, 2) := by decide +kernel
theorem dX11_spread_180 : decode cX11_spread 180 = .ok (.iload 4, 2) := by decide +kernel
theorem dX11_spread_182 : decode cX11_spread 182 = .ok (.iconst 1, 1) := by decide +kernel
theorem dX11_spread_183 : decode cX11_spread 183 = .ok (.iadd, 1) := by decide +kernel
theorem dX11_spread_184 : decode cX11_spread 184 = .ok (.invokevirtual 271, 3) := by decide +kernel
theorem dX11_spread_187 : decode cX11_spread 187 = .ok (.iinc 4 1, 3) := by decide +kernel
theorem dX11_spread_190 : decode cX11_spread 190 = .ok (.goto (-121), 3) := by decide +kernel
theorem dX11_spread_193 : decode cX11_spread 193 = .ok (.iload_n 2, 1) := by decide +kernel
theorem dX11_spread_194 : decode cX11_spread 194 = .ok (.iconst (-1), 1) := by decide +kernel
theorem dX11_spread_195 : decode cX11_spread 195 = .ok (.if_icmp .ne 7, 3) := by decide +kernel
theorem dX11_spread_198 : decode cX11_spread 198 = .ok (.iload_n 3, 1) := by decide +kernel
theorem dX11_spread_199 : decode cX11_spread 199 = .ok (.goto 4, 3) := by decide +kernel
theorem dX11_spread_202 : decode cX11_spread 202 = .ok (.iconst (-1), 1) := by decide +kernel
theorem dX11_spread_203 : decode cX11_spread 203 = .ok (.ireturn, 1) := by decide +kernel
theorem dX11_rights_0 : decode cX11_rights 0 = .ok (.aload_n 0, 1) := by decide +kernel
theorem dX11_rights_1 : decode cX11_rights 1 = .ok (.getfield 24, 3) := by decide +kernel
theorem dX11_rights_4 : decode cX11_rights 4 = .ok (.iload_n 1, 1) := by decide +kernel
theorem dX11_rights_5 : decode cX11_rights 5 = .ok (.invokevirtual 122, 3) := by decide +kernel
theorem dX11_rights_8 : decode cX11_rights 8 = .ok (.ifCond .ne 6, 3) := by decide +kernel
theorem dX11_rights_11 : decode cX11_rights 11 = .ok (.bipush (-2), 2) := by decide +kernel
theorem dX11_rights_13 : decode cX11_rights 13 = .ok (.ireturn, 1) := by decide +kernel
theorem dX11_rights_14 : decode cX11_rights 14 = .ok (.iload_n 2, 1) := by decide +kernel
theorem dX11_rights_15 : decode cX11_rights 15 = .ok (.iconst 1, 1) := by decide +kernel
theorem dX11_rights_16 : decode cX11_rights 16 = .ok (.sipush 2000, 3) := by decide +kernel
theorem dX11_rights_19 : decode cX11_rights 19 = .ok (.invokestatic 100, 3) := by decide +kernel
theorem dX11_rights_22 : decode cX11_rights 22 = .ok (.ifCond .eq 8, 3) := by decide +kernel
theorem dX11_rights_25 : decode cX11_rights 25 = .ok (.iload_n 3, 1) := by decide +kernel
theorem dX11_rights_26 : decode cX11_rights 26 = .ok (.iconst (-1), 1) := by decide +kernel
theorem dX11_rights_27 : decode cX11_rights 27 = .ok (.if_icmp .ge 6, 3) := by decide +kernel
theorem dX11_rights_30 : decode cX11_rights 30 = .ok (.bipush (-3), 2) := by decide +kernel
theorem dX11_rights_32 : decode cX11_rights 32 = .ok (.ireturn, 1) := by decide +kernel
theorem dX11_rights_33 : decode cX11_rights 33 = .ok (.aload_n 0, 1) := by decide +kernel
theorem dX11_rights_34 : decode cX11_rights 34 = .ok (.getfield 24, 3) := by decide +kernel
theorem dX11_rights_37 : decode cX11_rights 37 = .ok (.getfield 96, 3) := by decide +kernel
theorem dX11_rights_40 : decode cX11_rights 40 = .ok (.iload_n 1, 1) := by decide +kernel
theorem dX11_rights_41 : decode cX11_rights 41 = .ok (.iload_n 2, 1) := by decide +kernel
theorem dX11_rights_42 : decode cX11_rights 42 = .ok (.iadd, 1) := by decide +kernel
theorem dX11_rights_43 : decode cX11_rights 43 = .ok (.bipush 40, 2) := by decide +kernel
theorem dX11_rights_45 : decode cX11_rights 45 = .ok (.iadd, 1) := by decide +kernel
theorem dX11_rights_46 : decode cX11_rights 46 = .ok (.iconst 1, 1) := by decide +kernel
theorem dX11_rights_47 : decode cX11_rights 47 = .ok (.isub, 1) := by decide +kernel
theorem dX11_rights_48 : decode cX11_rights 48 = .ok (.invokestatic 283, 3) := by decide +kernel
theorem dX11_rights_51 : decode cX11_rights 51 = .ok (.istore 4, 2) := by decide +kernel
theorem dX11_rights_53 : decode cX11_rights 53 = .ok (.iconst 0, 1) := by decide +kernel
theorem dX11_rights_54 : decode cX11_rights 54 = .ok (.istore 5, 2) := by decide +kernel
theorem dX11_rights_56 : decode cX11_rights 56 = .ok (.aload_n 0, 1) := by decide +kernel
theorem dX11_rights_57 : decode cX11_rights 57 = .ok (.getfield 60, 3) := by decide +kernel
theorem dX11_rights_60 : decode cX11_rights 60 = .ok (.invokevirtual 288, 3) := by decide +kernel
theorem dX11_rights_63 : decode cX11_rights 63 = .ok (.iload_n 1, 1) := by decide +kernel
theorem dX11_rights_64 : decode cX11_rights 64 = .ok (.istore 6, 2) := by decide +kernel
theorem dX11_rights_66 : decode cX11_rights 66 = .ok (.iload 6, 2) := by decide +kernel
theorem dX11_rights_68 : decode cX11_rights 68 = .ok (.iload 4, 2) := by decide +kernel
theorem dX11_rights_70 : decode cX11_rights 70 = .ok (.if_icmp .ge 52, 3) := by decide +kernel
theorem dX11_rights_73 : decode cX11_rights 73 = .ok (.aload_n 0, 1) := by decide +kernel
theorem dX11_rights_74 : decode cX11_rights 74 = .ok (.getfield 60, 3) := by decide +kernel
theorem dX11_rights_77 : decode cX11_rights 77 = .ok (.aload_n 0, 1) := by decide +kernel
theorem dX11_rights_78 : decode cX11_rights 78 = .ok (.getfield 24, 3) := by decide +kernel
theorem dX11_rights_81 : decode cX11_rights 81 = .ok (.iload 6, 2) := by decide +kernel
theorem dX11_rights_83 : decode cX11_rights 83 = .ok (.invokevirtual 131, 3) := by decide +kernel
theorem dX11_rights_86 : decode cX11_rights 86 = .ok (.invokevirtual 289, 3) := by decide +kernel
theorem dX11_rights_89 : decode cX11_rights 89 = .ok (.aload_n 0, 1) := by decide +kernel
theorem dX11_rights_90 : decode cX11_rights 90 = .ok (.getfield 60, 3) := by decide +kernel
theorem dX11_rights_93 : decode cX11_rights 93 = .ok (.invokevirtual 292, 3) := by decide +kernel
theorem dX11_rights_96 : decode cX11_rights 96 = .ok (.ifCond .eq 20, 3) := by decide +kernel
theorem dX11_rights_99 : decode cX11_rights 99 = .ok (.iload 5, 2) := by decide +kernel
theorem dX11_rights_101 : decode cX11_rights 101 = .ok (.iload_n 3, 1) := by decide +kernel
theorem dX11_rights_102 : decode cX11_rights 102 = .ok (.if_icmp .ne 11, 3) := by decide +kernel
theorem dX11_rights_105 : decode cX11_rights 105 = .ok (.iload 6, 2) := by decide +kernel
theorem dX11_rights_107 : decode cX11_rights 107 = .ok (.iconst 1, 1) := by decide +kernel
theorem dX11_rights_108 : decode cX11_rights 108 = .ok (.iadd, 1) := by decide +kernel
theorem dX11_rights_109 : decode cX11_rights 109 = .ok (.bipush 40, 2) := by decide +kernel
theorem dX11_rights_111 : decode cX11_rights 111 = .ok (.isub, 1) := by decide +kernel
theorem dX11_rights_112 : decode cX11_rights 112 = .ok (.ireturn, 1) := by decide +kernel
theorem dX11_rights_113 : decode cX11_rights 113 = .ok (.iinc 5 1, 3) := by decide +kernel
theorem dX11_rights_116 : decode cX11_rights 116 = .ok (.iinc 6 1, 3) := by decide +kernel
theorem dX11_rights_119 : decode cX11_rights 119 = .ok (.goto (-53), 3) := by decide +kernel
theorem dX11_rights_122 : decode cX11_rights 122 = .ok (.iload_n 3, 1) := by decide +kernel
theorem dX11_rights_123 : decode cX11_rights 123 = .ok (.iconst (-1), 1) := by decide +kernel
theorem dX11_rights_124 : decode cX11_rights 124 = .ok (.if_icmp .ne 8, 3) := by decide +kernel
theorem dX11_rights_127 : decode cX11_rights 127 = .ok (.iload 5, 2) := by decide +kernel
theorem dX11_rights_129 : decode cX11_rights 129 = .ok (.goto 4, 3) := by decide +kernel
theorem dX11_rights_132 : decode cX11_rights 132 = .ok (.iconst (-1), 1) := by decide +kernel
theorem dX11_rights_133 : decode cX11_rights 133 = .ok (.ireturn, 1) := by decide +kernel
theorem dX11_phase_0 : decode cX11_phase 0 = .ok (.iload_n 1, 1) := by decide +kernel
theorem dX11_phase_1 : decode cX11_phase 1 = .ok (.iconst 0, 1) := by decide +kernel
theorem dX11_phase_2 : decode cX11_phase 2 = .ok (.iconst 1, 1) := by decide +kernel
theorem dX11_phase_3 : decode cX11_phase 3 = .ok (.invokestatic 100, 3) := by decide +kernel
theorem dX11_phase_6 : decode cX11_phase 6 = .ok (.ifCond .ne 6, 3) := by decide +kernel
theorem dX11_phase_9 : decode cX11_phase 9 = .ok (.bipush (-2), 2) := by decide +kernel
theorem dX11_phase_11 : decode cX11_phase 11 = .ok (.ireturn, 1) := by decide +kernel
theorem dX11_phase_12 : decode cX11_phase 12 = .ok (.bipush 40, 2) := by decide +kernel
theorem dX11_phase_14 : decode cX11_phase 14 = .ok (.bipush 8, 2) := by decide +kernel
theorem dX11_phase_16 : decode cX11_phase 16 = .ok (.aload_n 0, 1) := by decide +kernel
theorem dX11_phase_17 : decode cX11_phase 17 = .ok (.getfield 18, 3) := by decide +kernel
theorem dX11_phase_20 : decode cX11_phase 20 = .ok (.iconst 0, 1) := by decide +kernel
theorem dX11_phase_21 : decode cX11_phase 21 = .ok (.iaload, 1) := by decide +kernel
theorem dX11_phase_22 : decode cX11_phase 22 = .ok (.imul, 1) := by decide +kernel
theorem dX11_phase_23 : decode cX11_phase 23 = .ok (.iadd, 1) := by decide +kernel
theorem dX11_phase_24 : decode cX11_phase 24 = .ok (.istore_n 2, 1) := by decide +kernel
theorem dX11_phase_25 : decode cX11_phase 25 = .ok (.aload_n 0, 1) := by decide +kernel
theorem dX11_phase_26 : decode cX11_phase 26 = .ok (.iload_n 2, 1) := by decide +kernel
theorem dX11_phase_27 : decode cX11_phase 27 = .ok (.invokevirtual 295, 3) := by decide +kernel
theorem dX11_phase_30 : decode cX11_phase 30 = .ok (.iconst 0, 1) := by decide +kernel
theorem dX11_phase_31 : decode cX11_phase 31 = .ok (.istore_n 3, 1) := by decide +kernel
theorem dX11_phase_32 : decode cX11_phase 32 = .ok (.iconst 1, 1) := by decide +kernel
theorem dX11_phase_33 : decode cX11_phase 33 = .ok (.istore 4, 2) := by decide +kernel
theorem dX11_phase_35 : decode cX11_phase 35 = .ok (.iload 4, 2) := by decide +kernel
theorem dX11_phase_37 : decode cX11_phase 37 = .ok (.iload_n 2, 1) := by decide +kernel
theorem dX11_phase_38 : decode cX11_phase 38 = .ok (.if_icmp .ge 38, 3) := by decide +kernel
theorem dX11_phase_41 : decode cX11_phase 41 = .ok (.iload 4, 2) := by decide +kernel
theorem dX11_phase_43 : decode cX11_phase 43 = .ok (.aload_n 0, 1) := by decide +kernel
theorem dX11_phase_44 : decode cX11_phase 44 = .ok (.getfield 64, 3) := by decide +kernel
theorem dX11_phase_47 : decode cX11_phase 47 = .ok (.arraylength, 1) := by decide +kernel
theorem dX11_phase_48 : decode cX11_phase 48 = .ok (.if_icmp .ge 28, 3) := by decide +kernel
theorem dX11_phase_51 : decode cX11_phase 51 = .ok (.aload_n 0, 1) := by decide +kernel
theorem dX11_phase_52 : decode cX11_phase 52 = .ok (.getfield 64, 3) := by decide +kernel
theorem dX11_phase_55 : decode cX11_phase 55 = .ok (.iload 4, 2) := by decide +kernel
theorem dX11_phase_57 : decode cX11_phase 57 = .ok (.iaload, 1) := by decide +kernel
theorem dX11_phase_58 : decode cX11_phase 58 = .ok (.aload_n 0, 1) := by decide +kernel
theorem dX11_phase_59 : decode cX11_phase 59 = .ok (.getfield 64, 3) := by decide +kernel
theorem dX11_phase_62 : decode cX11_phase 62 = .ok (.iload_n 3, 1) := by decide +kernel
theorem dX11_phase_63 : decode cX11_phase 63 = .ok (.iaload, 1) := by decide +kernel
theorem dX11_phase_64 : decode cX11_phase 64 = .ok (.if_icmp .le 6, 3) := by decide +kernel
theorem dX11_phase_67 : decode cX11_phase 67 = .ok (.iload 4, 2) := by decide +kernel
theorem dX11_phase_69 : decode cX11_phase 69 = .ok (.istore_n 3, 1) := by decide +kernel
theorem dX11_phase_70 : decode cX11_phase 70 = .ok (.iinc 4 1, 3) := by decide +kernel
theorem dX11_phase_73 : decode cX11_phase 73 = .ok (.goto (-38), 3) := by decide +kernel
theorem dX11_phase_76 : decode cX11_phase 76 = .ok (.aload_n 0, 1) := by decide +kernel
theorem dX11_phase_77 : decode cX11_phase 77 = .ok (.getfield 64, 3) := by decide +kernel
theorem dX11_phase_80 : decode cX11_phase 80 = .ok (.iload_n 3, 1) := by decide +kernel
theorem dX11_phase_81 : decode cX11_phase 81 = .ok (.iaload, 1) := by decide +kernel
theorem dX11_phase_82 : decode cX11_phase 82 = .ok (.ifCond .ne 5, 3) := by decide +kernel
theorem dX11_phase_85 : decode cX11_phase 85 = .ok (.iconst (-1), 1) := by decide +kernel
theorem dX11_phase_86 : decode cX11_phase 86 = .ok (.ireturn, 1) := by decide +kernel
theorem dX11_phase_87 : decode cX11_phase 87 = .ok (.iload_n 1, 1) := by decide +kernel
theorem dX11_phase_88 : decode cX11_phase 88 = .ok (.ifCond .ne 7, 3) := by decide +kernel
theorem dX11_phase_91 : decode cX11_phase 91 = .ok (.iload_n 3, 1) := by decide +kernel
theorem dX11_phase_92 : decode cX11_phase 92 = .ok (.goto 9, 3) := by decide +kernel
theorem dX11_phase_95 : decode cX11_phase 95 = .ok (.aload_n 0, 1) := by decide +kernel
theorem dX11_phase_96 : decode cX11_phase 96 = .ok (.getfield 64, 3) := by decide +kernel
theorem dX11_phase_99 : decode cX11_phase 99 = .ok (.iload_n 3, 1) := by decide +kernel
theorem dX11_phase_100 : decode cX11_phase 100 = .ok (.iaload, 1) := by decide +kernel
theorem dX11_phase_101 : decode cX11_phase 101 = .ok (.ireturn, 1) := by decide +kernel
theorem dX11_tuned_0 : decode cX11_tuned 0 = .ok (.iload_n 1, 1) := by decide +kernel
theorem dX11_tuned_1 : decode cX11_tuned 1 = .ok (.iconst 1, 1) := by decide +kernel
theorem dX11_tuned_2 : decode cX11_tuned 2 = .ok (.iconst 3, 1) := by decide +kernel
theorem dX11_tuned_3 : decode cX11_tuned 3 = .ok (.invokestatic 100, 3) := by decide +kernel
theorem dX11_tuned_6 : decode cX11_tuned 6 = .ok (.ifCond .ne 6, 3) := by decide +kernel
theorem dX11_tuned_9 : decode cX11_tuned 9 = .ok (.bipush (-2), 2) := by decide +kernel
theorem dX11_tuned_11 : decode cX11_tuned 11 = .ok (.ireturn, 1) := by decide +kernel
theorem dX11_tuned_12 : decode cX11_tuned 12 = .ok (.iconst (-1), 1) := by decide +kernel
theorem dX11_tuned_13 : decode cX11_tuned 13 = .ok (.istore_n 2, 1) := by decide +kernel
theorem dX11_tuned_14 : decode cX11_tuned 14 = .ok (.iconst 0, 1) := by decide +kernel
theorem dX11_tuned_15 : decode cX11_tuned 15 = .ok (.istore_n 3, 1) := by decide +kernel
theorem dX11_tuned_16 : decode cX11_tuned 16 = .ok (.getstatic 151, 3) := by decide +kernel
theorem dX11_tuned_19 : decode cX11_tuned 19 = .ok (.iload_n 1, 1) := by decide +kernel
theorem dX11_tuned_20 : decode cX11_tuned 20 = .ok (.iaload, 1) := by decide +kernel
theorem dX11_tuned_21 : decode cX11_tuned 21 = .ok (.istore 4, 2) := by decide +kernel
theorem dX11_tuned_23 : decode cX11_tuned 23 = .ok (.iload 4, 2) := by decide +kernel
theorem dX11_tuned_25 : decode cX11_tuned 25 = .ok (.getstatic 154, 3) := by decide +kernel
theorem dX11_tuned_28 : decode cX11_tuned 28 = .ok (.iload_n 1, 1) := by decide +kernel
theorem dX11_tuned_29 : decode cX11_tuned 29 = .ok (.iaload, 1) := by decide +kernel
theorem dX11_tuned_30 : decode cX11_tuned 30 = .ok (.if_icmp .gt 88, 3) := by decide +kernel
theorem dX11_tuned_33 : decode cX11_tuned 33 = .ok (.aload_n 0, 1) := by decide +kernel
theorem dX11_tuned_34 : decode cX11_tuned 34 = .ok (.getfield 51, 3) := by decide +kernel
theorem dX11_tuned_37 : decode cX11_tuned 37 = .ok (.aload_n 0, 1) := by decide +kernel
theorem dX11_tuned_38 : decode cX11_tuned 38 = .ok (.getfield 47, 3) := by decide +kernel
theorem dX11_tuned_41 : decode cX11_tuned 41 = .ok (.invokevirtual 267, 3) := by decide +kernel
theorem dX11_tuned_44 : decode cX11_tuned 44 = .ok (.aload_n 0, 1) := by decide +kernel
theorem dX11_tuned_45 : decode cX11_tuned 45 = .ok (.getfield 51, 3) := by decide +kernel
theorem dX11_tuned_48 : decode cX11_tuned 48 = .ok (.getfield 298, 3) := by decide +kernel
theorem dX11_tuned_51 : decode cX11_tuned 51 = .ok (.iload_n 1, 1) := by decide +kernel
theorem dX11_tuned_52 : decode cX11_tuned 52 = .ok (.iload 4, 2) := by decide +kernel
theorem dX11_tuned_54 : decode cX11_tuned 54 = .ok (.iastore, 1) := by decide +kernel
theorem dX11_tuned_55 : decode cX11_tuned 55 = .ok (.aload_n 0, 1) := by decide +kernel
theorem dX11_tuned_56 : decode cX11_tuned 56 = .ok (.aload_n 0, 1) := by decide +kernel
theorem dX11_tuned_57 : decode cX11_tuned 57 = .ok (.getfield 51, 3) := by decide +kernel
theorem dX11_tuned_60 : decode cX11_tuned 60 = .ok (.aload_n 0, 1) := by decide +kernel
theorem dX11_tuned_61 : decode cX11_tuned 61 = .ok (.getfield 24, 3) := by decide +kernel
theorem dX11_tuned_64 : decode cX11_tuned 64 = .ok (.getfield 96, 3) := by decide +kernel
theorem dX11_tuned_67 : decode cX11_tuned 67 = .ok (.iconst (-1), 1) := by decide +kernel
theorem dX11_tuned_68 : decode cX11_tuned 68 = .ok (.invokevirtual 164, 3) := by decide +kernel
theorem dX11_tuned_71 : decode cX11_tuned 71 = .ok (.aload_n 0, 1) := by decide +kernel
theorem dX11_tuned_72 : decode cX11_tuned 72 = .ok (.getfield 51, 3) := by decide +kernel
theorem dX11_tuned_75 : decode cX11_tuned 75 = .ok (.getfield 171, 3) := by decide +kernel
theorem dX11_tuned_78 : decode cX11_tuned 78 = .ok (.iconst 3, 1) := by decide +kernel
theorem dX11_tuned_79 : decode cX11_tuned 79 = .ok (.iaload, 1) := by decide +kernel
theorem dX11_tuned_80 : decode cX11_tuned 80 = .ok (.iconst 2, 1) := by decide +kernel
theorem dX11_tuned_81 : decode cX11_tuned 81 = .ok (.aload_n 0, 1) := by decide +kernel
theorem dX11_tuned_82 : decode cX11_tuned 82 = .ok (.getfield 51, 3) := by decide +kernel
theorem dX11_tuned_85 : decode cX11_tuned 85 = .ok (.getfield 171, 3) := by decide +kernel
theorem dX11_tuned_88 : decode cX11_tuned 88 = .ok (.bipush 9, 2) := by decide +kernel
theorem dX11_tuned_90 : decode cX11_tuned 90 = .ok (.iaload, 1) := by decide +kernel
theorem dX11_tuned_91 : decode cX11_tuned 91 = .ok (.imul, 1) := by decide +kernel
theorem dX11_tuned_92 : decode cX11_tuned 92 = .ok (.isub, 1) := by decide +kernel
theorem dX11_tuned_93 : decode cX11_tuned 93 = .ok (.istore 5, 2) := by decide +kernel
theorem dX11_tuned_95 : decode cX11_tuned 95 = .ok (.iload_n 2, 1) := by decide +kernel
theorem dX11_tuned_96 : decode cX11_tuned 96 = .ok (.iconst (-1), 1) := by decide +kernel
theorem dX11_tuned_97 : decode cX11_tuned 97 = .ok (.if_icmp .eq 9, 3) := by decide +kernel
theorem dX11_tuned_100 : decode cX11_tuned 100 = .ok (.iload 5, 2) := by decide +kernel
theorem dX11_tuned_102 : decode cX11_tuned 102 = .ok (.iload_n 3, 1) := by decide +kernel
theorem dX11_tuned_103 : decode cX11_tuned 103 = .ok (.if_icmp .le 9, 3) := by decide +kernel
theorem dX11_tuned_106 : decode cX11_tuned 106 = .ok (.iload 4, 2) := by decide +kernel
theorem dX11_tuned_108 : decode cX11_tuned 108 = .ok (.istore_n 2, 1) := by decide +kernel
theorem dX11_tuned_109 : decode cX11_tuned 109 = .ok (.iload 5, 2) := by decide +kernel
theorem dX11_tuned_111 : decode cX11_tuned 111 = .ok (.istore_n 3, 1) := by decide +kernel
theorem dX11_tuned_112 : decode cX11_tuned 112 = .ok (.iinc 4 1, 3) := by decide +kernel
theorem dX11_tuned_115 : decode cX11_tuned 115 = .ok (.goto (-92), 3) := by decide +kernel
theorem dX11_tuned_118 : decode cX11_tuned 118 = .ok (.iload_n 2, 1) := by decide +kernel
theorem dX11_tuned_119 : decode cX11_tuned 119 = .ok (.ireturn, 1) := by decide +kernel
theorem dX11_starts_0 : decode cX11_starts 0 = .ok (.iload_n 1, 1) := by decide +kernel
theorem dX11_starts_1 : decode cX11_starts 1 = .ok (.iconst 0, 1) := by decide +kernel
theorem dX11_starts_2 : decode cX11_starts 2 = .ok (.iconst 3, 1) := by decide +kernel
theorem dX11_starts_3 : decode cX11_starts 3 = .ok (.invokestatic 100, 3) := by decide +kernel
theorem dX11_starts_6 : decode cX11_starts 6 = .ok (.ifCond .ne 6, 3) := by decide +kernel
theorem dX11_starts_9 : decode cX11_starts 9 = .ok (.bipush (-2), 2) := by decide +kernel
theorem dX11_starts_11 : decode cX11_starts 11 = .ok (.ireturn, 1) := by decide +kernel
theorem dX11_starts_12 : decode cX11_starts 12 = .ok (.iconst 0, 1) := by decide +kernel
theorem dX11_starts_13 : decode cX11_starts 13 = .ok (.istore_n 2, 1) := by decide +kernel
theorem dX11_starts_14 : decode cX11_starts 14 = .ok (.iconst 0, 1) := by decide +kernel
theorem dX11_starts_15 : decode cX11_starts 15 = .ok (.istore_n 3, 1) := by decide +kernel
theorem dX11_starts_16 : decode cX11_starts 16 = .ok (.iconst 0, 1) := by decide +kernel
theorem dX11_starts_17 : decode cX11_starts 17 = .ok (.istore 4, 2) := by decide +kernel
theorem dX11_starts_19 : decode cX11_starts 19 = .ok (.iconst 0, 1) := by decide +kernel
theorem dX11_starts_20 : decode cX11_starts 20 = .ok (.istore 5, 2) := by decide +kernel
theorem dX11_starts_22 : decode cX11_starts 22 = .ok (.iconst 0, 1) := by decide +kernel
theorem dX11_starts_23 : decode cX11_starts 23 = .ok (.istore 6, 2) := by decide +kernel
theorem dX11_starts_25 : decode cX11_starts 25 = .ok (.iload 6, 2) := by decide +kernel
theorem dX11_starts_27 : decode cX11_starts 27 = .ok (.bipush 64, 2) := by decide +kernel
theorem dX11_starts_29 : decode cX11_starts 29 = .ok (.if_icmp .ge 91, 3) := by decide +kernel
theorem dX11_starts_32 : decode cX11_starts 32 = .ok (.aload_n 0, 1) := by decide +kernel
theorem dX11_starts_33 : decode cX11_starts 33 = .ok (.getfield 51, 3) := by decide +kernel
theorem dX11_starts_36 : decode cX11_starts 36 = .ok (.aload_n 0, 1) := by decide +kernel
theorem dX11_starts_37 : decode cX11_starts 37 = .ok (.getfield 47, 3) := by decide +kernel
theorem dX11_starts_40 : decode cX11_starts 40 = .ok (.invokevirtual 267, 3) := by decide +kernel
theorem dX11_starts_43 : decode cX11_starts 43 = .ok (.aload_n 0, 1) := by decide +kernel
theorem dX11_starts_44 : decode cX11_starts 44 = .ok (.getfield 51, 3) := by decide +kernel
theorem dX11_starts_47 : decode cX11_starts 47 = .ok (.invokevirtual 174, 3) := by decide +kernel
theorem dX11_starts_50 : decode cX11_starts 50 = .ok (.aload_n 0, 1) := by decide +kernel
theorem dX11_starts_51 : decode cX11_starts 51 = .ok (.aload_n 0, 1) := by decide +kernel
theorem dX11_starts_52 : decode cX11_starts 52 = .ok (.getfield 24, 3) := by decide +kernel
theorem dX11_starts_55 : decode cX11_starts 55 = .ok (.getfield 125, 3) := by decide +kernel
theorem dX11_starts_58 : decode cX11_starts 58 = .ok (.iload 6, 2) := by decide +kernel
theorem dX11_starts_60 : decode cX11_starts 60 = .ok (.iadd, 1) := by decide +kernel
theorem dX11_starts_61 : decode cX11_starts 61 = .ok (.invokevirtual 277, 3) := by decide +kernel
theorem dX11_starts_64 : decode cX11_starts 64 = .ok (.istore 7, 2) := by decide +kernel
theorem dX11_starts_66 : decode cX11_starts 66 = .ok (.iload 7, 2) := by decide +kernel
theorem dX11_starts_68 : decode cX11_starts 68 = .ok (.iconst (-1), 1) := by decide +kernel
theorem dX11_starts_69 : decode cX11_starts 69 = .ok (.if_icmp .eq 20, 3) := by decide +kernel
theorem dX11_starts_72 : decode cX11_starts 72 = .ok (.iinc 2 1, 3) := by decide +kernel
theorem dX11_starts_75 : decode cX11_starts 75 = .ok (.iload_n 3, 1) := by decide +kernel
theorem dX11_starts_76 : decode cX11_starts 76 = .ok (.iload 7, 2) := by decide +kernel
theorem dX11_starts_78 : decode cX11_starts 78 = .ok (.iadd, 1) := by decide +kernel
theorem dX11_starts_79 : decode cX11_starts 79 = .ok (.istore_n 3, 1) := by decide +kernel
theorem dX11_starts_80 : decode cX11_starts 80 = .ok (.iload 4, 2) := by decide +kernel
theorem dX11_starts_82 : decode cX11_starts 82 = .ok (.iload 7, 2) := by decide +kernel
theorem dX11_starts_84 : decode cX11_starts 84 = .ok (.invokestatic 299, 3) := by decide +kernel
theorem dX11_starts_87 : decode cX11_starts 87 = .ok (.istore 4, 2) := by decide +kernel
theorem dX11_starts_89 : decode cX11_starts 89 = .ok (.aload_n 0, 1) := by decide +kernel
theorem dX11_starts_90 : decode cX11_starts 90 = .ok (.getfield 51, 3) := by decide +kernel
theorem dX11_starts_93 : decode cX11_starts 93 = .ok (.getfield 171, 3) := by decide +kernel
theorem dX11_starts_96 : decode cX11_starts 96 = .ok (.bipush 8, 2) := by decide +kernel
theorem dX11_starts_98 : decode cX11_starts 98 = .ok (.iaload, 1) := by decide +kernel
theorem dX11_starts_99 : decode cX11_starts 99 = .ok (.aload_n 0, 1) := by decide +kernel
theorem dX11_starts_100 : decode cX11_starts 100 = .ok (.getfield 51, 3) := by decide +kernel
theorem dX11_starts_103 : decode cX11_starts 103 = .ok (.getfield 171, 3) := by decide +kernel
theorem dX11_starts_106 : decode cX11_starts 106 = .ok (.iconst 0, 1) := by decide +kernel
theorem dX11_starts_107 : decode cX11_starts 107 = .ok (.iaload, 1) := by decide +kernel
theorem dX11_starts_108 : decode cX11_starts 108 = .ok (.if_icmp .le 6, 3) := by decide +kernel
theorem dX11_starts_111 : decode cX11_starts 111 = .ok (.iinc 5 1, 3) := by decide +kernel
theorem dX11_starts_114 : decode cX11_starts 114 = .ok (.iinc 6 1, 3) := by decide +kernel
theorem dX11_starts_117 : decode cX11_starts 117 = .ok (.goto (-92), 3) := by decide +kernel
theorem dX11_starts_120 : decode cX11_starts 120 = .ok (.iload_n 1, 1) := by decide +kernel
theorem dX11_starts_121 : decode cX11_starts 121 = .ok (.tableswitch 34 0 2 #[27, 29, 31], 27) := by decide +kernel
theorem dX11_starts_148 : decode cX11_starts 148 = .ok (.iload_n 2, 1) := by decide +kernel
theorem dX11_starts_149 : decode cX11_starts 149 = .ok (.ireturn, 1) := by decide +kernel
theorem dX11_starts_150 : decode cX11_starts 150 = .ok (.iload_n 3, 1) := by decide +kernel
theorem dX11_starts_151 : decode cX11_starts 151 = .ok (.ireturn, 1) := by decide +kernel
theorem dX11_starts_152 : decode cX11_starts 152 = .ok (.iload 4, 2) := by decide +kernel
theorem dX11_starts_154 : decode cX11_starts 154 = .ok (.ireturn, 1) := by decide +kernel
theorem dX11_starts_155 : decode cX11_starts 155 = .ok (.iload 5, 2) := by decide +kernel
theorem dX11_starts_157 : decode cX11_starts 157 = .ok (.ireturn, 1) := by decide +kernel
theorem dX11_check_0 : decode cX11_check 0 = .ok (.iload_n 1, 1) := by decide +kernel
theorem dX11_check_1 : decode cX11_check 1 = .ok (.invokestatic 302, 3) := by decide +kernel
theorem dX11_check_4 : decode cX11_check 4 = .ok (.ireturn, 1) := by decide +kernel
theorem dX11_syndrome_0 : decode cX11_syndrome 0 = .ok (.iload_n 2, 1) := by decide +kernel
theorem dX11_syndrome_1 : decode cX11_syndrome 1 = .ok (.invokestatic 305, 3) := by decide +kernel
theorem dX11_syndrome_4 : decode cX11_syndrome 4 = .ok (.ifCond .eq 12, 3) := by decide +kernel
theorem dX11_syndrome_7 : decode cX11_syndrome 7 = .ok (.iload_n 1, 1) := by decide +kernel
theorem dX11_syndrome_8 : decode cX11_syndrome 8 = .ok (.invokestatic 302, 3) := by decide +kernel
theorem dX11_syndrome_11 : decode cX11_syndrome 11 = .ok (.iload_n 2, 1) := by decide +kernel
theorem dX11_syndrome_12 : decode cX11_syndrome 12 = .ok (.ixor, 1) := by decide +kernel
theorem dX11_syndrome_13 : decode cX11_syndrome 13 = .ok (.goto 5, 3) := by decide +kernel
theorem dX11_syndrome_16 : decode cX11_syndrome 16 = .ok (.bipush (-3), 2) := by decide +kernel
theorem dX11_syndrome_18 : decode cX11_syndrome 18 = .ok (.ireturn, 1) := by decide +kernel
theorem dX11_single_0 : decode cX11_single 0 = .ok (.iload_n 1, 1) := by decide +kernel
theorem dX11_single_1 : decode cX11_single 1 = .ok (.invokestatic 305, 3) := by decide +kernel
theorem dX11_single_4 : decode cX11_single 4 = .ok (.ifCond .eq 10, 3) := by decide +kernel
theorem dX11_single_7 : decode cX11_single 7 = .ok (.iload_n 1, 1) := by decide +kernel
theorem dX11_single_8 : decode cX11_single 8 = .ok (.invokestatic 308, 3) := by decide +kernel
theorem dX11_single_11 : decode cX11_single 11 = .ok (.goto 5, 3) := by decide +kernel
theorem dX11_single_14 : decode cX11_single 14 = .ok (.bipush (-3), 2) := by decide +kernel
theorem dX11_single_16 : decode cX11_single 16 = .ok (.ireturn, 1) := by decide +kernel
theorem dX11_latest_0 : decode cX11_latest 0 = .ok (.iload_n 1, 1) := by decide +kernel
theorem dX11_latest_1 : decode cX11_latest 1 = .ok (.iconst 0, 1) := by decide +kernel
theorem dX11_latest_2 : decode cX11_latest 2 = .ok (.iconst 2, 1) := by decide +kernel
theorem dX11_latest_3 : decode cX11_latest 3 = .ok (.invokestatic 100, 3) := by decide +kernel
theorem dX11_latest_6 : decode cX11_latest 6 = .ok (.ifCond .ne 6, 3) := by decide +kernel
theorem dX11_latest_9 : decode cX11_latest 9 = .ok (.bipush (-2), 2) := by decide +kernel
theorem dX11_latest_11 : decode cX11_latest 11 = .ok (.ireturn, 1) := by decide +kernel
theorem dX11_latest_12 : decode cX11_latest 12 = .ok (.iconst (-1), 1) := by decide +kernel
theorem dX11_latest_13 : decode cX11_latest 13 = .ok (.istore_n 2, 1) := by decide +kernel
theorem dX11_latest_14 : decode cX11_latest 14 = .ok (.iconst (-1), 1) := by decide +kernel
theorem dX11_latest_15 : decode cX11_latest 15 = .ok (.istore_n 3, 1) := by decide +kernel
theorem dX11_latest_16 : decode cX11_latest 16 = .ok (.iconst 0, 1) := by decide +kernel
theorem dX11_latest_17 : decode cX11_latest 17 = .ok (.istore 4, 2) := by decide +kernel
theorem dX11_latest_19 : decode cX11_latest 19 = .ok (.bipush 64, 2) := by decide +kernel
theorem dX11_latest_21 : decode cX11_latest 21 = .ok (.aload_n 0, 1) := by decide +kernel
theorem dX11_latest_22 : decode cX11_latest 22 = .ok (.getfield 24, 3) := by decide +kernel
theorem dX11_latest_25 : decode cX11_latest 25 = .ok (.invokevirtual 274, 3) := by decide +kernel
theorem dX11_latest_28 : decode cX11_latest 28 = .ok (.invokestatic 283, 3) := by decide +kernel
theorem dX11_latest_31 : decode cX11_latest 31 = .ok (.istore 5, 2) := by decide +kernel
theorem dX11_latest_33 : decode cX11_latest 33 = .ok (.iconst 1, 1) := by decide +kernel
theorem dX11_latest_34 : decode cX11_latest 34 = .ok (.istore 6, 2) := by decide +kernel
theorem dX11_latest_36 : decode cX11_latest 36 = .ok (.iload 6, 2) := by decide +kernel
theorem dX11_latest_38 : decode cX11_latest 38 = .ok (.iload 5, 2) := by decide +kernel
theorem dX11_latest_40 : decode cX11_latest 40 = .ok (.if_icmp .gt 57, 3) := by decide +kernel
theorem dX11_latest_43 : decode cX11_latest 43 = .ok (.aload_n 0, 1) := by decide +kernel
theorem dX11_latest_44 : decode cX11_latest 44 = .ok (.getfield 51, 3) := by decide +kernel
theorem dX11_latest_47 : decode cX11_latest 47 = .ok (.aload_n 0, 1) := by decide +kernel
theorem dX11_latest_48 : decode cX11_latest 48 = .ok (.getfield 47, 3) := by decide +kernel
theorem dX11_latest_51 : decode cX11_latest 51 = .ok (.invokevirtual 267, 3) := by decide +kernel
theorem dX11_latest_54 : decode cX11_latest 54 = .ok (.aload_n 0, 1) := by decide +kernel
theorem dX11_latest_55 : decode cX11_latest 55 = .ok (.aload_n 0, 1) := by decide +kernel
theorem dX11_latest_56 : decode cX11_latest 56 = .ok (.getfield 24, 3) := by decide +kernel
theorem dX11_latest_59 : decode cX11_latest 59 = .ok (.getfield 125, 3) := by decide +kernel
theorem dX11_latest_62 : decode cX11_latest 62 = .ok (.iload 6, 2) := by decide +kernel
theorem dX11_latest_64 : decode cX11_latest 64 = .ok (.iadd, 1) := by decide +kernel
theorem dX11_latest_65 : decode cX11_latest 65 = .ok (.invokevirtual 277, 3) := by decide +kernel
theorem dX11_latest_68 : decode cX11_latest 68 = .ok (.istore 7, 2) := by decide +kernel
theorem dX11_latest_70 : decode cX11_latest 70 = .ok (.iload 7, 2) := by decide +kernel
theorem dX11_latest_72 : decode cX11_latest 72 = .ok (.iconst (-1), 1) := by decide +kernel
theorem dX11_latest_73 : decode cX11_latest 73 = .ok (.if_icmp .eq 6, 3) := by decide +kernel
theorem dX11_latest_76 : decode cX11_latest 76 = .ok (.iinc 4 1, 3) := by decide +kernel
theorem dX11_latest_79 : decode cX11_latest 79 = .ok (.iload 7, 2) := by decide +kernel
theorem dX11_latest_81 : decode cX11_latest 81 = .ok (.iload_n 2, 1) := by decide +kernel
theorem dX11_latest_82 : decode cX11_latest 82 = .ok (.if_icmp .le 9, 3) := by decide +kernel
theorem dX11_latest_85 : decode cX11_latest 85 = .ok (.iload 7, 2) := by decide +kernel
theorem dX11_latest_87 : decode cX11_latest 87 = .ok (.istore_n 2, 1) := by decide +kernel
theorem dX11_latest_88 : decode cX11_latest 88 = .ok (.iload 6, 2) := by decide +kernel
theorem dX11_latest_90 : decode cX11_latest 90 = .ok (.istore_n 3, 1) := by decide +kernel
theorem dX11_latest_91 : decode cX11_latest 91 = .ok (.iinc 6 1, 3) := by decide +kernel
theorem dX11_latest_94 : decode cX11_latest 94 = .ok (.goto (-58), 3) := by decide +kernel
theorem dX11_latest_97 : decode cX11_latest 97 = .ok (.iload_n 1, 1) := by decide +kernel
theorem dX11_latest_98 : decode cX11_latest 98 = .ok (.iconst 2, 1) := by decide +kernel
theorem dX11_latest_99 : decode cX11_latest 99 = .ok (.if_icmp .ne 6, 3) := by decide +kernel
theorem dX11_latest_102 : decode cX11_latest 102 = .ok (.iload 4, 2) := by decide +kernel
theorem dX11_latest_104 : decode cX11_latest 104 = .ok (.ireturn, 1) := by decide +kernel
theorem dX11_latest_105 : decode cX11_latest 105 = .ok (.iload_n 1, 1) := by decide +kernel
theorem dX11_latest_106 : decode cX11_latest 106 = .ok (.ifCond .ne 7, 3) := by decide +kernel
theorem dX11_latest_109 : decode cX11_latest 109 = .ok (.iload_n 2, 1) := by decide +kernel
theorem dX11_latest_110 : decode cX11_latest 110 = .ok (.goto 4, 3) := by decide +kernel
theorem dX11_latest_113 : decode cX11_latest 113 = .ok (.iload_n 3, 1) := by decide +kernel
theorem dX11_latest_114 : decode cX11_latest 114 = .ok (.ireturn, 1) := by decide +kernel
theorem dX11_pairs_0 : decode cX11_pairs 0 = .ok (.iload_n 1, 1) := by decide +kernel
theorem dX11_pairs_1 : decode cX11_pairs 1 = .ok (.invokestatic 305, 3) := by decide +kernel
theorem dX11_pairs_4 : decode cX11_pairs 4 = .ok (.ifCond .eq 8, 3) := by decide +kernel
theorem dX11_pairs_7 : decode cX11_pairs 7 = .ok (.iload_n 2, 1) := by decide +kernel
theorem dX11_pairs_8 : decode cX11_pairs 8 = .ok (.iconst (-1), 1) := by decide +kernel
theorem dX11_pairs_9 : decode cX11_pairs 9 = .ok (.if_icmp .ge 6, 3) := by decide +kernel
theorem dX11_pairs_12 : decode cX11_pairs 12 = .ok (.bipush (-3), 2) := by decide +kernel
theorem dX11_pairs_14 : decode cX11_pairs 14 = .ok (.ireturn, 1) := by decide +kernel
theorem dX11_pairs_15 : decode cX11_pairs 15 = .ok (.aload_n 0, 1) := by decide +kernel
theorem dX11_pairs_16 : decode cX11_pairs 16 = .ok (.getfield 70, 3) := by decide +kernel
theorem dX11_pairs_19 : decode cX11_pairs 19 = .ok (.iload_n 1, 1) := by decide +kernel
theorem dX11_pairs_20 : decode cX11_pairs 20 = .ok (.iload_n 2, 1) := by decide +kernel
theorem dX11_pairs_21 : decode cX11_pairs 21 = .ok (.invokevirtual 311, 3) := by decide +kernel
theorem dX11_pairs_24 : decode cX11_pairs 24 = .ok (.ireturn, 1) := by decide +kernel
theorem dX11_nearest_0 : decode cX11_nearest 0 = .ok (.iload_n 1, 1) := by decide +kernel
theorem dX11_nearest_1 : decode cX11_nearest 1 = .ok (.invokestatic 305, 3) := by decide +kernel
theorem dX11_nearest_4 : decode cX11_nearest 4 = .ok (.ifCond .eq 8, 3) := by decide +kernel
theorem dX11_nearest_7 : decode cX11_nearest 7 = .ok (.iload_n 2, 1) := by decide +kernel
theorem dX11_nearest_8 : decode cX11_nearest 8 = .ok (.iconst (-1), 1) := by decide +kernel
theorem dX11_nearest_9 : decode cX11_nearest 9 = .ok (.if_icmp .ge 6, 3) := by decide +kernel
theorem dX11_nearest_12 : decode cX11_nearest 12 = .ok (.bipush (-3), 2) := by decide +kernel
theorem dX11_nearest_14 : decode cX11_nearest 14 = .ok (.ireturn, 1) := by decide +kernel
theorem dX11_nearest_15 : decode cX11_nearest 15 = .ok (.aload_n 0, 1) := by decide +kernel
theorem dX11_nearest_16 : decode cX11_nearest 16 = .ok (.getfield 70, 3) := by decide +kernel
theorem dX11_nearest_19 : decode cX11_nearest 19 = .ok (.iload_n 1, 1) := by decide +kernel
theorem dX11_nearest_20 : decode cX11_nearest 20 = .ok (.invokevirtual 314, 3) := by decide +kernel
theorem dX11_nearest_23 : decode cX11_nearest 23 = .ok (.istore_n 3, 1) := by decide +kernel
theorem dX11_nearest_24 : decode cX11_nearest 24 = .ok (.iload_n 2, 1) := by decide +kernel
theorem dX11_nearest_25 : decode cX11_nearest 25 = .ok (.iconst (-1), 1) := by decide +kernel
theorem dX11_nearest_26 : decode cX11_nearest 26 = .ok (.if_icmp .ne 5, 3) := by decide +kernel
theorem dX11_nearest_29 : decode cX11_nearest 29 = .ok (.iload_n 3, 1) := by decide +kernel
theorem dX11_nearest_30 : decode cX11_nearest 30 = .ok (.ireturn, 1) := by decide +kernel
theorem dX11_nearest_31 : decode cX11_nearest 31 = .ok (.iload_n 2, 1) := by decide +kernel
theorem dX11_nearest_32 : decode cX11_nearest 32 = .ok (.iload_n 3, 1) := by decide +kernel
theorem dX11_nearest_33 : decode cX11_nearest 33 = .ok (.if_icmp .ge 14, 3) := by decide +kernel
theorem dX11_nearest_36 : decode cX11_nearest 36 = .ok (.aload_n 0, 1) := by decide +kernel
theorem dX11_nearest_37 : decode cX11_nearest 37 = .ok (.getfield 70, 3) := by decide +kernel
theorem dX11_nearest_40 : decode cX11_nearest 40 = .ok (.iload_n 2, 1) := by decide +kernel
theorem dX11_nearest_41 : decode cX11_nearest 41 = .ok (.invokevirtual 317, 3) := by decide +kernel
theorem dX11_nearest_44 : decode cX11_nearest 44 = .ok (.goto 4, 3) := by decide +kernel
theorem dX11_nearest_47 : decode cX11_nearest 47 = .ok (.iconst (-1), 1) := by decide +kernel
theorem dX11_nearest_48 : decode cX11_nearest 48 = .ok (.ireturn, 1) := by decide +kernel
theorem dX11_mending_0 : decode cX11_mending 0 = .ok (.iload_n 3, 1) := by decide +kernel
theorem dX11_mending_1 : decode cX11_mending 1 = .ok (.iconst 0, 1) := by decide +kernel
theorem dX11_mending_2 : decode cX11_mending 2 = .ok (.iconst 2, 1) := by decide +kernel
theorem dX11_mending_3 : decode cX11_mending 3 = .ok (.invokestatic 100, 3) := by decide +kernel
theorem dX11_mending_6 : decode cX11_mending 6 = .ok (.ifCond .ne 6, 3) := by decide +kernel
theorem dX11_mending_9 : decode cX11_mending 9 = .ok (.bipush (-2), 2) := by decide +kernel
theorem dX11_mending_11 : decode cX11_mending 11 = .ok (.ireturn, 1) := by decide +kernel
theorem dX11_mending_12 : decode cX11_mending 12 = .ok (.iload_n 2, 1) := by decide +kernel
theorem dX11_mending_13 : decode cX11_mending 13 = .ok (.invokestatic 305, 3) := by decide +kernel
theorem dX11_mending_16 : decode cX11_mending 16 = .ok (.ifCond .ne 6, 3) := by decide +kernel
theorem dX11_mending_19 : decode cX11_mending 19 = .ok (.bipush (-3), 2) := by decide +kernel
theorem dX11_mending_21 : decode cX11_mending 21 = .ok (.ireturn, 1) := by decide +kernel
theorem dX11_mending_22 : decode cX11_mending 22 = .ok (.iload_n 1, 1) := by decide +kernel
theorem dX11_mending_23 : decode cX11_mending 23 = .ok (.invokestatic 302, 3) := by decide +kernel
theorem dX11_mending_26 : decode cX11_mending 26 = .ok (.iload_n 2, 1) := by decide +kernel
theorem dX11_mending_27 : decode cX11_mending 27 = .ok (.ixor, 1) := by decide +kernel
theorem dX11_mending_28 : decode cX11_mending 28 = .ok (.istore 4, 2) := by decide +kernel
theorem dX11_mending_30 : decode cX11_mending 30 = .ok (.iload 4, 2) := by decide +kernel
theorem dX11_mending_32 : decode cX11_mending 32 = .ok (.invokestatic 308, 3) := by decide +kernel
theorem dX11_mending_35 : decode cX11_mending 35 = .ok (.istore 5, 2) := by decide +kernel
theorem dX11_mending_37 : decode cX11_mending 37 = .ok (.iload_n 3, 1) := by decide +kernel
theorem dX11_mending_38 : decode cX11_mending 38 = .ok (.iconst 1, 1) := by decide +kernel
theorem dX11_mending_39 : decode cX11_mending 39 = .ok (.if_icmp .ne 10, 3) := by decide +kernel
theorem dX11_mending_42 : decode cX11_mending 42 = .ok (.iload_n 1, 1) := by decide +kernel
theorem dX11_mending_43 : decode cX11_mending 43 = .ok (.iload 5, 2) := by decide +kernel
theorem dX11_mending_45 : decode cX11_mending 45 = .ok (.invokestatic 320, 3) := by decide +kernel
theorem dX11_mending_48 : decode cX11_mending 48 = .ok (.ireturn, 1) := by decide +kernel
theorem dX11_mending_49 : decode cX11_mending 49 = .ok (.iload_n 3, 1) := by decide +kernel
theorem dX11_mending_50 : decode cX11_mending 50 = .ok (.iconst 2, 1) := by decide +kernel
theorem dX11_mending_51 : decode cX11_mending 51 = .ok (.if_icmp .ne 10, 3) := by decide +kernel
theorem dX11_mending_54 : decode cX11_mending 54 = .ok (.iload_n 2, 1) := by decide +kernel
theorem dX11_mending_55 : decode cX11_mending 55 = .ok (.iload 5, 2) := by decide +kernel
theorem dX11_mending_57 : decode cX11_mending 57 = .ok (.invokestatic 323, 3) := by decide +kernel
theorem dX11_mending_60 : decode cX11_mending 60 = .ok (.ireturn, 1) := by decide +kernel
theorem dX11_mending_61 : decode cX11_mending 61 = .ok (.iload 4, 2) := by decide +kernel
theorem dX11_mending_63 : decode cX11_mending 63 = .ok (.ifCond .ne 5, 3) := by decide +kernel
theorem dX11_mending_66 : decode cX11_mending 66 = .ok (.iconst 0, 1) := by decide +kernel
theorem dX11_mending_67 : decode cX11_mending 67 = .ok (.ireturn, 1) := by decide +kernel
theorem dX11_mending_68 : decode cX11_mending 68 = .ok (.iload 5, 2) := by decide +kernel
theorem dX11_mending_70 : decode cX11_mending 70 = .ok (.iconst (-1), 1) := by decide +kernel
theorem dX11_mending_71 : decode cX11_mending 71 = .ok (.if_icmp .ne 7, 3) := by decide +kernel
theorem dX11_mending_74 : decode cX11_mending 74 = .ok (.iconst 2, 1) := by decide +kernel
theorem dX11_mending_75 : decode cX11_mending 75 = .ok (.goto 4, 3) := by decide +kernel
theorem dX11_mending_78 : decode cX11_mending 78 = .ok (.iconst 1, 1) := by decide +kernel
theorem dX11_mending_79 : decode cX11_mending 79 = .ok (.ireturn, 1) := by decide +kernel
theorem dX11_words_0 : decode cX11_words 0 = .ok (.iload_n 1, 1) := by decide +kernel
theorem dX11_words_1 : decode cX11_words 1 = .ok (.iconst 0, 1) := by decide +kernel
theorem dX11_words_2 : decode cX11_words 2 = .ok (.bipush 40, 2) := by decide +kernel
theorem dX11_words_4 : decode cX11_words 4 = .ok (.invokestatic 100, 3) := by decide +kernel
theorem dX11_words_7 : decode cX11_words 7 = .ok (.ifCond .eq 14, 3) := by decide +kernel
theorem dX11_words_10 : decode cX11_words 10 = .ok (.aload_n 0, 1) := by decide +kernel
theorem dX11_words_11 : decode cX11_words 11 = .ok (.getfield 77, 3) := by decide +kernel
theorem dX11_words_14 : decode cX11_words 14 = .ok (.iload_n 1, 1) := by decide +kernel
theorem dX11_words_15 : decode cX11_words 15 = .ok (.invokevirtual 326, 3) := by decide +kernel
theorem dX11_words_18 : decode cX11_words 18 = .ok (.goto 6, 3) := by decide +kernel
theorem dX11_words_21 : decode cX11_words 21 = .ok (.ldc2_w 330, 3) := by decide +kernel
theorem dX11_words_24 : decode cX11_words 24 = .ok (.lreturn, 1) := by decide +kernel
theorem dX11_cases_0 : decode cX11_cases 0 = .ok (.iload_n 2, 1) := by decide +kernel
theorem dX11_cases_1 : decode cX11_cases 1 = .ok (.iconst 0, 1) := by decide +kernel
theorem dX11_cases_2 : decode cX11_cases 2 = .ok (.iconst 2, 1) := by decide +kernel
theorem dX11_cases_3 : decode cX11_cases 3 = .ok (.invokestatic 100, 3) := by decide +kernel
theorem dX11_cases_6 : decode cX11_cases 6 = .ok (.ifCond .ne 7, 3) := by decide +kernel
theorem dX11_cases_9 : decode cX11_cases 9 = .ok (.ldc2_w 332, 3) := by decide +kernel
theorem dX11_cases_12 : decode cX11_cases 12 = .ok (.lreturn, 1) := by decide +kernel
theorem dX11_cases_13 : decode cX11_cases 13 = .ok (.iload_n 1, 1) := by decide +kernel
theorem dX11_cases_14 : decode cX11_cases 14 = .ok (.iconst 0, 1) := by decide +kernel
theorem dX11_cases_15 : decode cX11_cases 15 = .ok (.bipush 40, 2) := by decide +kernel
theorem dX11_cases_17 : decode cX11_cases 17 = .ok (.invokestatic 100, 3) := by decide +kernel
theorem dX11_cases_20 : decode cX11_cases 20 = .ok (.ifCond .ne 7, 3) := by decide +kernel
theorem dX11_cases_23 : decode cX11_cases 23 = .ok (.ldc2_w 330, 3) := by decide +kernel
theorem dX11_cases_26 : decode cX11_cases 26 = .ok (.lreturn, 1) := by decide +kernel
theorem dX11_cases_27 : decode cX11_cases 27 = .ok (.aload_n 0, 1) := by decide +kernel
theorem dX11_cases_28 : decode cX11_cases 28 = .ok (.getfield 77, 3) := by decide +kernel
theorem dX11_cases_31 : decode cX11_cases 31 = .ok (.iload_n 1, 1) := by decide +kernel
theorem dX11_cases_32 : decode cX11_cases 32 = .ok (.invokevirtual 326, 3) := by decide +kernel
theorem dX11_cases_35 : decode cX11_cases 35 = .ok (.lstore_n 3, 1) := by decide +kernel
theorem dX11_cases_36 : decode cX11_cases 36 = .ok (.aload_n 0, 1) := by decide +kernel
theorem dX11_cases_37 : decode cX11_cases 37 = .ok (.getfield 77, 3) := by decide +kernel
theorem dX11_cases_40 : decode cX11_cases 40 = .ok (.iload_n 1, 1) := by decide +kernel
theorem dX11_cases_41 : decode cX11_cases 41 = .ok (.invokevirtual 334, 3) := by decide +kernel
theorem dX11_cases_44 : decode cX11_cases 44 = .ok (.lstore 5, 2) := by decide +kernel
theorem dX11_cases_46 : decode cX11_cases 46 = .ok (.iload_n 2, 1) := by decide +kernel
theorem dX11_cases_47 : decode cX11_cases 47 = .ok (.iconst 2, 1) := by decide +kernel
theorem dX11_cases_48 : decode cX11_cases 48 = .ok (.if_icmp .ne 13, 3) := by decide +kernel
theorem dX11_cases_51 : decode cX11_cases 51 = .ok (.iload_n 1, 1) := by decide +kernel
theorem dX11_cases_52 : decode cX11_cases 52 = .ok (.invokestatic 337, 3) := by decide +kernel
theorem dX11_cases_55 : decode cX11_cases 55 = .ok (.lload_n 3, 1) := by decide +kernel
theorem dX11_cases_56 : decode cX11_cases 56 = .ok (.lsub, 1) := by decide +kernel
theorem dX11_cases_57 : decode cX11_cases 57 = .ok (.lload 5, 2) := by decide +kernel
theorem dX11_cases_59 : decode cX11_cases 59 = .ok (.lsub, 1) := by decide +kernel
theorem dX11_cases_60 : decode cX11_cases 60 = .ok (.lreturn, 1) := by decide +kernel
theorem dX11_cases_61 : decode cX11_cases 61 = .ok (.iload_n 2, 1) := by decide +kernel
theorem dX11_cases_62 : decode cX11_cases 62 = .ok (.ifCond .ne 7, 3) := by decide +kernel
theorem dX11_cases_65 : decode cX11_cases 65 = .ok (.lload_n 3, 1) := by decide +kernel
theorem dX11_cases_66 : decode cX11_cases 66 = .ok (.goto 5, 3) := by decide +kernel
theorem dX11_cases_69 : decode cX11_cases 69 = .ok (.lload 5, 2) := by decide +kernel
theorem dX11_cases_71 : decode cX11_cases 71 = .ok (.lreturn, 1) := by decide +kernel
theorem dX11_unseen_0 : decode cX11_unseen 0 = .ok (.iload_n 2, 1) := by decide +kernel
theorem dX11_unseen_1 : decode cX11_unseen 1 = .ok (.iconst 0, 1) := by decide +kernel
theorem dX11_unseen_2 : decode cX11_unseen 2 = .ok (.iconst 4, 1) := by decide +kernel
theorem dX11_unseen_3 : decode cX11_unseen 3 = .ok (.invokestatic 100, 3) := by decide +kernel
theorem dX11_unseen_6 : decode cX11_unseen 6 = .ok (.ifCond .ne 7, 3) := by decide +kernel
theorem dX11_unseen_9 : decode cX11_unseen 9 = .ok (.ldc2_w 332, 3) := by decide +kernel
theorem dX11_unseen_12 : decode cX11_unseen 12 = .ok (.lreturn, 1) := by decide +kernel
theorem dX11_unseen_13 : decode cX11_unseen 13 = .ok (.iload_n 1, 1) := by decide +kernel
theorem dX11_unseen_14 : decode cX11_unseen 14 = .ok (.iconst 0, 1) := by decide +kernel
theorem dX11_unseen_15 : decode cX11_unseen 15 = .ok (.bipush 40, 2) := by decide +kernel
theorem dX11_unseen_17 : decode cX11_unseen 17 = .ok (.invokestatic 100, 3) := by decide +kernel
theorem dX11_unseen_20 : decode cX11_unseen 20 = .ok (.ifCond .ne 7, 3) := by decide +kernel
theorem dX11_unseen_23 : decode cX11_unseen 23 = .ok (.ldc2_w 330, 3) := by decide +kernel
theorem dX11_unseen_26 : decode cX11_unseen 26 = .ok (.lreturn, 1) := by decide +kernel
theorem dX11_unseen_27 : decode cX11_unseen 27 = .ok (.aload_n 0, 1) := by decide +kernel
theorem dX11_unseen_28 : decode cX11_unseen 28 = .ok (.getfield 77, 3) := by decide +kernel
theorem dX11_unseen_31 : decode cX11_unseen 31 = .ok (.iload_n 1, 1) := by decide +kernel
theorem dX11_unseen_32 : decode cX11_unseen 32 = .ok (.invokevirtual 326, 3) := by decide +kernel
theorem dX11_unseen_35 : decode cX11_unseen 35 = .ok (.iload_n 1, 1) := by decide +kernel
theorem dX11_unseen_36 : decode cX11_unseen 36 = .ok (.invokestatic 337, 3) := by decide +kernel
theorem dX11_unseen_39 : decode cX11_unseen 39 = .ok (.iload_n 2, 1) := by decide +kernel
theorem dX11_unseen_40 : decode cX11_unseen 40 = .ok (.invokestatic 340, 3) := by decide +kernel
theorem dX11_unseen_43 : decode cX11_unseen 43 = .ok (.lreturn, 1) := by decide +kernel
theorem dX11_odds_0 : decode cX11_odds 0 = .ok (.iload_n 1, 1) := by decide +kernel
theorem dX11_odds_1 : decode cX11_odds 1 = .ok (.iconst 0, 1) := by decide +kernel
theorem dX11_odds_2 : decode cX11_odds 2 = .ok (.iconst 1, 1) := by decide +kernel
theorem dX11_odds_3 : decode cX11_odds 3 = .ok (.invokestatic 100, 3) := by decide +kernel
theorem dX11_odds_6 : decode cX11_odds 6 = .ok (.ifCond .eq 13, 3) := by decide +kernel
theorem dX11_odds_9 : decode cX11_odds 9 = .ok (.iload 4, 2) := by decide +kernel
theorem dX11_odds_11 : decode cX11_odds 11 = .ok (.iconst 0, 1) := by decide +kernel
theorem dX11_odds_12 : decode cX11_odds 12 = .ok (.iconst 4, 1) := by decide +kernel
theorem dX11_odds_13 : decode cX11_odds 13 = .ok (.invokestatic 100, 3) := by decide +kernel
theorem dX11_odds_16 : decode cX11_odds 16 = .ok (.ifCond .ne 7, 3) := by decide +kernel
theorem dX11_odds_19 : decode cX11_odds 19 = .ok (.ldc2_w 332, 3) := by decide +kernel
theorem dX11_odds_22 : decode cX11_odds 22 = .ok (.lreturn, 1) := by decide +kernel
theorem dX11_odds_23 : decode cX11_odds 23 = .ok (.iload_n 2, 1) := by decide +kernel
theorem dX11_odds_24 : decode cX11_odds 24 = .ok (.iconst 0, 1) := by decide +kernel
theorem dX11_odds_25 : decode cX11_odds 25 = .ok (.bipush 7, 2) := by decide +kernel
theorem dX11_odds_27 : decode cX11_odds 27 = .ok (.invokestatic 100, 3) := by decide +kernel
theorem dX11_odds_30 : decode cX11_odds 30 = .ok (.ifCond .eq 14, 3) := by decide +kernel
theorem dX11_odds_33 : decode cX11_odds 33 = .ok (.iload_n 3, 1) := by decide +kernel
theorem dX11_odds_34 : decode cX11_odds 34 = .ok (.iconst 0, 1) := by decide +kernel
theorem dX11_odds_35 : decode cX11_odds 35 = .ok (.sipush 256, 3) := by decide +kernel
theorem dX11_odds_38 : decode cX11_odds 38 = .ok (.invokestatic 100, 3) := by decide +kernel
theorem dX11_odds_41 : decode cX11_odds 41 = .ok (.ifCond .ne 7, 3) := by decide +kernel
theorem dX11_odds_44 : decode cX11_odds 44 = .ok (.ldc2_w 330, 3) := by decide +kernel
theorem dX11_odds_47 : decode cX11_odds 47 = .ok (.lreturn, 1) := by decide +kernel
theorem dX11_odds_48 : decode cX11_odds 48 = .ok (.aload_n 0, 1) := by decide +kernel
theorem dX11_odds_49 : decode cX11_odds 49 = .ok (.iload_n 1, 1) := by decide +kernel
theorem dX11_odds_50 : decode cX11_odds 50 = .ok (.iload_n 2, 1) := by decide +kernel
theorem dX11_odds_51 : decode cX11_odds 51 = .ok (.iload_n 3, 1) := by decide +kernel
theorem dX11_odds_52 : decode cX11_odds 52 = .ok (.invokevirtual 346, 3) := by decide +kernel
theorem dX11_odds_55 : decode cX11_odds 55 = .ok (.lconst 1, 1) := by decide +kernel
theorem dX11_odds_56 : decode cX11_odds 56 = .ok (.bipush 8, 2) := by decide +kernel
theorem dX11_odds_58 : decode cX11_odds 58 = .ok (.iload_n 2, 1) := by decide +kernel
theorem dX11_odds_59 : decode cX11_odds 59 = .ok (.imul, 1) := by decide +kernel
theorem dX11_odds_60 : decode cX11_odds 60 = .ok (.lshl, 1) := by decide +kernel
theorem dX11_odds_61 : decode cX11_odds 61 = .ok (.iload 4, 2) := by decide +kernel
theorem dX11_odds_63 : decode cX11_odds 63 = .ok (.invokestatic 340, 3) := by decide +kernel
theorem dX11_odds_66 : decode cX11_odds 66 = .ok (.lreturn, 1) := by decide +kernel
theorem dX11_mean_0 : decode cX11_mean 0 = .ok (.iload_n 1, 1) := by decide +kernel
theorem dX11_mean_1 : decode cX11_mean 1 = .ok (.iconst 0, 1) := by decide +kernel
theorem dX11_mean_2 : decode cX11_mean 2 = .ok (.iconst 1, 1) := by decide +kernel
theorem dX11_mean_3 : decode cX11_mean 3 = .ok (.invokestatic 100, 3) := by decide +kernel
theorem dX11_mean_6 : decode cX11_mean 6 = .ok (.ifCond .eq 12, 3) := by decide +kernel
theorem dX11_mean_9 : decode cX11_mean 9 = .ok (.iload_n 3, 1) := by decide +kernel
theorem dX11_mean_10 : decode cX11_mean 10 = .ok (.iconst 0, 1) := by decide +kernel
theorem dX11_mean_11 : decode cX11_mean 11 = .ok (.iconst 1, 1) := by decide +kernel
theorem dX11_mean_12 : decode cX11_mean 12 = .ok (.invokestatic 100, 3) := by decide +kernel
theorem dX11_mean_15 : decode cX11_mean 15 = .ok (.ifCond .ne 7, 3) := by decide +kernel
theorem dX11_mean_18 : decode cX11_mean 18 = .ok (.ldc2_w 332, 3) := by decide +kernel
theorem dX11_mean_21 : decode cX11_mean 21 = .ok (.lreturn, 1) := by decide +kernel
theorem dX11_mean_22 : decode cX11_mean 22 = .ok (.iload_n 2, 1) := by decide +kernel
theorem dX11_mean_23 : decode cX11_mean 23 = .ok (.iconst 0, 1) := by decide +kernel
theorem dX11_mean_24 : decode cX11_mean 24 = .ok (.sipush 256, 3) := by decide +kernel
theorem dX11_mean_27 : decode cX11_mean 27 = .ok (.invokestatic 100, 3) := by decide +kernel
theorem dX11_mean_30 : decode cX11_mean 30 = .ok (.ifCond .ne 7, 3) := by decide +kernel
theorem dX11_mean_33 : decode cX11_mean 33 = .ok (.ldc2_w 330, 3) := by decide +kernel
theorem dX11_mean_36 : decode cX11_mean 36 = .ok (.lreturn, 1) := by decide +kernel
theorem dX11_mean_37 : decode cX11_mean 37 = .ok (.iload_n 1, 1) := by decide +kernel
theorem dX11_mean_38 : decode cX11_mean 38 = .ok (.iload_n 2, 1) := by decide +kernel
theorem dX11_mean_39 : decode cX11_mean 39 = .ok (.invokestatic 350, 3) := by decide +kernel
theorem dX11_mean_42 : decode cX11_mean 42 = .ok (.istore 4, 2) := by decide +kernel
theorem dX11_mean_44 : decode cX11_mean 44 = .ok (.iload 4, 2) := by decide +kernel
theorem dX11_mean_46 : decode cX11_mean 46 = .ok (.ifCond .ne 7, 3) := by decide +kernel
theorem dX11_mean_49 : decode cX11_mean 49 = .ok (.ldc2_w 353, 3) := by decide +kernel
theorem dX11_mean_52 : decode cX11_mean 52 = .ok (.lreturn, 1) := by decide +kernel
theorem dX11_mean_53 : decode cX11_mean 53 = .ok (.aload_n 0, 1) := by decide +kernel
theorem dX11_mean_54 : decode cX11_mean 54 = .ok (.iload_n 1, 1) := by decide +kernel
theorem dX11_mean_55 : decode cX11_mean 55 = .ok (.invokevirtual 355, 3) := by decide +kernel
theorem dX11_mean_58 : decode cX11_mean 58 = .ok (.iload 4, 2) := by decide +kernel
theorem dX11_mean_60 : decode cX11_mean 60 = .ok (.invokestatic 358, 3) := by decide +kernel
theorem dX11_mean_63 : decode cX11_mean 63 = .ok (.invokestatic 362, 3) := by decide +kernel
theorem dX11_mean_66 : decode cX11_mean 66 = .ok (.lstore 5, 2) := by decide +kernel
theorem dX11_mean_68 : decode cX11_mean 68 = .ok (.iload_n 3, 1) := by decide +kernel
theorem dX11_mean_69 : decode cX11_mean 69 = .ok (.ifCond .ne 12, 3) := by decide +kernel
theorem dX11_mean_72 : decode cX11_mean 72 = .ok (.lload 5, 2) := by decide +kernel
theorem dX11_mean_74 : decode cX11_mean 74 = .ok (.invokestatic 366, 3) := by decide +kernel
theorem dX11_mean_77 : decode cX11_mean 77 = .ok (.i2l, 1) := by decide +kernel
theorem dX11_mean_78 : decode cX11_mean 78 = .ok (.goto 9, 3) := by decide +kernel
theorem dX11_mean_81 : decode cX11_mean 81 = .ok (.lload 5, 2) := by decide +kernel
theorem dX11_mean_83 : decode cX11_mean 83 = .ok (.invokestatic 369, 3) := by decide +kernel
theorem dX11_mean_86 : decode cX11_mean 86 = .ok (.i2l, 1) := by decide +kernel
theorem dX11_mean_87 : decode cX11_mean 87 = .ok (.lreturn, 1) := by decide +kernel
theorem dX11_half_0 : decode cX11_half 0 = .ok (.iload_n 1, 1) := by decide +kernel
theorem dX11_half_1 : decode cX11_half 1 = .ok (.iconst 0, 1) := by decide +kernel
theorem dX11_half_2 : decode cX11_half 2 = .ok (.iconst 1, 1) := by decide +kernel
theorem dX11_half_3 : decode cX11_half 3 = .ok (.invokestatic 100, 3) := by decide +kernel
theorem dX11_half_6 : decode cX11_half 6 = .ok (.ifCond .ne 6, 3) := by decide +kernel
theorem dX11_half_9 : decode cX11_half 9 = .ok (.bipush (-2), 2) := by decide +kernel
theorem dX11_half_11 : decode cX11_half 11 = .ok (.ireturn, 1) := by decide +kernel
theorem dX11_half_12 : decode cX11_half 12 = .ok (.iload_n 2, 1) := by decide +kernel
theorem dX11_half_13 : decode cX11_half 13 = .ok (.iconst 0, 1) := by decide +kernel
theorem dX11_half_14 : decode cX11_half 14 = .ok (.sipush 256, 3) := by decide +kernel
theorem dX11_half_17 : decode cX11_half 17 = .ok (.invokestatic 100, 3) := by decide +kernel
theorem dX11_half_20 : decode cX11_half 20 = .ok (.ifCond .ne 6, 3) := by decide +kernel
theorem dX11_half_23 : decode cX11_half 23 = .ok (.bipush (-3), 2) := by decide +kernel
theorem dX11_half_25 : decode cX11_half 25 = .ok (.ireturn, 1) := by decide +kernel
theorem dX11_half_26 : decode cX11_half 26 = .ok (.iconst 0, 1) := by decide +kernel
theorem dX11_half_27 : decode cX11_half 27 = .ok (.istore_n 3, 1) := by decide +kernel
theorem dX11_half_28 : decode cX11_half 28 = .ok (.iload_n 3, 1) := by decide +kernel
theorem dX11_half_29 : decode cX11_half 29 = .ok (.bipush 7, 2) := by decide +kernel
theorem dX11_half_31 : decode cX11_half 31 = .ok (.if_icmp .gt 32, 3) := by decide +kernel
theorem dX11_half_34 : decode cX11_half 34 = .ok (.ldc2_w 372, 3) := by decide +kernel
theorem dX11_half_37 : decode cX11_half 37 = .ok (.aload_n 0, 1) := by decide +kernel
theorem dX11_half_38 : decode cX11_half 38 = .ok (.iload_n 1, 1) := by decide +kernel
theorem dX11_half_39 : decode cX11_half 39 = .ok (.iload_n 3, 1) := by decide +kernel
theorem dX11_half_40 : decode cX11_half 40 = .ok (.iload_n 2, 1) := by decide +kernel
theorem dX11_half_41 : decode cX11_half 41 = .ok (.invokevirtual 346, 3) := by decide +kernel
theorem dX11_half_44 : decode cX11_half 44 = .ok (.lmul, 1) := by decide +kernel
theorem dX11_half_45 : decode cX11_half 45 = .ok (.lconst 1, 1) := by decide +kernel
theorem dX11_half_46 : decode cX11_half 46 = .ok (.bipush 8, 2) := by decide +kernel
theorem dX11_half_48 : decode cX11_half 48 = .ok (.iload_n 3, 1) := by decide +kernel
theorem dX11_half_49 : decode cX11_half 49 = .ok (.imul, 1) := by decide +kernel
theorem dX11_half_50 : decode cX11_half 50 = .ok (.lshl, 1) := by decide +kernel
theorem dX11_half_51 : decode cX11_half 51 = .ok (.lcmp, 1) := by decide +kernel
theorem dX11_half_52 : decode cX11_half 52 = .ok (.ifCond .lt 5, 3) := by decide +kernel
theorem dX11_half_55 : decode cX11_half 55 = .ok (.iload_n 3, 1) := by decide +kernel
theorem dX11_half_56 : decode cX11_half 56 = .ok (.ireturn, 1) := by decide +kernel
theorem dX11_half_57 : decode cX11_half 57 = .ok (.iinc 3 1, 3) := by decide +kernel
theorem dX11_half_60 : decode cX11_half 60 = .ok (.goto (-32), 3) := by decide +kernel
theorem dX11_half_63 : decode cX11_half 63 = .ok (.iconst (-1), 1) := by decide +kernel
theorem dX11_half_64 : decode cX11_half 64 = .ok (.ireturn, 1) := by decide +kernel
theorem dX11_told_0 : decode cX11_told 0 = .ok (.iload_n 1, 1) := by decide +kernel
theorem dX11_told_1 : decode cX11_told 1 = .ok (.bipush 10, 2) := by decide +kernel
theorem dX11_told_3 : decode cX11_told 3 = .ok (.bipush 16, 2) := by decide +kernel
theorem dX11_told_5 : decode cX11_told 5 = .ok (.invokestatic 100, 3) := by decide +kernel
theorem dX11_told_8 : decode cX11_told 8 = .ok (.ifCond .eq 13, 3) := by decide +kernel
theorem dX11_told_11 : decode cX11_told 11 = .ok (.aload_n 0, 1) := by decide +kernel
theorem dX11_told_12 : decode cX11_told 12 = .ok (.getfield 18, 3) := by decide +kernel
theorem dX11_told_15 : decode cX11_told 15 = .ok (.iload_n 1, 1) := by decide +kernel
theorem dX11_told_16 : decode cX11_told 16 = .ok (.bipush 10, 2) := by decide +kernel
theorem dX11_told_18 : decode cX11_told 18 = .ok (.isub, 1) := by decide +kernel
theorem dX11_told_19 : decode cX11_told 19 = .ok (.iaload, 1) := by decide +kernel
theorem dX11_told_20 : decode cX11_told 20 = .ok (.ireturn, 1) := by decide +kernel
theorem dX11_told_21 : decode cX11_told 21 = .ok (.iload_n 1, 1) := by decide +kernel
theorem dX11_told_22 : decode cX11_told 22 = .ok (.tableswitch 50 0 2 #[26, 34, 42], 26) := by decide +kernel
theorem dX11_told_48 : decode cX11_told 48 = .ok (.aload_n 0, 1) := by decide +kernel
theorem dX11_told_49 : decode cX11_told 49 = .ok (.getfield 24, 3) := by decide +kernel
theorem dX11_told_52 : decode cX11_told 52 = .ok (.getfield 96, 3) := by decide +kernel
theorem dX11_told_55 : decode cX11_told 55 = .ok (.ireturn, 1) := by decide +kernel
theorem dX11_told_56 : decode cX11_told 56 = .ok (.aload_n 0, 1) := by decide +kernel
theorem dX11_told_57 : decode cX11_told 57 = .ok (.getfield 24, 3) := by decide +kernel
theorem dX11_told_60 : decode cX11_told 60 = .ok (.getfield 125, 3) := by decide +kernel
theorem dX11_told_63 : decode cX11_told 63 = .ok (.ireturn, 1) := by decide +kernel
theorem dX11_told_64 : decode cX11_told 64 = .ok (.aload_n 0, 1) := by decide +kernel
theorem dX11_told_65 : decode cX11_told 65 = .ok (.getfield 31, 3) := by decide +kernel
theorem dX11_told_68 : decode cX11_told 68 = .ok (.getfield 115, 3) := by decide +kernel
theorem dX11_told_71 : decode cX11_told 71 = .ok (.ireturn, 1) := by decide +kernel
theorem dX11_told_72 : decode cX11_told 72 = .ok (.iconst (-1), 1) := by decide +kernel
theorem dX11_told_73 : decode cX11_told 73 = .ok (.ireturn, 1) := by decide +kernel
theorem dX11_isWithin_0 : decode cX11_isWithin 0 = .ok (.iload_n 0, 1) := by decide +kernel
theorem dX11_isWithin_1 : decode cX11_isWithin 1 = .ok (.iload_n 1, 1) := by decide +kernel
theorem dX11_isWithin_2 : decode cX11_isWithin 2 = .ok (.if_icmp .lt 12, 3) := by decide +kernel
theorem dX11_isWithin_5 : decode cX11_isWithin 5 = .ok (.iload_n 0, 1) := by decide +kernel
theorem dX11_isWithin_6 : decode cX11_isWithin 6 = .ok (.iload_n 2, 1) := by decide +kernel
theorem dX11_isWithin_7 : decode cX11_isWithin 7 = .ok (.if_icmp .gt 7, 3) := by decide +kernel
theorem dX11_isWithin_10 : decode cX11_isWithin 10 = .ok (.iconst 1, 1) := by decide +kernel
theorem dX11_isWithin_11 : decode cX11_isWithin 11 = .ok (.goto 4, 3) := by decide +kernel
theorem dX11_isWithin_14 : decode cX11_isWithin 14 = .ok (.iconst 0, 1) := by decide +kernel
theorem dX11_isWithin_15 : decode cX11_isWithin 15 = .ok (.ireturn, 1) := by decide +kernel
theorem dX11_isByte_0 : decode cX11_isByte 0 = .ok (.iload_n 0, 1) := by decide +kernel
theorem dX11_isByte_1 : decode cX11_isByte 1 = .ok (.ifCond .lt 14, 3) := by decide +kernel
theorem dX11_isByte_4 : decode cX11_isByte 4 = .ok (.iload_n 0, 1) := by decide +kernel
theorem dX11_isByte_5 : decode cX11_isByte 5 = .ok (.sipush 255, 3) := by decide +kernel
theorem dX11_isByte_8 : decode cX11_isByte 8 = .ok (.if_icmp .gt 7, 3) := by decide +kernel
theorem dX11_isByte_11 : decode cX11_isByte 11 = .ok (.iconst 1, 1) := by decide +kernel
theorem dX11_isByte_12 : decode cX11_isByte 12 = .ok (.goto 4, 3) := by decide +kernel
theorem dX11_isByte_15 : decode cX11_isByte 15 = .ok (.iconst 0, 1) := by decide +kernel
theorem dX11_isByte_16 : decode cX11_isByte 16 = .ok (.ireturn, 1) := by decide +kernel
theorem dX11_hasRoomForCells_0 : decode cX11_hasRoomForCells 0 = .ok (.bipush 40, 2) := by decide +kernel
theorem dX11_hasRoomForCells_2 : decode cX11_hasRoomForCells 2 = .ok (.bipush 8, 2) := by decide +kernel
theorem dX11_hasRoomForCells_4 : decode cX11_hasRoomForCells 4 = .ok (.aload_n 0, 1) := by decide +kernel
theorem dX11_hasRoomForCells_5 : decode cX11_hasRoomForCells 5 = .ok (.getfield 18, 3) := by decide +kernel
theorem dX11_hasRoomForCells_8 : decode cX11_hasRoomForCells 8 = .ok (.iconst 0, 1) := by decide +kernel
theorem dX11_hasRoomForCells_9 : decode cX11_hasRoomForCells 9 = .ok (.iaload, 1) := by decide +kernel
theorem dX11_hasRoomForCells_10 : decode cX11_hasRoomForCells 10 = .ok (.imul, 1) := by decide +kernel
theorem dX11_hasRoomForCells_11 : decode cX11_hasRoomForCells 11 = .ok (.iadd, 1) := by decide +kernel
theorem dX11_hasRoomForCells_12 : decode cX11_hasRoomForCells 12 = .ok (.istore_n 2, 1) := by decide +kernel
theorem dX11_hasRoomForCells_13 : decode cX11_hasRoomForCells 13 = .ok (.aload_n 0, 1) := by decide +kernel
theorem dX11_hasRoomForCells_14 : decode cX11_hasRoomForCells 14 = .ok (.getfield 31, 3) := by decide +kernel
theorem dX11_hasRoomForCells_17 : decode cX11_hasRoomForCells 17 = .ok (.getfield 115, 3) := by decide +kernel
theorem dX11_hasRoomForCells_20 : decode cX11_hasRoomForCells 20 = .ok (.iload_n 1, 1) := by decide +kernel
theorem dX11_hasRoomForCells_21 : decode cX11_hasRoomForCells 21 = .ok (.iadd, 1) := by decide +kernel
theorem dX11_hasRoomForCells_22 : decode cX11_hasRoomForCells 22 = .ok (.bipush 64, 2) := by decide +kernel
theorem dX11_hasRoomForCells_24 : decode cX11_hasRoomForCells 24 = .ok (.if_icmp .gt 20, 3) := by decide +kernel
theorem dX11_hasRoomForCells_27 : decode cX11_hasRoomForCells 27 = .ok (.aload_n 0, 1) := by decide +kernel
theorem dX11_hasRoomForCells_28 : decode cX11_hasRoomForCells 28 = .ok (.getfield 24, 3) := by decide +kernel
theorem dX11_hasRoomForCells_31 : decode cX11_hasRoomForCells 31 = .ok (.iload_n 1, 1) := by decide +kernel
theorem dX11_hasRoomForCells_32 : decode cX11_hasRoomForCells 32 = .ok (.iload_n 2, 1) := by decide +kernel
theorem dX11_hasRoomForCells_33 : decode cX11_hasRoomForCells 33 = .ok (.imul, 1) := by decide +kernel
theorem dX11_hasRoomForCells_34 : decode cX11_hasRoomForCells 34 = .ok (.invokevirtual 88, 3) := by decide +kernel
theorem dX11_hasRoomForCells_37 : decode cX11_hasRoomForCells 37 = .ok (.ifCond .eq 7, 3) := by decide +kernel
theorem dX11_hasRoomForCells_40 : decode cX11_hasRoomForCells 40 = .ok (.iconst 1, 1) := by decide +kernel
theorem dX11_hasRoomForCells_41 : decode cX11_hasRoomForCells 41 = .ok (.goto 4, 3) := by decide +kernel
theorem dX11_hasRoomForCells_44 : decode cX11_hasRoomForCells 44 = .ok (.iconst 0, 1) := by decide +kernel
theorem dX11_hasRoomForCells_45 : decode cX11_hasRoomForCells 45 = .ok (.ireturn, 1) := by decide +kernel
theorem dX11_isLoadHeld_0 : decode cX11_isLoadHeld 0 = .ok (.aload_n 0, 1) := by decide +kernel
theorem dX11_isLoadHeld_1 : decode cX11_isLoadHeld 1 = .ok (.getfield 31, 3) := by decide +kernel
theorem dX11_isLoadHeld_4 : decode cX11_isLoadHeld 4 = .ok (.getfield 115, 3) := by decide +kernel
theorem dX11_isLoadHeld_7 : decode cX11_isLoadHeld 7 = .ok (.ifCond .gt 25, 3) := by decide +kernel
theorem dX11_isLoadHeld_10 : decode cX11_isLoadHeld 10 = .ok (.aload_n 0, 1) := by decide +kernel
theorem dX11_isLoadHeld_11 : decode cX11_isLoadHeld 11 = .ok (.getfield 47, 3) := by decide +kernel
theorem dX11_isLoadHeld_14 : decode cX11_isLoadHeld 14 = .ok (.getfield 168, 3) := by decide +kernel
theorem dX11_isLoadHeld_17 : decode cX11_isLoadHeld 17 = .ok (.ifCond .ne 15, 3) := by decide +kernel
theorem dX11_isLoadHeld_20 : decode cX11_isLoadHeld 20 = .ok (.aload_n 0, 1) := by decide +kernel
theorem dX11_isLoadHeld_21 : decode cX11_isLoadHeld 21 = .ok (.getfield 47, 3) := by decide +kernel
theorem dX11_isLoadHeld_24 : decode cX11_isLoadHeld 24 = .ok (.getfield 171, 3) := by decide +kernel
theorem dX11_isLoadHeld_27 : decode cX11_isLoadHeld 27 = .ok (.iconst 3, 1) := by decide +kernel
theorem dX11_isLoadHeld_28 : decode cX11_isLoadHeld 28 = .ok (.iaload, 1) := by decide +kernel
theorem dX11_isLoadHeld_29 : decode cX11_isLoadHeld 29 = .ok (.ifCond .le 7, 3) := by decide +kernel
theorem dX11_isLoadHeld_32 : decode cX11_isLoadHeld 32 = .ok (.iconst 1, 1) := by decide +kernel
theorem dX11_isLoadHeld_33 : decode cX11_isLoadHeld 33 = .ok (.goto 4, 3) := by decide +kernel
theorem dX11_isLoadHeld_36 : decode cX11_isLoadHeld 36 = .ok (.iconst 0, 1) := by decide +kernel
theorem dX11_isLoadHeld_37 : decode cX11_isLoadHeld 37 = .ok (.ireturn, 1) := by decide +kernel
theorem dX11_endOf_0 : decode cX11_endOf 0 = .ok (.aload_n 0, 1) := by decide +kernel
theorem dX11_endOf_1 : decode cX11_endOf 1 = .ok (.getfield 24, 3) := by decide +kernel
theorem dX11_endOf_4 : decode cX11_endOf 4 = .ok (.getfield 96, 3) := by decide +kernel
theorem dX11_endOf_7 : decode cX11_endOf 7 = .ok (.aload_n 0, 1) := by decide +kernel
theorem dX11_endOf_8 : decode cX11_endOf 8 = .ok (.getfield 24, 3) := by decide +kernel
theorem dX11_endOf_11 : decode cX11_endOf 11 = .ok (.getfield 125, 3) := by decide +kernel
theorem dX11_endOf_14 : decode cX11_endOf 14 = .ok (.iload_n 1, 1) := by decide +kernel
theorem dX11_endOf_15 : decode cX11_endOf 15 = .ok (.iadd, 1) := by decide +kernel
theorem dX11_endOf_16 : decode cX11_endOf 16 = .ok (.invokestatic 283, 3) := by decide +kernel
theorem dX11_endOf_19 : decode cX11_endOf 19 = .ok (.ireturn, 1) := by decide +kernel
theorem dX11_advance_0 : decode cX11_advance 0 = .ok (.aload_n 0, 1) := by decide +kernel
theorem dX11_advance_1 : decode cX11_advance 1 = .ok (.getfield 24, 3) := by decide +kernel
theorem dX11_advance_4 : decode cX11_advance 4 = .ok (.getfield 125, 3) := by decide +kernel
theorem dX11_advance_7 : decode cX11_advance 7 = .ok (.istore 4, 2) := by decide +kernel
theorem dX11_advance_9 : decode cX11_advance 9 = .ok (.iload 4, 2) := by decide +kernel
theorem dX11_advance_11 : decode cX11_advance 11 = .ok (.iload_n 2, 1) := by decide +kernel
theorem dX11_advance_12 : decode cX11_advance 12 = .ok (.if_icmp .ge 43, 3) := by decide +kernel
theorem dX11_advance_15 : decode cX11_advance 15 = .ok (.aload_n 0, 1) := by decide +kernel
theorem dX11_advance_16 : decode cX11_advance 16 = .ok (.getfield 24, 3) := by decide +kernel
theorem dX11_advance_19 : decode cX11_advance 19 = .ok (.iload 4, 2) := by decide +kernel
theorem dX11_advance_21 : decode cX11_advance 21 = .ok (.invokevirtual 131, 3) := by decide +kernel
theorem dX11_advance_24 : decode cX11_advance 24 = .ok (.istore 5, 2) := by decide +kernel
theorem dX11_advance_26 : decode cX11_advance 26 = .ok (.aload_n 1, 1) := by decide +kernel
theorem dX11_advance_27 : decode cX11_advance 27 = .ok (.iload 4, 2) := by decide +kernel
theorem dX11_advance_29 : decode cX11_advance 29 = .ok (.iload_n 3, 1) := by decide +kernel
theorem dX11_advance_30 : decode cX11_advance 30 = .ok (.if_icmp .ne 10, 3) := by decide +kernel
theorem dX11_advance_33 : decode cX11_advance 33 = .ok (.iconst 1, 1) := by decide +kernel
theorem dX11_advance_34 : decode cX11_advance 34 = .ok (.iload 5, 2) := by decide +kernel
theorem dX11_advance_36 : decode cX11_advance 36 = .ok (.isub, 1) := by decide +kernel
theorem dX11_advance_37 : decode cX11_advance 37 = .ok (.goto 5, 3) := by decide +kernel
theorem dX11_advance_40 : decode cX11_advance 40 = .ok (.iload 5, 2) := by decide +kernel
theorem dX11_advance_42 : decode cX11_advance 42 = .ok (.iload 4, 2) := by decide +kernel
theorem dX11_advance_44 : decode cX11_advance 44 = .ok (.iconst 1, 1) := by decide +kernel
theorem dX11_advance_45 : decode cX11_advance 45 = .ok (.iadd, 1) := by decide +kernel
theorem dX11_advance_46 : decode cX11_advance 46 = .ok (.invokevirtual 271, 3) := by decide +kernel
theorem dX11_advance_49 : decode cX11_advance 49 = .ok (.iinc 4 1, 3) := by decide +kernel
theorem dX11_advance_52 : decode cX11_advance 52 = .ok (.goto (-43), 3) := by decide +kernel
theorem dX11_advance_55 : decode cX11_advance 55 = .ok (.return_, 1) := by decide +kernel
theorem dX11_foundOf_0 : decode cX11_foundOf 0 = .ok (.aload_n 0, 1) := by decide +kernel
theorem dX11_foundOf_1 : decode cX11_foundOf 1 = .ok (.getfield 31, 3) := by decide +kernel
theorem dX11_foundOf_4 : decode cX11_foundOf 4 = .ok (.aload_n 0, 1) := by decide +kernel
theorem dX11_foundOf_5 : decode cX11_foundOf 5 = .ok (.getfield 38, 3) := by decide +kernel
theorem dX11_foundOf_8 : decode cX11_foundOf 8 = .ok (.getfield 230, 3) := by decide +kernel
theorem dX11_foundOf_11 : decode cX11_foundOf 11 = .ok (.iload_n 1, 1) := by decide +kernel
theorem dX11_foundOf_12 : decode cX11_foundOf 12 = .ok (.iconst 0, 1) := by decide +kernel
theorem dX11_foundOf_13 : decode cX11_foundOf 13 = .ok (.invokevirtual 242, 3) := by decide +kernel
theorem dX11_foundOf_16 : decode cX11_foundOf 16 = .ok (.aload_n 0, 1) := by decide +kernel
theorem dX11_foundOf_17 : decode cX11_foundOf 17 = .ok (.getfield 38, 3) := by decide +kernel
theorem dX11_foundOf_20 : decode cX11_foundOf 20 = .ok (.getfield 374, 3) := by decide +kernel
theorem dX11_foundOf_23 : decode cX11_foundOf 23 = .ok (.aload_n 0, 1) := by decide +kernel
theorem dX11_foundOf_24 : decode cX11_foundOf 24 = .ok (.getfield 38, 3) := by decide +kernel
theorem dX11_foundOf_27 : decode cX11_foundOf 27 = .ok (.iload_n 1, 1) := by decide +kernel
theorem dX11_foundOf_28 : decode cX11_foundOf 28 = .ok (.invokevirtual 378, 3) := by decide +kernel
theorem dX11_foundOf_31 : decode cX11_foundOf 31 = .ok (.aload_n 0, 1) := by decide +kernel
theorem dX11_foundOf_32 : decode cX11_foundOf 32 = .ok (.getfield 18, 3) := by decide +kernel
theorem dX11_foundOf_35 : decode cX11_foundOf 35 = .ok (.iconst 0, 1) := by decide +kernel
theorem dX11_foundOf_36 : decode cX11_foundOf 36 = .ok (.iaload, 1) := by decide +kernel
theorem dX11_foundOf_37 : decode cX11_foundOf 37 = .ok (.invokevirtual 381, 3) := by decide +kernel
theorem dX11_foundOf_40 : decode cX11_foundOf 40 = .ok (.ireturn, 1) := by decide +kernel
theorem dX11_bitsTillSure_0 : decode cX11_bitsTillSure 0 = .ok (.aload_n 0, 1) := by decide +kernel
theorem dX11_bitsTillSure_1 : decode cX11_bitsTillSure 1 = .ok (.getfield 51, 3) := by decide +kernel
theorem dX11_bitsTillSure_4 : decode cX11_bitsTillSure 4 = .ok (.getfield 171, 3) := by decide +kernel
theorem dX11_bitsTillSure_7 : decode cX11_bitsTillSure 7 = .ok (.iconst 4, 1) := by decide +kernel
theorem dX11_bitsTillSure_8 : decode cX11_bitsTillSure 8 = .ok (.iaload, 1) := by decide +kernel
theorem dX11_bitsTillSure_9 : decode cX11_bitsTillSure 9 = .ok (.istore_n 2, 1) := by decide +kernel
theorem dX11_bitsTillSure_10 : decode cX11_bitsTillSure 10 = .ok (.iload_n 1, 1) := by decide +kernel
theorem dX11_bitsTillSure_11 : decode cX11_bitsTillSure 11 = .ok (.istore_n 3, 1) := by decide +kernel
theorem dX11_bitsTillSure_12 : decode cX11_bitsTillSure 12 = .ok (.iload_n 3, 1) := by decide +kernel
theorem dX11_bitsTillSure_13 : decode cX11_bitsTillSure 13 = .ok (.aload_n 0, 1) := by decide +kernel
theorem dX11_bitsTillSure_14 : decode cX11_bitsTillSure 14 = .ok (.getfield 24, 3) := by decide +kernel
theorem dX11_bitsTillSure_17 : decode cX11_bitsTillSure 17 = .ok (.getfield 96, 3) := by decide +kernel
theorem dX11_bitsTillSure_20 : decode cX11_bitsTillSure 20 = .ok (.if_icmp .ge 46, 3) := by decide +kernel
theorem dX11_bitsTillSure_23 : decode cX11_bitsTillSure 23 = .ok (.aload_n 0, 1) := by decide +kernel
theorem dX11_bitsTillSure_24 : decode cX11_bitsTillSure 24 = .ok (.getfield 51, 3) := by decide +kernel
theorem dX11_bitsTillSure_27 : decode cX11_bitsTillSure 27 = .ok (.aload_n 0, 1) := by decide +kernel
theorem dX11_bitsTillSure_28 : decode cX11_bitsTillSure 28 = .ok (.getfield 24, 3) := by decide +kernel
theorem dX11_bitsTillSure_31 : decode cX11_bitsTillSure 31 = .ok (.iload_n 3, 1) := by decide +kernel
theorem dX11_bitsTillSure_32 : decode cX11_bitsTillSure 32 = .ok (.invokevirtual 131, 3) := by decide +kernel
theorem dX11_bitsTillSure_35 : decode cX11_bitsTillSure 35 = .ok (.iload_n 3, 1) := by decide +kernel
theorem dX11_bitsTillSure_36 : decode cX11_bitsTillSure 36 = .ok (.iconst 1, 1) := by decide +kernel
theorem dX11_bitsTillSure_37 : decode cX11_bitsTillSure 37 = .ok (.iadd, 1) := by decide +kernel
theorem dX11_bitsTillSure_38 : decode cX11_bitsTillSure 38 = .ok (.invokevirtual 271, 3) := by decide +kernel
theorem dX11_bitsTillSure_41 : decode cX11_bitsTillSure 41 = .ok (.aload_n 0, 1) := by decide +kernel
theorem dX11_bitsTillSure_42 : decode cX11_bitsTillSure 42 = .ok (.getfield 51, 3) := by decide +kernel
theorem dX11_bitsTillSure_45 : decode cX11_bitsTillSure 45 = .ok (.getfield 171, 3) := by decide +kernel
theorem dX11_bitsTillSure_48 : decode cX11_bitsTillSure 48 = .ok (.iconst 4, 1) := by decide +kernel
theorem dX11_bitsTillSure_49 : decode cX11_bitsTillSure 49 = .ok (.iaload, 1) := by decide +kernel
theorem dX11_bitsTillSure_50 : decode cX11_bitsTillSure 50 = .ok (.iload_n 2, 1) := by decide +kernel
theorem dX11_bitsTillSure_51 : decode cX11_bitsTillSure 51 = .ok (.if_icmp .le 9, 3) := by decide +kernel
theorem dX11_bitsTillSure_54 : decode cX11_bitsTillSure 54 = .ok (.iload_n 3, 1) := by decide +kernel
theorem dX11_bitsTillSure_55 : decode cX11_bitsTillSure 55 = .ok (.iconst 1, 1) := by decide +kernel
theorem dX11_bitsTillSure_56 : decode cX11_bitsTillSure 56 = .ok (.iadd, 1) := by decide +kernel
theorem dX11_bitsTillSure_57 : decode cX11_bitsTillSure 57 = .ok (.iload_n 1, 1) := by decide +kernel
theorem dX11_bitsTillSure_58 : decode cX11_bitsTillSure 58 = .ok (.isub, 1) := by decide +kernel
theorem dX11_bitsTillSure_59 : decode cX11_bitsTillSure 59 = .ok (.ireturn, 1) := by decide +kernel
theorem dX11_bitsTillSure_60 : decode cX11_bitsTillSure 60 = .ok (.iinc 3 1, 3) := by decide +kernel
theorem dX11_bitsTillSure_63 : decode cX11_bitsTillSure 63 = .ok (.goto (-51), 3) := by decide +kernel
theorem dX11_bitsTillSure_66 : decode cX11_bitsTillSure 66 = .ok (.iconst (-1), 1) := by decide +kernel
theorem dX11_bitsTillSure_67 : decode cX11_bitsTillSure 67 = .ok (.ireturn, 1) := by decide +kernel
theorem dX11_tallyPhases_0 : decode cX11_tallyPhases 0 = .ok (.aload_n 0, 1) := by decide +kernel
theorem dX11_tallyPhases_1 : decode cX11_tallyPhases 1 = .ok (.getfield 64, 3) := by decide +kernel
theorem dX11_tallyPhases_4 : decode cX11_tallyPhases 4 = .ok (.iconst 0, 1) := by decide +kernel
theorem dX11_tallyPhases_5 : decode cX11_tallyPhases 5 = .ok (.invokestatic 385, 3) := by decide +kernel
theorem dX11_tallyPhases_8 : decode cX11_tallyPhases 8 = .ok (.aload_n 0, 1) := by decide +kernel
theorem dX11_tallyPhases_9 : decode cX11_tallyPhases 9 = .ok (.getfield 60, 3) := by decide +kernel
theorem dX11_tallyPhases_12 : decode cX11_tallyPhases 12 = .ok (.invokevirtual 288, 3) := by decide +kernel
theorem dX11_tallyPhases_15 : decode cX11_tallyPhases 15 = .ok (.iconst 0, 1) := by decide +kernel
theorem dX11_tallyPhases_16 : decode cX11_tallyPhases 16 = .ok (.istore_n 2, 1) := by decide +kernel
theorem dX11_tallyPhases_17 : decode cX11_tallyPhases 17 = .ok (.aload_n 0, 1) := by decide +kernel
theorem dX11_tallyPhases_18 : decode cX11_tallyPhases 18 = .ok (.getfield 24, 3) := by decide +kernel
theorem dX11_tallyPhases_21 : decode cX11_tallyPhases 21 = .ok (.getfield 125, 3) := by decide +kernel
theorem dX11_tallyPhases_24 : decode cX11_tallyPhases 24 = .ok (.istore_n 3, 1) := by decide +kernel
theorem dX11_tallyPhases_25 : decode cX11_tallyPhases 25 = .ok (.iload_n 3, 1) := by decide +kernel
theorem dX11_tallyPhases_26 : decode cX11_tallyPhases 26 = .ok (.aload_n 0, 1) := by decide +kernel
theorem dX11_tallyPhases_27 : decode cX11_tallyPhases 27 = .ok (.getfield 24, 3) := by decide +kernel
theorem dX11_tallyPhases_30 : decode cX11_tallyPhases 30 = .ok (.getfield 96, 3) := by decide +kernel
theorem dX11_tallyPhases_33 : decode cX11_tallyPhases 33 = .ok (.if_icmp .ge 78, 3) := by decide +kernel
theorem dX11_tallyPhases_36 : decode cX11_tallyPhases 36 = .ok (.aload_n 0, 1) := by decide +kernel
theorem dX11_tallyPhases_37 : decode cX11_tallyPhases 37 = .ok (.getfield 60, 3) := by decide +kernel
theorem dX11_tallyPhases_40 : decode cX11_tallyPhases 40 = .ok (.aload_n 0, 1) := by decide +kernel
theorem dX11_tallyPhases_41 : decode cX11_tallyPhases 41 = .ok (.getfield 24, 3) := by decide +kernel
theorem dX11_tallyPhases_44 : decode cX11_tallyPhases 44 = .ok (.iload_n 3, 1) := by decide +kernel
theorem dX11_tallyPhases_45 : decode cX11_tallyPhases 45 = .ok (.invokevirtual 131, 3) := by decide +kernel
theorem dX11_tallyPhases_48 : decode cX11_tallyPhases 48 = .ok (.invokevirtual 289, 3) := by decide +kernel
theorem dX11_tallyPhases_51 : decode cX11_tallyPhases 51 = .ok (.aload_n 0, 1) := by decide +kernel
theorem dX11_tallyPhases_52 : decode cX11_tallyPhases 52 = .ok (.getfield 60, 3) := by decide +kernel
theorem dX11_tallyPhases_55 : decode cX11_tallyPhases 55 = .ok (.invokevirtual 215, 3) := by decide +kernel
theorem dX11_tallyPhases_58 : decode cX11_tallyPhases 58 = .ok (.ifCond .eq 47, 3) := by decide +kernel
theorem dX11_tallyPhases_61 : decode cX11_tallyPhases 61 = .ok (.aload_n 0, 1) := by decide +kernel
theorem dX11_tallyPhases_62 : decode cX11_tallyPhases 62 = .ok (.getfield 60, 3) := by decide +kernel
theorem dX11_tallyPhases_65 : decode cX11_tallyPhases 65 = .ok (.invokevirtual 292, 3) := by decide +kernel
theorem dX11_tallyPhases_68 : decode cX11_tallyPhases 68 = .ok (.ifCond .eq 22, 3) := by decide +kernel
theorem dX11_tallyPhases_71 : decode cX11_tallyPhases 71 = .ok (.iload_n 2, 1) := by decide +kernel
theorem dX11_tallyPhases_72 : decode cX11_tallyPhases 72 = .ok (.aload_n 0, 1) := by decide +kernel
theorem dX11_tallyPhases_73 : decode cX11_tallyPhases 73 = .ok (.getfield 64, 3) := by decide +kernel
theorem dX11_tallyPhases_76 : decode cX11_tallyPhases 76 = .ok (.arraylength, 1) := by decide +kernel
theorem dX11_tallyPhases_77 : decode cX11_tallyPhases 77 = .ok (.if_icmp .ge 13, 3) := by decide +kernel
theorem dX11_tallyPhases_80 : decode cX11_tallyPhases 80 = .ok (.aload_n 0, 1) := by decide +kernel
theorem dX11_tallyPhases_81 : decode cX11_tallyPhases 81 = .ok (.getfield 64, 3) := by decide +kernel
theorem dX11_tallyPhases_84 : decode cX11_tallyPhases 84 = .ok (.iload_n 2, 1) := by decide +kernel
theorem dX11_tallyPhases_85 : decode cX11_tallyPhases 85 = .ok (.dup2, 1) := by decide +kernel
theorem dX11_tallyPhases_86 : decode cX11_tallyPhases 86 = .ok (.iaload, 1) := by decide +kernel
theorem dX11_tallyPhases_87 : decode cX11_tallyPhases 87 = .ok (.iconst 1, 1) := by decide +kernel
theorem dX11_tallyPhases_88 : decode cX11_tallyPhases 88 = .ok (.iadd, 1) := by decide +kernel
theorem dX11_tallyPhases_89 : decode cX11_tallyPhases 89 = .ok (.iastore, 1) := by decide +kernel
theorem dX11_tallyPhases_90 : decode cX11_tallyPhases 90 = .ok (.iload_n 2, 1) := by decide +kernel
theorem dX11_tallyPhases_91 : decode cX11_tallyPhases 91 = .ok (.iconst 1, 1) := by decide +kernel
theorem dX11_tallyPhases_92 : decode cX11_tallyPhases 92 = .ok (.iadd, 1) := by decide +kernel
theorem dX11_tallyPhases_93 : decode cX11_tallyPhases 93 = .ok (.iload_n 1, 1) := by decide +kernel
theorem dX11_tallyPhases_94 : decode cX11_tallyPhases 94 = .ok (.if_icmp .ge 9, 3) := by decide +kernel
theorem dX11_tallyPhases_97 : decode cX11_tallyPhases 97 = .ok (.iload_n 2, 1) := by decide +kernel
theorem dX11_tallyPhases_98 : decode cX11_tallyPhases 98 = .ok (.iconst 1, 1) := by decide +kernel
theorem dX11_tallyPhases_99 : decode cX11_tallyPhases 99 = .ok (.iadd, 1) := by decide +kernel
theorem dX11_tallyPhases_100 : decode cX11_tallyPhases 100 = .ok (.goto 4, 3) := by decide +kernel
theorem dX11_tallyPhases_103 : decode cX11_tallyPhases 103 = .ok (.iconst 0, 1) := by decide +kernel
theorem dX11_tallyPhases_104 : decode cX11_tallyPhases 104 = .ok (.istore_n 2, 1) := by decide +kernel
theorem dX11_tallyPhases_105 : decode cX11_tallyPhases 105 = .ok (.iinc 3 1, 3) := by decide +kernel
theorem dX11_tallyPhases_108 : decode cX11_tallyPhases 108 = .ok (.goto (-83), 3) := by decide +kernel
theorem dX11_tallyPhases_111 : decode cX11_tallyPhases 111 = .ok (.return_, 1) := by decide +kernel
theorem dX11_oddsOf_0 : decode cX11_oddsOf 0 = .ok (.iload_n 1, 1) := by decide +kernel
theorem dX11_oddsOf_1 : decode cX11_oddsOf 1 = .ok (.ifCond .ne 7, 3) := by decide +kernel
theorem dX11_oddsOf_4 : decode cX11_oddsOf 4 = .ok (.iconst 0, 1) := by decide +kernel
theorem dX11_oddsOf_5 : decode cX11_oddsOf 5 = .ok (.goto 4, 3) := by decide +kernel
theorem dX11_oddsOf_8 : decode cX11_oddsOf 8 = .ok (.iconst 1, 1) := by decide +kernel
theorem dX11_oddsOf_9 : decode cX11_oddsOf 9 = .ok (.istore 4, 2) := by decide +kernel
theorem dX11_oddsOf_11 : decode cX11_oddsOf 11 = .ok (.aload_n 0, 1) := by decide +kernel
theorem dX11_oddsOf_12 : decode cX11_oddsOf 12 = .ok (.getfield 84, 3) := by decide +kernel
theorem dX11_oddsOf_15 : decode cX11_oddsOf 15 = .ok (.aload_n 0, 1) := by decide +kernel
theorem dX11_oddsOf_16 : decode cX11_oddsOf 16 = .ok (.iload_n 1, 1) := by decide +kernel
theorem dX11_oddsOf_17 : decode cX11_oddsOf 17 = .ok (.invokevirtual 355, 3) := by decide +kernel
theorem dX11_oddsOf_20 : decode cX11_oddsOf 20 = .ok (.iload 4, 2) := by decide +kernel
theorem dX11_oddsOf_22 : decode cX11_oddsOf 22 = .ok (.iload_n 2, 1) := by decide +kernel
theorem dX11_oddsOf_23 : decode cX11_oddsOf 23 = .ok (.iload_n 1, 1) := by decide +kernel
theorem dX11_oddsOf_24 : decode cX11_oddsOf 24 = .ok (.iload_n 3, 1) := by decide +kernel
theorem dX11_oddsOf_25 : decode cX11_oddsOf 25 = .ok (.invokestatic 350, 3) := by decide +kernel
theorem dX11_oddsOf_28 : decode cX11_oddsOf 28 = .ok (.invokevirtual 391, 3) := by decide +kernel
theorem dX11_oddsOf_31 : decode cX11_oddsOf 31 = .ok (.lreturn, 1) := by decide +kernel
theorem dX11_rungsOf_0 : decode cX11_rungsOf 0 = .ok (.iload_n 1, 1) := by decide +kernel
theorem dX11_rungsOf_1 : decode cX11_rungsOf 1 = .ok (.ifCond .ne 12, 3) := by decide +kernel
theorem dX11_rungsOf_4 : decode cX11_rungsOf 4 = .ok (.aload_n 0, 1) := by decide +kernel
theorem dX11_rungsOf_5 : decode cX11_rungsOf 5 = .ok (.getfield 18, 3) := by decide +kernel
theorem dX11_rungsOf_8 : decode cX11_rungsOf 8 = .ok (.iconst 1, 1) := by decide +kernel
theorem dX11_rungsOf_9 : decode cX11_rungsOf 9 = .ok (.iaload, 1) := by decide +kernel
theorem dX11_rungsOf_10 : decode cX11_rungsOf 10 = .ok (.goto 11, 3) := by decide +kernel
theorem dX11_rungsOf_13 : decode cX11_rungsOf 13 = .ok (.aload_n 0, 1) := by decide +kernel
theorem dX11_rungsOf_14 : decode cX11_rungsOf 14 = .ok (.getfield 18, 3) := by decide +kernel
theorem dX11_rungsOf_17 : decode cX11_rungsOf 17 = .ok (.iconst 2, 1) := by decide +kernel
theorem dX11_rungsOf_18 : decode cX11_rungsOf 18 = .ok (.iaload, 1) := by decide +kernel
theorem dX11_rungsOf_19 : decode cX11_rungsOf 19 = .ok (.iconst 1, 1) := by decide +kernel
theorem dX11_rungsOf_20 : decode cX11_rungsOf 20 = .ok (.iadd, 1) := by decide +kernel
theorem dX11_rungsOf_21 : decode cX11_rungsOf 21 = .ok (.ireturn, 1) := by decide +kernel
theorem dX11_climbsOf_0 : decode cX11_climbsOf 0 = .ok (.iload_n 0, 1) := by decide +kernel
theorem dX11_climbsOf_1 : decode cX11_climbsOf 1 = .ok (.ifCond .ne 11, 3) := by decide +kernel
theorem dX11_climbsOf_4 : decode cX11_climbsOf 4 = .ok (.sipush 256, 3) := by decide +kernel
theorem dX11_climbsOf_7 : decode cX11_climbsOf 7 = .ok (.iload_n 1, 1) := by decide +kernel
theorem dX11_climbsOf_8 : decode cX11_climbsOf 8 = .ok (.isub, 1) := by decide +kernel
theorem dX11_climbsOf_9 : decode cX11_climbsOf 9 = .ok (.goto 4, 3) := by decide +kernel
theorem dX11_climbsOf_12 : decode cX11_climbsOf 12 = .ok (.iload_n 1, 1) := by decide +kernel
theorem dX11_climbsOf_13 : decode cX11_climbsOf 13 = .ok (.ireturn, 1) := by decide +kernel
